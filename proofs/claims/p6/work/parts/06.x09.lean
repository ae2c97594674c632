set_option maxHeartbeats 4000000 in
set_option maxRecDepth 100000 in
theorem c264_X0_prepare (l : Launch) (g : GD) (h0 : Nat) (h1 : Nat) (h2 : Nat) (h3 : Nat) (h4 : Nat) (x0 : Int32) (x1 : Int32) (y0 : Int64) (x2 : Int32) (x3 : Int32) (x4 : Int32) (x5 : Int32) (h5 : Nat) (h6 : Nat) (h7 : Nat) (x6 : Int32) (x7 : Int32) (h8 : Nat) (x8 : Int32) (x9 : Int32) (fm0 : Nat → Int64) (i_x5 : (0 ≤ (Int32.toInt x5) ∧ (Int32.toInt x5) ≤ 1)) (i_x6 : (0 ≤ (Int32.toInt x6) ∧ (Int32.toInt x6) ≤ 10)) (i_x7 : (0 ≤ (Int32.toInt x7) ∧ (Int32.toInt x7) ≤ 1)) (i_x8 : (0 ≤ (Int32.toInt x8) ∧ (Int32.toInt x8) ≤ 48)) (i_x9 : (0 ≤ (Int32.toInt x9) ∧ (Int32.toInt x9) ≤ 48)) (sz : Nat) : Met l yX0_prepare wsX0_prepare ({ frames := 2, cells := 0, slots := 0, locals := 45 }) (va_Pc [.ref h0] (PW g [(h0, .inr (0, [.ref h1, .ref h3, .ref h4, .int x0, .int x1, .long y0, .int x2, .int x3, .int x4, .int x5, .ref h5, .ref h6, .ref h7, .int x6, .int x7])), (h1, .inr (6, [.ref h8, .ref h2, .int x8, .int x9])), (h2, .inl (gJ g, 32, .inr (.inl fm0)))] sz)) (va_Qv (fun (u : (Int32) × (Nat → Int64)) => 0 ≤ (Int32.toInt (u.1)) ∧ (Int32.toInt (u.1)) ≤ 48) (BW g (va_A [(h0, .inr (0, [.ref h1, .ref h3, .ref h4, .int x0, .int x1, .long y0, .int x2, .int x3, .int x4, .int x5, .ref h5, .ref h6, .ref h7, .int x6, .int x7])), (h1, .inr (6, [.ref h8, .ref h2, .int x8, .int x9])), (h2, .inl (gJ g, 32, .inr (.inl fm0)))] sz) (fun u : (Int32) × (Nat → Int64) => [(h0, .inr (0, [.ref h1, .ref h3, .ref h4, .int x0, .int x1, .long y0, .int x2, .int x3, .int x4, .int x5, .ref h5, .ref h6, .ref h7, .int x6, .int 0])), (h1, .inr (6, [.ref h8, .ref h2, .int 0, .int u.1])), (h2, .inl (gJ g, 32, .inr (.inl u.2)))])) (va_A [(h0, .inr (0, [.ref h1, .ref h3, .ref h4, .int x0, .int x1, .long y0, .int x2, .int x3, .int x4, .int x5, .ref h5, .ref h6, .ref h7, .int x6, .int x7])), (h1, .inr (6, [.ref h8, .ref h2, .int x8, .int x9])), (h2, .inl (gJ g, 32, .inr (.inl fm0)))] sz)) 0 0 (va_A [(h0, .inr (0, [.ref h1, .ref h3, .ref h4, .int x0, .int x1, .long y0, .int x2, .int x3, .int x4, .int x5, .ref h5, .ref h6, .ref h7, .int x6, .int x7])), (h1, .inr (6, [.ref h8, .ref h2, .int x8, .int x9])), (h2, .inl (gJ g, 32, .inr (.inl fm0)))] sz) := by
  refine met_v RX0 (by decide) rfl rfl (Nat.le_of_ble_eq_true rfl) [(0, .ref h0)] rfl ?_
  intro p e s m args below meth c A Q C hnm Rt
  have hiX0 : ∀ w ∈ wsX00, w ∈ wsX0_prepare := fun w h => List.mem_cons_of_mem _ (List.mem_append_left _ (List.mem_append_left _ (List.mem_append_right _ (h))))
  refine r_aload_n 0 0 C dX0_prepare_0 rfl ?_
  refine r_get 1 C dX0_prepare_1 (k := 0) 0 rfl rfl hiX0 (by decide) rfl (mg 1 rfl) (Or.inr (mg 2 rfl)) rfl ?_
  refine r_bipush 4 48 C dX0_prepare_4 (by decide) ?_
  refine r_callVv 6 C dX0_prepare_6 [] [(h1, .inr (6, [.ref h8, .ref h2, .int x8, .int x9])), (h2, .inl (gJ g, 32, .inr (.inl fm0)))] [(h0, .inr (0, [.ref h1, .ref h3, .ref h4, .int x0, .int x1, .long y0, .int x2, .int x3, .int x4, .int x5, .ref h5, .ref h6, .ref h7, .int x6, .int x7]))] (fun sz => c223_X7_begin l g h1 h2 48 h8 x8 x9 fm0 (by decide) i_x8 i_x9 sz) gX0_prepare_X7_begin rfl ⟨rfl, rfl⟩ 1 (by decide) ⟨Nat.le_of_ble_eq_true rfl, Nat.le_of_ble_eq_true rfl⟩ 1 rfl rfl [1, 2] [0] rfl rfl (by decide) (by decide) (by decide) rfl rfl (Nat.le_of_ble_eq_true rfl) ⟨Nat.le_of_ble_eq_true rfl, Nat.le_of_ble_eq_true rfl⟩ (fun  u4 w3 => ?_)
  obtain ⟨z1, f2⟩ := u4
  refine r_ws [(h0, .inr (0, [.ref h1, .ref h3, .ref h4, .int x0, .int x1, .long y0, .int x2, .int x3, .int x4, .int x5, .ref h5, .ref h6, .ref h7, .int x6, .int x7])), (h1, .inr (6, [.ref h8, .ref h2, .int 0, .int z1])), (h2, .inl (gJ g, 32, .inr (.inl f2)))] rfl ?_
  have p5 : 0 ≤ (Int32.toInt z1) := w3.1
  have p6 : (Int32.toInt z1) ≤ 48 := w3.2
  refine r_aload_n 9 0 C dX0_prepare_9 rfl ?_
  refine r_iconst 10 0 C dX0_prepare_10 (by decide) ?_
  refine r_put 11 C dX0_prepare_11 (k := 14) 0 rfl rfl hiX0 tyX0 tyX0_ok nmX0 (by decide) rfl (mg 3 rfl) (Or.inl rfl) rfl rfl rfl rfl (Nat.le_of_ble_eq_true rfl) [(h0, .inr (0, [.ref h1, .ref h3, .ref h4, .int x0, .int x1, .long y0, .int x2, .int x3, .int x4, .int x5, .ref h5, .ref h6, .ref h7, .int x6, .int 0])), (h1, .inr (6, [.ref h8, .ref h2, .int 0, .int z1])), (h2, .inl (gJ g, 32, .inr (.inl f2)))] rfl ?_
  exact r_vret 14 Rt dX0_prepare_14 (z1, f2) (show 0 ≤ (Int32.toInt z1) ∧ (Int32.toInt z1) ≤ 48 from ⟨(show _ ∧ _ from ⟨p5, p6⟩).1, (show _ ∧ _ from ⟨p5, p6⟩).2⟩) [0, 1, 2] (by decide) rfl (Nat.le_of_ble_eq_true rfl) (Nat.le_of_ble_eq_true rfl)
set_option maxHeartbeats 4000000 in
set_option maxRecDepth 100000 in
theorem c265_X4_takeByte (l : Launch) (g : GD) (h0 : Nat) (h1 : Nat) (h2 : Nat) (h3 : Nat) (h4 : Nat) (h5 : Nat) (x0 : Int32) (x1 : Int32) (y0 : Int64) (x2 : Int32) (x3 : Int32) (x4 : Int32) (x5 : Int32) (h6 : Nat) (h7 : Nat) (h8 : Nat) (x6 : Int32) (x7 : Int32) (h9 : Nat) (h10 : Nat) (h11 : Nat) (x8 : Int32) (x9 : Int32) (x10 : Int32) (x11 : Int32) (fn0 : Nat → Int32) (i_x5 : (0 ≤ (Int32.toInt x5) ∧ (Int32.toInt x5) ≤ 1)) (i_x6 : (0 ≤ (Int32.toInt x6) ∧ (Int32.toInt x6) ≤ 10)) (i_x7 : (0 ≤ (Int32.toInt x7) ∧ (Int32.toInt x7) ≤ 1)) (i_x11 : (0 ≤ (Int32.toInt x11) ∧ (Int32.toInt x11) ≤ 1500)) (sz : Nat) : Met l yX4_takeByte wsX4_takeByte ({ frames := 1, cells := 0, slots := 0, locals := 22 }) (va_Pc [.ref h0] (PW g [(h0, .inr (0, [.ref h4, .ref h5, .ref h1, .int x0, .int x1, .long y0, .int x2, .int x3, .int x4, .int x5, .ref h6, .ref h7, .ref h8, .int x6, .int x7])), (h1, .inr (3, [.ref h2, .ref h9, .ref h10, .ref h11, .int x8, .int x9, .int x10])), (h2, .inr (4, [.ref h3, .int x11])), (h3, .inl (gB g, 1500, .inl fn0))] sz)) (va_Qi (fun (r : Int32) (u : (Int32)) => -1 ≤ (Int32.toInt r) ∧ (Int32.toInt r) ≤ 255) (BW g (va_A [(h0, .inr (0, [.ref h4, .ref h5, .ref h1, .int x0, .int x1, .long y0, .int x2, .int x3, .int x4, .int x5, .ref h6, .ref h7, .ref h8, .int x6, .int x7])), (h1, .inr (3, [.ref h2, .ref h9, .ref h10, .ref h11, .int x8, .int x9, .int x10])), (h2, .inr (4, [.ref h3, .int x11])), (h3, .inl (gB g, 1500, .inl fn0))] sz) (fun u : (Int32) => [(h0, .inr (0, [.ref h4, .ref h5, .ref h1, .int x0, .int x1, .long y0, .int x2, .int x3, .int u, .int x5, .ref h6, .ref h7, .ref h8, .int x6, .int x7])), (h1, .inr (3, [.ref h2, .ref h9, .ref h10, .ref h11, .int x8, .int x9, .int x10])), (h2, .inr (4, [.ref h3, .int x11])), (h3, .inl (gB g, 1500, .inl fn0))])) (va_A [(h0, .inr (0, [.ref h4, .ref h5, .ref h1, .int x0, .int x1, .long y0, .int x2, .int x3, .int x4, .int x5, .ref h6, .ref h7, .ref h8, .int x6, .int x7])), (h1, .inr (3, [.ref h2, .ref h9, .ref h10, .ref h11, .int x8, .int x9, .int x10])), (h2, .inr (4, [.ref h3, .int x11])), (h3, .inl (gB g, 1500, .inl fn0))] sz)) 0 0 (va_A [(h0, .inr (0, [.ref h4, .ref h5, .ref h1, .int x0, .int x1, .long y0, .int x2, .int x3, .int x4, .int x5, .ref h6, .ref h7, .ref h8, .int x6, .int x7])), (h1, .inr (3, [.ref h2, .ref h9, .ref h10, .ref h11, .int x8, .int x9, .int x10])), (h2, .inr (4, [.ref h3, .int x11])), (h3, .inl (gB g, 1500, .inl fn0))] sz) := by
  refine met_i RX4 (by decide) rfl rfl (Nat.le_of_ble_eq_true rfl) [(0, .ref h0)] rfl ?_
  intro p e s m args below meth c A Q C hnm Rt
  have gx3 := fb_rng x3
  have gx4 := fb_rng x4
  have hiX0 : ∀ w ∈ wsX00, w ∈ wsX4_takeByte := fun w h => List.mem_cons_of_mem _ (List.mem_append_left _ (List.mem_append_left _ (List.mem_append_left _ (List.mem_append_right _ (h)))))
  have hiX3 : ∀ w ∈ wsX30, w ∈ wsX4_takeByte := fun w h => List.mem_cons_of_mem _ (List.mem_append_left _ (List.mem_append_right _ (h)))
  refine r_aload_n 0 0 C dX4_takeByte_0 rfl ?_
  refine r_get 1 C dX4_takeByte_1 (k := 8) 0 rfl rfl hiX0 (by decide) rfl (mg 1 rfl) (Or.inl rfl) rfl ?_
  refine r_aload_n 4 0 C dX4_takeByte_4 rfl ?_
  refine r_get 5 C dX4_takeByte_5 (k := 7) 0 rfl rfl hiX0 (by decide) rfl (mg 2 rfl) (Or.inl rfl) rfl ?_
  refine r_icmp_lt 8 13 C dX4_takeByte_8 (by decide) (fun c1 => ?_) (fun c1 => ?_)
  · skip
    have k2 : (Int32.toInt x4) < (Int32.toInt x3) := (fa_lt x4 x3).mp c1
    refine r_aload_n 13 0 C dX4_takeByte_13 rfl ?_
    refine r_dup 14 C dX4_takeByte_14 rfl ?_
    refine r_get 15 C dX4_takeByte_15 (k := 8) 0 rfl rfl hiX0 (by decide) rfl (mg 1 rfl) (Or.inl rfl) rfl ?_
    refine r_iconst 18 1 C dX4_takeByte_18 (by decide) ?_
    obtain ⟨z3, ez3⟩ : ∃ z_9, x4 + 1 = z_9 := ⟨_, rfl⟩
    have tz3 : (Int32.toInt z3) = (Int32.toInt x4) + 1 := by rw [← ez3]; exact fb_addI (by show -2147483648 ≤ (Int32.toInt x4) + 1; omega) (by show (Int32.toInt x4) + 1 < 2147483648; omega)
    refine r_iadd 19 z3 C dX4_takeByte_19 ez3 ?_
    refine r_put 20 C dX4_takeByte_20 (k := 8) 0 rfl rfl hiX0 tyX0 tyX0_ok nmX0 (by decide) rfl (mg 1 rfl) (Or.inl rfl) rfl rfl rfl rfl (Nat.le_of_ble_eq_true rfl) [(h0, .inr (0, [.ref h4, .ref h5, .ref h1, .int x0, .int x1, .long y0, .int x2, .int x3, .int z3, .int x5, .ref h6, .ref h7, .ref h8, .int x6, .int x7])), (h1, .inr (3, [.ref h2, .ref h9, .ref h10, .ref h11, .int x8, .int x9, .int x10])), (h2, .inr (4, [.ref h3, .int x11])), (h3, .inl (gB g, 1500, .inl fn0))] rfl ?_
    refine r_aload_n 23 0 C dX4_takeByte_23 rfl ?_
    refine r_get 24 C dX4_takeByte_24 (k := 2) 0 rfl rfl hiX0 (by decide) rfl (mg 3 rfl) (Or.inl rfl) rfl ?_
    refine r_getN 27 C dX4_takeByte_27 (k := 0) 1 rfl rfl hiX3 (by decide) rfl (mg 18 rfl) rfl rfl ?_
    refine r_aload_n 30 0 C dX4_takeByte_30 rfl ?_
    refine r_get 31 C dX4_takeByte_31 (k := 8) 0 rfl rfl hiX0 (by decide) rfl (mg 1 rfl) (Or.inl rfl) rfl ?_
    refine r_iconst 34 1 C dX4_takeByte_34 (by decide) ?_
    obtain ⟨z4, ez4⟩ : ∃ z_9, z3 - 1 = z_9 := ⟨_, rfl⟩
    have tz4 : (Int32.toInt z4) = (Int32.toInt z3) - 1 := by rw [← ez4]; exact fb_subI (by show -2147483648 ≤ (Int32.toInt z3) - 1; omega) (by show (Int32.toInt z3) - 1 < 2147483648; omega)
    refine r_isub 35 z4 C dX4_takeByte_35 ez4 ?_
    obtain ⟨z5, ez5⟩ : ∃ z_9, Int32.toInt64 z4 = z_9 := ⟨_, rfl⟩
    have tz5 : (Int64.toInt z5) = (Int32.toInt z4) := by rw [← ez5]; exact Int32.toInt_toInt64 _
    refine r_i2l 36 z5 C dX4_takeByte_36 ez5 ?_
    refine r_callVi 37 C dX4_takeByte_37 [] [(h2, .inr (4, [.ref h3, .int x11])), (h3, .inl (gB g, 1500, .inl fn0))] [(h0, .inr (0, [.ref h4, .ref h5, .ref h1, .int x0, .int x1, .long y0, .int x2, .int x3, .int z3, .int x5, .ref h6, .ref h7, .ref h8, .int x6, .int x7])), (h1, .inr (3, [.ref h2, .ref h9, .ref h10, .ref h11, .int x8, .int x9, .int x10]))] (fun sz => c14_X5_get l g h2 h3 z5 x11 fn0 i_x11 sz) gX4_takeByte_X5_get rfl ⟨rfl, rfl⟩ 1 (by decide) ⟨Nat.le_of_ble_eq_true rfl, Nat.le_of_ble_eq_true rfl⟩ 2 rfl rfl [2, 3] [0, 1] rfl rfl (by decide) (by decide) (by decide) rfl rfl (Nat.le_of_ble_eq_true rfl) ⟨Nat.le_of_ble_eq_true rfl, Nat.le_of_ble_eq_true rfl⟩ (fun r6 _ w7 => ?_)
    refine r_ws [(h0, .inr (0, [.ref h4, .ref h5, .ref h1, .int x0, .int x1, .long y0, .int x2, .int x3, .int z3, .int x5, .ref h6, .ref h7, .ref h8, .int x6, .int x7])), (h1, .inr (3, [.ref h2, .ref h9, .ref h10, .ref h11, .int x8, .int x9, .int x10])), (h2, .inr (4, [.ref h3, .int x11])), (h3, .inl (gB g, 1500, .inl fn0))] rfl ?_
    have p8 : -1 ≤ (Int32.toInt r6) := w7.1
    have p9 : (Int32.toInt r6) ≤ 255 := w7.2.1
    have p10 : HID ((0 ≤ (Int64.toInt z5) ∧ (Int64.toInt z5) < (Int32.toInt x11) ∧ r6 = (fn0 (Int.toNat (Int64.toInt z5)) &&& 255)) ∨ (((Int64.toInt z5) < 0 ∨ (Int32.toInt x11) ≤ (Int64.toInt z5)) ∧ r6 = -1)) := w7.2.2.1
    have p11 : (Int32.toInt r6) = GB fn0 (Int32.toInt x11) (Int64.toInt z5) := w7.2.2.2
    exact r_iret 40 Rt dX4_takeByte_40 z3 (show -1 ≤ (Int32.toInt r6) ∧ (Int32.toInt r6) ≤ 255 from ⟨(show _ ∧ _ from ⟨p8, p9⟩).1, (show _ ∧ _ from ⟨p8, p9⟩).2⟩) [0, 1, 2, 3] (by decide) rfl (Nat.le_of_ble_eq_true rfl) (Nat.le_of_ble_eq_true rfl)
  · skip
    have k12 : ¬ ((Int32.toInt x4) < (Int32.toInt x3)) := fun h_9 => c1 ((fa_lt x4 x3).mpr h_9)
    refine r_iconst 11 (-1) C dX4_takeByte_11 (by decide) ?_
    exact r_iret 12 Rt dX4_takeByte_12 x4 (show -1 ≤ (Int32.toInt (-1)) ∧ (Int32.toInt (-1)) ≤ 255 from ⟨(by ((repeat' apply And.intro) <;> first | trivial | rfl | assumption | omega | decide | exact Or.inl rfl | exact Or.inr (Or.inl rfl) | exact Or.inr (Or.inr rfl))), (by ((repeat' apply And.intro) <;> first | trivial | rfl | assumption | omega | decide | exact Or.inl rfl | exact Or.inr (Or.inl rfl) | exact Or.inr (Or.inr rfl)))⟩) [0, 1, 2, 3] (by decide) rfl (Nat.le_of_ble_eq_true rfl) (Nat.le_of_ble_eq_true rfl)
set_option maxHeartbeats 4000000 in
set_option maxRecDepth 100000 in
theorem c266_X0_isNumber (l : Launch) (g : GD) (h0 : Nat) (x0 : Int32) (sz : Nat) : Met l yX0_isNumber wsX0_isNumber ({ frames := 0, cells := 0, slots := 0, locals := 0 }) (va_Pc [.ref h0, .int x0] (PW g [] sz)) (va_Qi (fun (r : Int32) (_ : Unit) => 0 ≤ (Int32.toInt r) ∧ (Int32.toInt r) ≤ 1) (BW g (va_A [] sz) (fun _ : Unit => [])) (va_A [] sz)) 0 0 (va_A [] sz) := by
  refine met_z RX0 (by decide) rfl rfl (Nat.le_of_ble_eq_true rfl) [(0, .ref h0), (1, .int x0)] rfl ?_
  intro p e s m args below meth c A Q C hnm Rt
  have gx0 := fb_rng x0
  refine r_iload_n 0 1 C dX0_isNumber_0 rfl ?_
  refine r_bipush 1 28 C dX0_isNumber_1 (by decide) ?_
  refine r_icmp_eq 3 12 C dX0_isNumber_3 (by decide) (fun c1 => ?_) (fun c1 => ?_)
  · skip
    have k2 : (Int32.toInt x0) = 28 := (fa_eq x0 28).mp c1
    refine r_iconst 12 1 C dX0_isNumber_12 (by decide) ?_
    refine r_goto 13 17 C dX0_isNumber_13 (by decide) ?_
    exact r_zret 17 Rt dX0_isNumber_17 (by decide) () (show 0 ≤ (Int32.toInt 1) ∧ (Int32.toInt 1) ≤ 1 from ⟨(by ((repeat' apply And.intro) <;> first | trivial | rfl | assumption | omega | decide | exact Or.inl rfl | exact Or.inr (Or.inl rfl) | exact Or.inr (Or.inr rfl))), (by ((repeat' apply And.intro) <;> first | trivial | rfl | assumption | omega | decide | exact Or.inl rfl | exact Or.inr (Or.inl rfl) | exact Or.inr (Or.inr rfl)))⟩) [] (by decide) rfl (Nat.le_of_ble_eq_true rfl) (Nat.le_of_ble_eq_true rfl)
  · skip
    have k3 : ¬ ((Int32.toInt x0) = 28) := fun h_9 => c1 ((fa_eq x0 28).mpr h_9)
    refine r_iload_n 6 1 C dX0_isNumber_6 rfl ?_
    refine r_bipush 7 32 C dX0_isNumber_7 (by decide) ?_
    refine r_icmp_lt 9 16 C dX0_isNumber_9 (by decide) (fun c4 => ?_) (fun c4 => ?_)
    · skip
      have k5 : (Int32.toInt x0) < 32 := (fa_lt x0 32).mp c4
      refine r_iconst 16 0 C dX0_isNumber_16 (by decide) ?_
      exact r_zret 17 Rt dX0_isNumber_17 (by decide) () (show 0 ≤ (Int32.toInt 0) ∧ (Int32.toInt 0) ≤ 1 from ⟨(by ((repeat' apply And.intro) <;> first | trivial | rfl | assumption | omega | decide | exact Or.inl rfl | exact Or.inr (Or.inl rfl) | exact Or.inr (Or.inr rfl))), (by ((repeat' apply And.intro) <;> first | trivial | rfl | assumption | omega | decide | exact Or.inl rfl | exact Or.inr (Or.inl rfl) | exact Or.inr (Or.inr rfl)))⟩) [] (by decide) rfl (Nat.le_of_ble_eq_true rfl) (Nat.le_of_ble_eq_true rfl)
    · skip
      have k6 : ¬ ((Int32.toInt x0) < 32) := fun h_9 => c4 ((fa_lt x0 32).mpr h_9)
      refine r_iconst 12 1 C dX0_isNumber_12 (by decide) ?_
      refine r_goto 13 17 C dX0_isNumber_13 (by decide) ?_
      exact r_zret 17 Rt dX0_isNumber_17 (by decide) () (show 0 ≤ (Int32.toInt 1) ∧ (Int32.toInt 1) ≤ 1 from ⟨(by ((repeat' apply And.intro) <;> first | trivial | rfl | assumption | omega | decide | exact Or.inl rfl | exact Or.inr (Or.inl rfl) | exact Or.inr (Or.inr rfl))), (by ((repeat' apply And.intro) <;> first | trivial | rfl | assumption | omega | decide | exact Or.inl rfl | exact Or.inr (Or.inl rfl) | exact Or.inr (Or.inr rfl)))⟩) [] (by decide) rfl (Nat.le_of_ble_eq_true rfl) (Nat.le_of_ble_eq_true rfl)
set_option maxHeartbeats 4000000 in
set_option maxRecDepth 100000 in
theorem c267_X0_longNumber (l : Launch) (g : GD) (h0 : Nat) (x0 : Int32) (sz : Nat) : Met l yX0_longNumber wsX0_longNumber ({ frames := 0, cells := 0, slots := 0, locals := 0 }) (va_Pc [.ref h0, .int x0] (PW g [] sz)) (va_Ql (fun (r : Int64) (_ : Unit) => -2147483648 ≤ (Int64.toInt r) ∧ (Int64.toInt r) ≤ 2147483647) (BW g (va_A [] sz) (fun _ : Unit => [])) (va_A [] sz)) 0 0 (va_A [] sz) := by
  refine met_l RX0 (by decide) rfl rfl (Nat.le_of_ble_eq_true rfl) [(0, .ref h0), (1, .int x0)] rfl ?_
  intro p e s m args below meth c A Q C hnm Rt
  have gx0 := fb_rng x0
  refine r_iload_n 0 1 C dX0_longNumber_0 rfl ?_
  obtain ⟨z1, ez1⟩ : ∃ z_9, Int32.toInt64 x0 = z_9 := ⟨_, rfl⟩
  have tz1 : (Int64.toInt z1) = (Int32.toInt x0) := by rw [← ez1]; exact Int32.toInt_toInt64 _
  refine r_i2l 1 z1 C dX0_longNumber_1 ez1 ?_
  exact r_lret 2 Rt dX0_longNumber_2 () (show -2147483648 ≤ (Int64.toInt z1) ∧ (Int64.toInt z1) ≤ 2147483647 from ⟨(by ((repeat' apply And.intro) <;> first | trivial | rfl | assumption | omega | decide | exact Or.inl rfl | exact Or.inr (Or.inl rfl) | exact Or.inr (Or.inr rfl))), (by ((repeat' apply And.intro) <;> first | trivial | rfl | assumption | omega | decide | exact Or.inl rfl | exact Or.inr (Or.inl rfl) | exact Or.inr (Or.inr rfl)))⟩) [] (by decide) rfl (Nat.le_of_ble_eq_true rfl) (Nat.le_of_ble_eq_true rfl)
set_option maxHeartbeats 4000000 in
set_option maxRecDepth 100000 in
theorem c268_X4_takeNumber (l : Launch) (g : GD) (h0 : Nat) (h1 : Nat) (h2 : Nat) (h3 : Nat) (h4 : Nat) (h5 : Nat) (x0 : Int32) (h6 : Nat) (x1 : Int32) (x2 : Int32) (y0 : Int64) (x3 : Int32) (x4 : Int32) (x5 : Int32) (x6 : Int32) (h7 : Nat) (h8 : Nat) (h9 : Nat) (x7 : Int32) (x8 : Int32) (h10 : Nat) (x9 : Int32) (x10 : Int32) (h11 : Nat) (h12 : Nat) (h13 : Nat) (x11 : Int32) (x12 : Int32) (x13 : Int32) (fm0 : Nat → Int64) (x14 : Int32) (fn0 : Nat → Int32) (i_x6 : (0 ≤ (Int32.toInt x6) ∧ (Int32.toInt x6) ≤ 1)) (i_x7 : (0 ≤ (Int32.toInt x7) ∧ (Int32.toInt x7) ≤ 10)) (i_x8 : (0 ≤ (Int32.toInt x8) ∧ (Int32.toInt x8) ≤ 1)) (i_x9 : (0 ≤ (Int32.toInt x9) ∧ (Int32.toInt x9) ≤ 48)) (i_x10 : (0 ≤ (Int32.toInt x10) ∧ (Int32.toInt x10) ≤ 48)) (i_x14 : (0 ≤ (Int32.toInt x14) ∧ (Int32.toInt x14) ≤ 1500)) (sz : Nat) : Met l yX4_takeNumber wsX4_takeNumber ({ frames := 2, cells := 0, slots := 0, locals := 42 }) (va_Pc [.ref h0, .int x0] (PW g [(h0, .inr (0, [.ref h1, .ref h6, .ref h2, .int x1, .int x2, .long y0, .int x3, .int x4, .int x5, .int x6, .ref h7, .ref h8, .ref h9, .int x7, .int x8])), (h1, .inr (6, [.ref h3, .ref h10, .int x9, .int x10])), (h2, .inr (3, [.ref h4, .ref h11, .ref h12, .ref h13, .int x11, .int x12, .int x13])), (h3, .inl (gJ g, 48, .inr (.inl fm0))), (h4, .inr (4, [.ref h5, .int x14])), (h5, .inl (gB g, 1500, .inl fn0))] sz)) (va_Qi (fun (r : Int32) (u : (Int32) × (Int32) × (Nat → Int64)) => 0 ≤ (Int32.toInt r) ∧ (Int32.toInt r) ≤ 7 ∧ 0 ≤ (Int32.toInt (u.2.1)) ∧ (Int32.toInt (u.2.1)) ≤ 48) (BW g (va_A [(h0, .inr (0, [.ref h1, .ref h6, .ref h2, .int x1, .int x2, .long y0, .int x3, .int x4, .int x5, .int x6, .ref h7, .ref h8, .ref h9, .int x7, .int x8])), (h1, .inr (6, [.ref h3, .ref h10, .int x9, .int x10])), (h2, .inr (3, [.ref h4, .ref h11, .ref h12, .ref h13, .int x11, .int x12, .int x13])), (h3, .inl (gJ g, 48, .inr (.inl fm0))), (h4, .inr (4, [.ref h5, .int x14])), (h5, .inl (gB g, 1500, .inl fn0))] sz) (fun u : (Int32) × (Int32) × (Nat → Int64) => [(h0, .inr (0, [.ref h1, .ref h6, .ref h2, .int x1, .int x2, .long y0, .int x3, .int x4, .int u.1, .int x6, .ref h7, .ref h8, .ref h9, .int x7, .int x8])), (h1, .inr (6, [.ref h3, .ref h10, .int u.2.1, .int x10])), (h2, .inr (3, [.ref h4, .ref h11, .ref h12, .ref h13, .int x11, .int x12, .int x13])), (h3, .inl (gJ g, 48, .inr (.inl u.2.2))), (h4, .inr (4, [.ref h5, .int x14])), (h5, .inl (gB g, 1500, .inl fn0))])) (va_A [(h0, .inr (0, [.ref h1, .ref h6, .ref h2, .int x1, .int x2, .long y0, .int x3, .int x4, .int x5, .int x6, .ref h7, .ref h8, .ref h9, .int x7, .int x8])), (h1, .inr (6, [.ref h3, .ref h10, .int x9, .int x10])), (h2, .inr (3, [.ref h4, .ref h11, .ref h12, .ref h13, .int x11, .int x12, .int x13])), (h3, .inl (gJ g, 48, .inr (.inl fm0))), (h4, .inr (4, [.ref h5, .int x14])), (h5, .inl (gB g, 1500, .inl fn0))] sz)) 0 0 (va_A [(h0, .inr (0, [.ref h1, .ref h6, .ref h2, .int x1, .int x2, .long y0, .int x3, .int x4, .int x5, .int x6, .ref h7, .ref h8, .ref h9, .int x7, .int x8])), (h1, .inr (6, [.ref h3, .ref h10, .int x9, .int x10])), (h2, .inr (3, [.ref h4, .ref h11, .ref h12, .ref h13, .int x11, .int x12, .int x13])), (h3, .inl (gJ g, 48, .inr (.inl fm0))), (h4, .inr (4, [.ref h5, .int x14])), (h5, .inl (gB g, 1500, .inl fn0))] sz) := by
  refine met_i RX4 (by decide) rfl rfl (Nat.le_of_ble_eq_true rfl) [(0, .ref h0), (1, .int x0)] rfl ?_
  intro p e s m args below meth c A Q C hnm Rt
  have gx0 := fb_rng x0
  have hiX0 : ∀ w ∈ wsX00, w ∈ wsX4_takeNumber := fun w h => List.mem_cons_of_mem _ (List.mem_append_left _ (List.mem_append_left _ (List.mem_append_left _ (List.mem_append_left _ (List.mem_append_right _ (h))))))
  refine r_iload_n 0 1 C dX4_takeNumber_0 rfl ?_
  refine r_callSNi 1 C dX4_takeNumber_1 [] [] [(h0, .inr (0, [.ref h1, .ref h6, .ref h2, .int x1, .int x2, .long y0, .int x3, .int x4, .int x5, .int x6, .ref h7, .ref h8, .ref h9, .int x7, .int x8])), (h1, .inr (6, [.ref h3, .ref h10, .int x9, .int x10])), (h2, .inr (3, [.ref h4, .ref h11, .ref h12, .ref h13, .int x11, .int x12, .int x13])), (h3, .inl (gJ g, 48, .inr (.inl fm0))), (h4, .inr (4, [.ref h5, .int x14])), (h5, .inl (gB g, 1500, .inl fn0))] (fun sz => c65_X11_bytesBehind l g x0  sz) gX4_takeNumber_X11_bytesBehind_n105 rfl ⟨rfl, rfl⟩ 1 (by decide) ⟨Nat.le_of_ble_eq_true rfl, Nat.le_of_ble_eq_true rfl⟩ (mg 27 rfl) (mg 4 rfl) (mg 3 rfl) [] [0, 1, 2, 3, 4, 5] rfl rfl (by decide) (by decide) (by decide) rfl rfl (Nat.le_of_ble_eq_true rfl) ⟨Nat.le_of_ble_eq_true rfl, Nat.le_of_ble_eq_true rfl⟩ (fun r1 _ w2 => ?_)
  refine r_ws [(h0, .inr (0, [.ref h1, .ref h6, .ref h2, .int x1, .int x2, .long y0, .int x3, .int x4, .int x5, .int x6, .ref h7, .ref h8, .ref h9, .int x7, .int x8])), (h1, .inr (6, [.ref h3, .ref h10, .int x9, .int x10])), (h2, .inr (3, [.ref h4, .ref h11, .ref h12, .ref h13, .int x11, .int x12, .int x13])), (h3, .inl (gJ g, 48, .inr (.inl fm0))), (h4, .inr (4, [.ref h5, .int x14])), (h5, .inl (gB g, 1500, .inl fn0))] rfl ?_
  have p3 : 0 ≤ (Int32.toInt r1) := w2.1
  have p4 : (Int32.toInt r1) ≤ 4 := w2.2.1
  have p5 : BB (Int32.toInt x0) (Int32.toInt r1) := w2.2.2
  refine r_istore_n 4 C dX4_takeNumber_4 [(2, .int r1), (0, .ref h0), (1, .int x0)] (by decide) rfl ?_
  refine r_iconst 5 0 C dX4_takeNumber_5 (by decide) ?_
  refine r_istore_n 6 C dX4_takeNumber_6 [(3, .int 0), (2, .int r1), (0, .ref h0), (1, .int x0)] (by decide) rfl ?_
  refine r_iconst 7 0 C dX4_takeNumber_7 (by decide) ?_
  refine r_istore 8 C dX4_takeNumber_8 [(4, .int 0), (3, .int 0), (2, .int r1), (0, .ref h0), (1, .int x0)] (by decide) rfl ?_
  have lp10 : ∀ (n9 : Nat) (z6 : Int32) (z7 : Int32) (z8 : Int32), (0 ≤ (Int32.toInt z6) ∧ (Int32.toInt z6) ≤ 4) → Int.toNat (4 - (Int32.toInt z6)) < n9 → WW p l e ({ frames := 2, cells := 0, slots := 0, locals := 42 } : Room) s m args below meth c A Q g 6 0 0 [(h0, .inr (0, [.ref h1, .ref h6, .ref h2, .int x1, .int x2, .long y0, .int x3, .int x4, .int z8, .int x6, .ref h7, .ref h8, .ref h9, .int x7, .int x8])), (h1, .inr (6, [.ref h3, .ref h10, .int x9, .int x10])), (h2, .inr (3, [.ref h4, .ref h11, .ref h12, .ref h13, .int x11, .int x12, .int x13])), (h3, .inl (gJ g, 48, .inr (.inl fm0))), (h4, .inr (4, [.ref h5, .int x14])), (h5, .inl (gB g, 1500, .inl fn0))] 10 [(4, .int z6), (3, .int z7), (2, .int r1), (0, .ref h0), (1, .int x0)] [] := by
    intro n9
    induction n9 with
    | zero => intro z6 z7 z8 i13 hm12; exact absurd hm12 (Nat.not_lt_zero _)
    | succ n9 ih11 =>
      intro z6 z7 z8 i13 hm12
      obtain ⟨i13a, i13b⟩ := i13
      have gz7 := fb_rng z7
      have gz8 := fb_rng z8
      refine r_iload 10 0 C dX4_takeNumber_10 rfl ?_
      refine r_iload_n 12 2 C dX4_takeNumber_12 rfl ?_
      refine r_icmp_ge 13 45 C dX4_takeNumber_13 (by decide) (fun c14 => ?_) (fun c14 => ?_)
      · skip
        have k15 : (Int32.toInt r1) ≤ (Int32.toInt z6) := (fa_le r1 z6).mp c14
        refine r_aload_n 45 3 C dX4_takeNumber_45 rfl ?_
        refine r_get 46 C dX4_takeNumber_46 (k := 0) 0 rfl rfl hiX0 (by decide) rfl (mg 1 rfl) (Or.inl rfl) rfl ?_
        refine r_iload_n 49 4 C dX4_takeNumber_49 rfl ?_
        refine r_sipush 50 255 C dX4_takeNumber_50 (by decide) ?_
        refine r_icmp_ne 53 64 C dX4_takeNumber_53 (by decide) (fun c16 => ?_) (fun c16 => ?_)
        · skip
          have k17 : ¬ ((Int32.toInt x0) = 255) := fun h_9 => c16 ((fa_eq x0 255).mpr h_9)
          refine r_iload_n 64 4 C dX4_takeNumber_64 rfl ?_
          refine r_iload_n 65 1 C dX4_takeNumber_65 rfl ?_
          refine r_callSNi 66 C dX4_takeNumber_66 [.ref h1] [] [(h0, .inr (0, [.ref h1, .ref h6, .ref h2, .int x1, .int x2, .long y0, .int x3, .int x4, .int z8, .int x6, .ref h7, .ref h8, .ref h9, .int x7, .int x8])), (h1, .inr (6, [.ref h3, .ref h10, .int x9, .int x10])), (h2, .inr (3, [.ref h4, .ref h11, .ref h12, .ref h13, .int x11, .int x12, .int x13])), (h3, .inl (gJ g, 48, .inr (.inl fm0))), (h4, .inr (4, [.ref h5, .int x14])), (h5, .inl (gB g, 1500, .inl fn0))] (fun sz => c66_X11_wholeNumber l g x0 z7  sz) gX4_takeNumber_X11_wholeNumber_n112 rfl ⟨rfl, rfl⟩ 2 (by decide) ⟨Nat.le_of_ble_eq_true rfl, Nat.le_of_ble_eq_true rfl⟩ (mg 28 rfl) (mg 4 rfl) (mg 34 rfl) [] [0, 1, 2, 3, 4, 5] rfl rfl (by decide) (by decide) (by decide) rfl rfl (Nat.le_of_ble_eq_true rfl) ⟨Nat.le_of_ble_eq_true rfl, Nat.le_of_ble_eq_true rfl⟩ (fun r18 _ w19 => ?_)
          refine r_ws [(h0, .inr (0, [.ref h1, .ref h6, .ref h2, .int x1, .int x2, .long y0, .int x3, .int x4, .int z8, .int x6, .ref h7, .ref h8, .ref h9, .int x7, .int x8])), (h1, .inr (6, [.ref h3, .ref h10, .int x9, .int x10])), (h2, .inr (3, [.ref h4, .ref h11, .ref h12, .ref h13, .int x11, .int x12, .int x13])), (h3, .inl (gJ g, 48, .inr (.inl fm0))), (h4, .inr (4, [.ref h5, .int x14])), (h5, .inl (gB g, 1500, .inl fn0))] rfl ?_
          have p20 : CND (((Int32.toInt x0) = 29 ∨ (0 ≤ (Int32.toInt z7) ∧ (Int32.toInt z7) ≤ 65535)) ∧ -1 ≤ (Int32.toInt x0) ∧ (Int32.toInt x0) ≤ 255) (WHO (Int32.toInt x0) (Int32.toInt z7) (Int32.toInt r18)) := w19
          have gr18 := fb_rng r18
          obtain ⟨z21, ez21⟩ : ∃ z_9, Int32.toInt64 r18 = z_9 := ⟨_, rfl⟩
          have tz21 : (Int64.toInt z21) = (Int32.toInt r18) := by rw [← ez21]; exact Int32.toInt_toInt64 _
          refine r_i2l 69 z21 C dX4_takeNumber_69 ez21 ?_
          refine r_ldc2 70 65536 C dX4_takeNumber_70 (mg 2 rfl) ?_
          obtain ⟨z22, ez22⟩ : ∃ z_9, z21 * 65536 = z_9 := ⟨_, rfl⟩
          have tz22 : (Int64.toInt z22) = (Int64.toInt z21) * 65536 := by rw [← ez22]; exact fb_mulL (by show -9223372036854775808 ≤ (Int64.toInt z21) * 65536; omega) (by show (Int64.toInt z21) * 65536 < 9223372036854775808; omega)
          refine r_lmul 73 z22 C dX4_takeNumber_73 ez22 ?_
          refine r_callVi 74 C dX4_takeNumber_74 [] [(h1, .inr (6, [.ref h3, .ref h10, .int x9, .int x10])), (h3, .inl (gJ g, 48, .inr (.inl fm0)))] [(h0, .inr (0, [.ref h1, .ref h6, .ref h2, .int x1, .int x2, .long y0, .int x3, .int x4, .int z8, .int x6, .ref h7, .ref h8, .ref h9, .int x7, .int x8])), (h2, .inr (3, [.ref h4, .ref h11, .ref h12, .ref h13, .int x11, .int x12, .int x13])), (h4, .inr (4, [.ref h5, .int x14])), (h5, .inl (gB g, 1500, .inl fn0))] (fun sz => c227_X7_push l g h1 h3 z22 h10 x9 x10 fm0 i_x9 i_x10 sz) gX4_takeNumber_X7_push rfl ⟨rfl, rfl⟩ 1 (by decide) ⟨Nat.le_of_ble_eq_true rfl, Nat.le_of_ble_eq_true rfl⟩ 1 rfl rfl [1, 3] [0, 2, 4, 5] rfl rfl (by decide) (by decide) (by decide) rfl rfl (Nat.le_of_ble_eq_true rfl) ⟨Nat.le_of_ble_eq_true rfl, Nat.le_of_ble_eq_true rfl⟩ (fun r25 u27 w26 => ?_)
          obtain ⟨z23, f24⟩ := u27
          refine r_ws [(h0, .inr (0, [.ref h1, .ref h6, .ref h2, .int x1, .int x2, .long y0, .int x3, .int x4, .int z8, .int x6, .ref h7, .ref h8, .ref h9, .int x7, .int x8])), (h2, .inr (3, [.ref h4, .ref h11, .ref h12, .ref h13, .int x11, .int x12, .int x13])), (h4, .inr (4, [.ref h5, .int x14])), (h5, .inl (gB g, 1500, .inl fn0)), (h1, .inr (6, [.ref h3, .ref h10, .int z23, .int x10])), (h3, .inl (gJ g, 48, .inr (.inl f24)))] rfl ?_
          have p28 : 0 ≤ (Int32.toInt r25) := w26.1
          have p29 : (Int32.toInt r25) ≤ 3 := w26.2.1
          have p30 : 0 ≤ (Int32.toInt z23) := w26.2.2.1
          have p31 : (Int32.toInt z23) ≤ 48 := w26.2.2.2
          exact r_iret 77 Rt dX4_takeNumber_77 (z8, z23, f24) (show 0 ≤ (Int32.toInt r25) ∧ (Int32.toInt r25) ≤ 7 ∧ 0 ≤ (Int32.toInt z23) ∧ (Int32.toInt z23) ≤ 48 from ⟨(iv_wide (c := 0) (d := 7) ⟨p28, p29⟩ (by decide) (by decide)).1, (iv_wide (c := 0) (d := 7) ⟨p28, p29⟩ (by decide) (by decide)).2, (show _ ∧ _ from ⟨p30, p31⟩).1, (show _ ∧ _ from ⟨p30, p31⟩).2⟩) [0, 4, 1, 5, 2, 3] (by decide) rfl (Nat.le_of_ble_eq_true rfl) (Nat.le_of_ble_eq_true rfl)
        · skip
          have k32 : (Int32.toInt x0) = 255 := (fa_eq x0 255).mp c16
          refine r_aload_n 56 3 C dX4_takeNumber_56 rfl ?_
          refine r_iload_n 57 1 C dX4_takeNumber_57 rfl ?_
          refine r_callAl 58 C dX4_takeNumber_58 [.ref h1] [] [(h0, .inr (0, [.ref h1, .ref h6, .ref h2, .int x1, .int x2, .long y0, .int x3, .int x4, .int z8, .int x6, .ref h7, .ref h8, .ref h9, .int x7, .int x8])), (h1, .inr (6, [.ref h3, .ref h10, .int x9, .int x10])), (h2, .inr (3, [.ref h4, .ref h11, .ref h12, .ref h13, .int x11, .int x12, .int x13])), (h3, .inl (gJ g, 48, .inr (.inl fm0))), (h4, .inr (4, [.ref h5, .int x14])), (h5, .inl (gB g, 1500, .inl fn0))] (fun sz => c267_X0_longNumber l g h0 z7  sz) gX4_takeNumber_X0_longNumber_u108X0 rfl ⟨rfl, rfl⟩ 1 (mg 38 rfl) (by decide) ⟨Nat.le_of_ble_eq_true rfl, Nat.le_of_ble_eq_true rfl⟩ 0 rfl rfl [] [0, 1, 2, 3, 4, 5] rfl rfl (by decide) (by decide) (by decide) rfl rfl (Nat.le_of_ble_eq_true rfl) ⟨Nat.le_of_ble_eq_true rfl, Nat.le_of_ble_eq_true rfl⟩ (fun r33 _ w34 => ?_)
          refine r_ws [(h0, .inr (0, [.ref h1, .ref h6, .ref h2, .int x1, .int x2, .long y0, .int x3, .int x4, .int z8, .int x6, .ref h7, .ref h8, .ref h9, .int x7, .int x8])), (h1, .inr (6, [.ref h3, .ref h10, .int x9, .int x10])), (h2, .inr (3, [.ref h4, .ref h11, .ref h12, .ref h13, .int x11, .int x12, .int x13])), (h3, .inl (gJ g, 48, .inr (.inl fm0))), (h4, .inr (4, [.ref h5, .int x14])), (h5, .inl (gB g, 1500, .inl fn0))] rfl ?_
          have p35 : -2147483648 ≤ (Int64.toInt r33) := w34.1
          have p36 : (Int64.toInt r33) ≤ 2147483647 := w34.2
          refine r_goto 61 74 C dX4_takeNumber_61 (by decide) ?_
          refine r_callVi 74 C dX4_takeNumber_74 [] [(h1, .inr (6, [.ref h3, .ref h10, .int x9, .int x10])), (h3, .inl (gJ g, 48, .inr (.inl fm0)))] [(h0, .inr (0, [.ref h1, .ref h6, .ref h2, .int x1, .int x2, .long y0, .int x3, .int x4, .int z8, .int x6, .ref h7, .ref h8, .ref h9, .int x7, .int x8])), (h2, .inr (3, [.ref h4, .ref h11, .ref h12, .ref h13, .int x11, .int x12, .int x13])), (h4, .inr (4, [.ref h5, .int x14])), (h5, .inl (gB g, 1500, .inl fn0))] (fun sz => c227_X7_push l g h1 h3 r33 h10 x9 x10 fm0 i_x9 i_x10 sz) gX4_takeNumber_X7_push rfl ⟨rfl, rfl⟩ 1 (by decide) ⟨Nat.le_of_ble_eq_true rfl, Nat.le_of_ble_eq_true rfl⟩ 1 rfl rfl [1, 3] [0, 2, 4, 5] rfl rfl (by decide) (by decide) (by decide) rfl rfl (Nat.le_of_ble_eq_true rfl) ⟨Nat.le_of_ble_eq_true rfl, Nat.le_of_ble_eq_true rfl⟩ (fun r39 u41 w40 => ?_)
          obtain ⟨z37, f38⟩ := u41
          refine r_ws [(h0, .inr (0, [.ref h1, .ref h6, .ref h2, .int x1, .int x2, .long y0, .int x3, .int x4, .int z8, .int x6, .ref h7, .ref h8, .ref h9, .int x7, .int x8])), (h2, .inr (3, [.ref h4, .ref h11, .ref h12, .ref h13, .int x11, .int x12, .int x13])), (h4, .inr (4, [.ref h5, .int x14])), (h5, .inl (gB g, 1500, .inl fn0)), (h1, .inr (6, [.ref h3, .ref h10, .int z37, .int x10])), (h3, .inl (gJ g, 48, .inr (.inl f38)))] rfl ?_
          have p42 : 0 ≤ (Int32.toInt r39) := w40.1
          have p43 : (Int32.toInt r39) ≤ 3 := w40.2.1
          have p44 : 0 ≤ (Int32.toInt z37) := w40.2.2.1
          have p45 : (Int32.toInt z37) ≤ 48 := w40.2.2.2
          exact r_iret 77 Rt dX4_takeNumber_77 (z8, z37, f38) (show 0 ≤ (Int32.toInt r39) ∧ (Int32.toInt r39) ≤ 7 ∧ 0 ≤ (Int32.toInt z37) ∧ (Int32.toInt z37) ≤ 48 from ⟨(iv_wide (c := 0) (d := 7) ⟨p42, p43⟩ (by decide) (by decide)).1, (iv_wide (c := 0) (d := 7) ⟨p42, p43⟩ (by decide) (by decide)).2, (show _ ∧ _ from ⟨p44, p45⟩).1, (show _ ∧ _ from ⟨p44, p45⟩).2⟩) [0, 4, 1, 5, 2, 3] (by decide) rfl (Nat.le_of_ble_eq_true rfl) (Nat.le_of_ble_eq_true rfl)
      · skip
        have k46 : ¬ ((Int32.toInt r1) ≤ (Int32.toInt z6)) := fun h_9 => c14 ((fa_le r1 z6).mpr h_9)
        refine r_aload_n 16 3 C dX4_takeNumber_16 rfl ?_
        refine r_callUi 17 C dX4_takeNumber_17 [] [(h0, .inr (0, [.ref h1, .ref h6, .ref h2, .int x1, .int x2, .long y0, .int x3, .int x4, .int z8, .int x6, .ref h7, .ref h8, .ref h9, .int x7, .int x8])), (h2, .inr (3, [.ref h4, .ref h11, .ref h12, .ref h13, .int x11, .int x12, .int x13])), (h4, .inr (4, [.ref h5, .int x14])), (h5, .inl (gB g, 1500, .inl fn0))] [(h1, .inr (6, [.ref h3, .ref h10, .int x9, .int x10])), (h3, .inl (gJ g, 48, .inr (.inl fm0)))] (fun sz => c265_X4_takeByte l g h0 h2 h4 h5 h1 h6 x1 x2 y0 x3 x4 z8 x6 h7 h8 h9 x7 x8 h11 h12 h13 x11 x12 x13 x14 fn0 i_x6 i_x7 i_x8 i_x14 sz) gX4_takeNumber_X4_takeByte_u85X0 rfl ⟨rfl, rfl⟩ 0 rfl (by decide) ⟨Nat.le_of_ble_eq_true rfl, Nat.le_of_ble_eq_true rfl⟩ 0 rfl rfl [0, 2, 4, 5] [1, 3] rfl rfl (by decide) (by decide) (by decide) rfl rfl (Nat.le_of_ble_eq_true rfl) ⟨Nat.le_of_ble_eq_true rfl, Nat.le_of_ble_eq_true rfl⟩ (fun r48 z47 w49 => ?_)
        refine r_ws [(h1, .inr (6, [.ref h3, .ref h10, .int x9, .int x10])), (h3, .inl (gJ g, 48, .inr (.inl fm0))), (h0, .inr (0, [.ref h1, .ref h6, .ref h2, .int x1, .int x2, .long y0, .int x3, .int x4, .int z47, .int x6, .ref h7, .ref h8, .ref h9, .int x7, .int x8])), (h2, .inr (3, [.ref h4, .ref h11, .ref h12, .ref h13, .int x11, .int x12, .int x13])), (h4, .inr (4, [.ref h5, .int x14])), (h5, .inl (gB g, 1500, .inl fn0))] rfl ?_
        have gz47 := fb_rng z47
        have p50 : -1 ≤ (Int32.toInt r48) := w49.1
        have p51 : (Int32.toInt r48) ≤ 255 := w49.2
        refine r_istore 20 C dX4_takeNumber_20 [(5, .int r48), (4, .int z6), (3, .int z7), (2, .int r1), (0, .ref h0), (1, .int x0)] (by decide) rfl ?_
        refine r_iload 22 0 C dX4_takeNumber_22 rfl ?_
        refine r_iconst 24 (-1) C dX4_takeNumber_24 (by decide) ?_
        refine r_icmp_ne 25 31 C dX4_takeNumber_25 (by decide) (fun c52 => ?_) (fun c52 => ?_)
        · skip
          have k53 : ¬ ((Int32.toInt r48) = (-1)) := fun h_9 => c52 ((fa_eq r48 (-1)).mpr h_9)
          refine r_iload_n 31 2 C dX4_takeNumber_31 rfl ?_
          refine r_bipush 32 8 C dX4_takeNumber_32 (by decide) ?_
          obtain ⟨z54, ez54⟩ : ∃ z_9, z7 <<< (8 &&& 31) = z_9 := ⟨_, rfl⟩
          have gz54 := fb_rng z54
          refine r_ishl 34 z54 C dX4_takeNumber_34 ez54 ?_
          refine r_iload 35 0 C dX4_takeNumber_35 rfl ?_
          obtain ⟨z55, ez55⟩ : ∃ z_9, z54 ||| r48 = z_9 := ⟨_, rfl⟩
          have gz55 := fb_rng z55
          refine r_ior 37 z55 C dX4_takeNumber_37 ez55 ?_
          refine r_istore_n 38 C dX4_takeNumber_38 [(3, .int z55), (5, .int r48), (4, .int z6), (2, .int r1), (0, .ref h0), (1, .int x0)] (by decide) rfl ?_
          obtain ⟨z56, ez56⟩ : ∃ z_9, z6 + Int32.ofInt 1 = z_9 := ⟨_, rfl⟩
          have tz56 : (Int32.toInt z56) = (Int32.toInt z6) + 1 := by rw [← ez56]; exact fb_addIv (a := 0) (b := 4) (c := 1) (d := 1) ⟨i13a, i13b⟩ ⟨by decide, by decide⟩ (by decide) (by decide)
          refine r_iinc 39 2 z56 C dX4_takeNumber_39 rfl ez56 [(4, .int z56), (3, .int z55), (5, .int r48), (2, .int r1), (0, .ref h0), (1, .int x0)] (by decide) rfl ?_
          refine r_goto 42 10 C dX4_takeNumber_42 (by decide) ?_
          refine r_lv [(4, .int z56), (3, .int z55), (2, .int r1), (0, .ref h0), (1, .int x0)] [0, 1, 3, 4, 5] rfl ?_
          refine r_pick [(h0, .inr (0, [.ref h1, .ref h6, .ref h2, .int x1, .int x2, .long y0, .int x3, .int x4, .int z47, .int x6, .ref h7, .ref h8, .ref h9, .int x7, .int x8])), (h1, .inr (6, [.ref h3, .ref h10, .int x9, .int x10])), (h2, .inr (3, [.ref h4, .ref h11, .ref h12, .ref h13, .int x11, .int x12, .int x13])), (h3, .inl (gJ g, 48, .inr (.inl fm0))), (h4, .inr (4, [.ref h5, .int x14])), (h5, .inl (gB g, 1500, .inl fn0))] [2, 0, 3, 1, 4, 5] (by decide) rfl ?_
          exact ih11 z56 z55 z47 ⟨by omega, by omega⟩ (by omega)
        · skip
          have k57 : (Int32.toInt r48) = (-1) := (fa_eq r48 (-1)).mp c52
          refine r_bipush 28 7 C dX4_takeNumber_28 (by decide) ?_
          exact r_iret 30 Rt dX4_takeNumber_30 (z47, x9, fm0) (show 0 ≤ (Int32.toInt 7) ∧ (Int32.toInt 7) ≤ 7 ∧ 0 ≤ (Int32.toInt x9) ∧ (Int32.toInt x9) ≤ 48 from ⟨(by ((repeat' apply And.intro) <;> first | trivial | rfl | assumption | omega | decide | exact Or.inl rfl | exact Or.inr (Or.inl rfl) | exact Or.inr (Or.inr rfl))), (by ((repeat' apply And.intro) <;> first | trivial | rfl | assumption | omega | decide | exact Or.inl rfl | exact Or.inr (Or.inl rfl) | exact Or.inr (Or.inr rfl))), i_x9.1, i_x9.2⟩) [2, 0, 3, 1, 4, 5] (by decide) rfl (Nat.le_of_ble_eq_true rfl) (Nat.le_of_ble_eq_true rfl)
  exact lp10 _ 0 0 x5 (by decide) (Nat.lt_succ_self _)
set_option maxHeartbeats 4000000 in
set_option maxRecDepth 100000 in
theorem c269_X4_takeOperator (l : Launch) (g : GD) (h0 : Nat) (h1 : Nat) (h2 : Nat) (h3 : Nat) (h4 : Nat) (h5 : Nat) (h6 : Nat) (x0 : Int32) (x1 : Int32) (y0 : Int64) (x2 : Int32) (x3 : Int32) (x4 : Int32) (x5 : Int32) (h7 : Nat) (h8 : Nat) (h9 : Nat) (x6 : Int32) (x7 : Int32) (h10 : Nat) (x8 : Int32) (x9 : Int32) (h11 : Nat) (h12 : Nat) (h13 : Nat) (x10 : Int32) (x11 : Int32) (x12 : Int32) (fm0 : Nat → Int64) (x13 : Int32) (fn0 : Nat → Int32) (i_x5 : (0 ≤ (Int32.toInt x5) ∧ (Int32.toInt x5) ≤ 1)) (i_x6 : (0 ≤ (Int32.toInt x6) ∧ (Int32.toInt x6) ≤ 10)) (i_x7 : (0 ≤ (Int32.toInt x7) ∧ (Int32.toInt x7) ≤ 1)) (i_x8 : (0 ≤ (Int32.toInt x8) ∧ (Int32.toInt x8) ≤ 48)) (i_x9 : (0 ≤ (Int32.toInt x9) ∧ (Int32.toInt x9) ≤ 48)) (i_x13 : (0 ≤ (Int32.toInt x13) ∧ (Int32.toInt x13) ≤ 1500)) (sz : Nat) : Met l yX4_takeOperator wsX4_takeOperator ({ frames := 3, cells := 0, slots := 0, locals := 67 }) (va_Pc [.ref h0] (PW g [(h0, .inr (0, [.ref h1, .ref h6, .ref h2, .int x0, .int x1, .long y0, .int x2, .int x3, .int x4, .int x5, .ref h7, .ref h8, .ref h9, .int x6, .int x7])), (h1, .inr (6, [.ref h3, .ref h10, .int x8, .int x9])), (h2, .inr (3, [.ref h4, .ref h11, .ref h12, .ref h13, .int x10, .int x11, .int x12])), (h3, .inl (gJ g, 48, .inr (.inl fm0))), (h4, .inr (4, [.ref h5, .int x13])), (h5, .inl (gB g, 1500, .inl fn0))] sz)) (va_Qi (fun (r : Int32) (u : (Int32) × (Int32) × (Nat → Int64)) => -8 ≤ (Int32.toInt r) ∧ (Int32.toInt r) ≤ 511 ∧ 0 ≤ (Int32.toInt (u.2.1)) ∧ (Int32.toInt (u.2.1)) ≤ 48) (BW g (va_A [(h0, .inr (0, [.ref h1, .ref h6, .ref h2, .int x0, .int x1, .long y0, .int x2, .int x3, .int x4, .int x5, .ref h7, .ref h8, .ref h9, .int x6, .int x7])), (h1, .inr (6, [.ref h3, .ref h10, .int x8, .int x9])), (h2, .inr (3, [.ref h4, .ref h11, .ref h12, .ref h13, .int x10, .int x11, .int x12])), (h3, .inl (gJ g, 48, .inr (.inl fm0))), (h4, .inr (4, [.ref h5, .int x13])), (h5, .inl (gB g, 1500, .inl fn0))] sz) (fun u : (Int32) × (Int32) × (Nat → Int64) => [(h0, .inr (0, [.ref h1, .ref h6, .ref h2, .int x0, .int x1, .long y0, .int x2, .int x3, .int u.1, .int x5, .ref h7, .ref h8, .ref h9, .int x6, .int x7])), (h1, .inr (6, [.ref h3, .ref h10, .int u.2.1, .int x9])), (h2, .inr (3, [.ref h4, .ref h11, .ref h12, .ref h13, .int x10, .int x11, .int x12])), (h3, .inl (gJ g, 48, .inr (.inl u.2.2))), (h4, .inr (4, [.ref h5, .int x13])), (h5, .inl (gB g, 1500, .inl fn0))])) (va_A [(h0, .inr (0, [.ref h1, .ref h6, .ref h2, .int x0, .int x1, .long y0, .int x2, .int x3, .int x4, .int x5, .ref h7, .ref h8, .ref h9, .int x6, .int x7])), (h1, .inr (6, [.ref h3, .ref h10, .int x8, .int x9])), (h2, .inr (3, [.ref h4, .ref h11, .ref h12, .ref h13, .int x10, .int x11, .int x12])), (h3, .inl (gJ g, 48, .inr (.inl fm0))), (h4, .inr (4, [.ref h5, .int x13])), (h5, .inl (gB g, 1500, .inl fn0))] sz)) 0 0 (va_A [(h0, .inr (0, [.ref h1, .ref h6, .ref h2, .int x0, .int x1, .long y0, .int x2, .int x3, .int x4, .int x5, .ref h7, .ref h8, .ref h9, .int x6, .int x7])), (h1, .inr (6, [.ref h3, .ref h10, .int x8, .int x9])), (h2, .inr (3, [.ref h4, .ref h11, .ref h12, .ref h13, .int x10, .int x11, .int x12])), (h3, .inl (gJ g, 48, .inr (.inl fm0))), (h4, .inr (4, [.ref h5, .int x13])), (h5, .inl (gB g, 1500, .inl fn0))] sz) := by
  refine met_i RX4 (by decide) rfl rfl (Nat.le_of_ble_eq_true rfl) [(0, .ref h0)] rfl ?_
  intro p e s m args below meth c A Q C hnm Rt
  have gx0 := fb_rng x0
  have hiX0 : ∀ w ∈ wsX00, w ∈ wsX4_takeOperator := fun w h => List.mem_cons_of_mem _ (List.mem_append_left _ (List.mem_append_left _ (List.mem_append_left _ (List.mem_append_left _ (List.mem_append_right _ (h))))))
  refine r_aload_n 0 0 C dX4_takeOperator_0 rfl ?_
  refine r_callUi 1 C dX4_takeOperator_1 [] [(h0, .inr (0, [.ref h1, .ref h6, .ref h2, .int x0, .int x1, .long y0, .int x2, .int x3, .int x4, .int x5, .ref h7, .ref h8, .ref h9, .int x6, .int x7])), (h2, .inr (3, [.ref h4, .ref h11, .ref h12, .ref h13, .int x10, .int x11, .int x12])), (h4, .inr (4, [.ref h5, .int x13])), (h5, .inl (gB g, 1500, .inl fn0))] [(h1, .inr (6, [.ref h3, .ref h10, .int x8, .int x9])), (h3, .inl (gJ g, 48, .inr (.inl fm0)))] (fun sz => c265_X4_takeByte l g h0 h2 h4 h5 h1 h6 x0 x1 y0 x2 x3 x4 x5 h7 h8 h9 x6 x7 h11 h12 h13 x10 x11 x12 x13 fn0 i_x5 i_x6 i_x7 i_x13 sz) gX4_takeOperator_X4_takeByte_u85X0 rfl ⟨rfl, rfl⟩ 0 rfl (by decide) ⟨Nat.le_of_ble_eq_true rfl, Nat.le_of_ble_eq_true rfl⟩ 0 rfl rfl [0, 2, 4, 5] [1, 3] rfl rfl (by decide) (by decide) (by decide) rfl rfl (Nat.le_of_ble_eq_true rfl) ⟨Nat.le_of_ble_eq_true rfl, Nat.le_of_ble_eq_true rfl⟩ (fun r2 z1 w3 => ?_)
  refine r_ws [(h1, .inr (6, [.ref h3, .ref h10, .int x8, .int x9])), (h3, .inl (gJ g, 48, .inr (.inl fm0))), (h0, .inr (0, [.ref h1, .ref h6, .ref h2, .int x0, .int x1, .long y0, .int x2, .int x3, .int z1, .int x5, .ref h7, .ref h8, .ref h9, .int x6, .int x7])), (h2, .inr (3, [.ref h4, .ref h11, .ref h12, .ref h13, .int x10, .int x11, .int x12])), (h4, .inr (4, [.ref h5, .int x13])), (h5, .inl (gB g, 1500, .inl fn0))] rfl ?_
  have gz1 := fb_rng z1
  have p4 : -1 ≤ (Int32.toInt r2) := w3.1
  have p5 : (Int32.toInt r2) ≤ 255 := w3.2
  refine r_istore_n 4 C dX4_takeOperator_4 [(1, .int r2), (0, .ref h0)] (by decide) rfl ?_
  refine r_iconst 5 0 C dX4_takeOperator_5 (by decide) ?_
  refine r_istore_n 6 C dX4_takeOperator_6 [(2, .int 0), (1, .int r2), (0, .ref h0)] (by decide) rfl ?_
  have lp12 : ∀ (n11 : Nat) (z6 : Int32) (z7 : Int32) (z8 : Int32) (f9 : Nat → Int64) (z10 : Int32), (0 ≤ (Int32.toInt z6) ∧ (Int32.toInt z6) ≤ 49) → (-1 ≤ (Int32.toInt z7) ∧ (Int32.toInt z7) ≤ 255) → (0 ≤ (Int32.toInt z8) ∧ (Int32.toInt z8) ≤ 48) → Int.toNat (49 - (Int32.toInt z6)) < n11 → WW p l e ({ frames := 3, cells := 0, slots := 0, locals := 67 } : Room) s m args below meth c A Q g 4 0 0 [(h1, .inr (6, [.ref h3, .ref h10, .int z8, .int x9])), (h3, .inl (gJ g, 48, .inr (.inl f9))), (h0, .inr (0, [.ref h1, .ref h6, .ref h2, .int x0, .int x1, .long y0, .int x2, .int x3, .int z10, .int x5, .ref h7, .ref h8, .ref h9, .int x6, .int x7])), (h2, .inr (3, [.ref h4, .ref h11, .ref h12, .ref h13, .int x10, .int x11, .int x12])), (h4, .inr (4, [.ref h5, .int x13])), (h5, .inl (gB g, 1500, .inl fn0))] 7 [(2, .int z6), (1, .int z7), (0, .ref h0)] [] := by
    intro n11
    induction n11 with
    | zero => intro z6 z7 z8 f9 z10 i15 i16 i17 hm14; exact absurd hm14 (Nat.not_lt_zero _)
    | succ n11 ih13 =>
      intro z6 z7 z8 f9 z10 i15 i16 i17 hm14
      obtain ⟨i15a, i15b⟩ := i15
      obtain ⟨i16a, i16b⟩ := i16
      obtain ⟨i17a, i17b⟩ := i17
      have gz10 := fb_rng z10
      refine r_iload_n 7 0 C dX4_takeOperator_7 rfl ?_
      refine r_bipush 8 48 C dX4_takeOperator_8 (by decide) ?_
      refine r_icmp_gt 10 45 C dX4_takeOperator_10 (by decide) (fun c18 => ?_) (fun c18 => ?_)
      · skip
        have k19 : 48 < (Int32.toInt z6) := (fa_lt 48 z6).mp c18
        refine r_iload_n 45 1 C dX4_takeOperator_45 rfl ?_
        refine r_iconst 46 (-1) C dX4_takeOperator_46 (by decide) ?_
        refine r_icmp_ne 47 53 C dX4_takeOperator_47 (by decide) (fun c20 => ?_) (fun c20 => ?_)
        · skip
          have k21 : ¬ ((Int32.toInt z7) = (-1)) := fun h_9 => c20 ((fa_eq z7 (-1)).mpr h_9)
          refine r_aload_n 53 2 C dX4_takeOperator_53 rfl ?_
          refine r_get 54 C dX4_takeOperator_54 (k := 3) 2 rfl rfl hiX0 (by decide) rfl (mg 1 rfl) (Or.inl rfl) rfl ?_
          refine r_sipush 57 3000 C dX4_takeOperator_57 (by decide) ?_
          refine r_icmp_lt 60 66 C dX4_takeOperator_60 (by decide) (fun c22 => ?_) (fun c22 => ?_)
          · skip
            have k23 : (Int32.toInt x0) < 3000 := (fa_lt x0 3000).mp c22
            refine r_iload_n 66 1 C dX4_takeOperator_66 rfl ?_
            refine r_bipush 67 12 C dX4_takeOperator_67 (by decide) ?_
            refine r_icmp_eq 69 74 C dX4_takeOperator_69 (by decide) (fun c24 => ?_) (fun c24 => ?_)
            · skip
              have k25 : (Int32.toInt z7) = 12 := (fa_eq z7 12).mp c24
              refine r_aload_n 74 2 C dX4_takeOperator_74 rfl ?_
              refine r_callUi 75 C dX4_takeOperator_75 [] [(h0, .inr (0, [.ref h1, .ref h6, .ref h2, .int x0, .int x1, .long y0, .int x2, .int x3, .int z10, .int x5, .ref h7, .ref h8, .ref h9, .int x6, .int x7])), (h2, .inr (3, [.ref h4, .ref h11, .ref h12, .ref h13, .int x10, .int x11, .int x12])), (h4, .inr (4, [.ref h5, .int x13])), (h5, .inl (gB g, 1500, .inl fn0))] [(h1, .inr (6, [.ref h3, .ref h10, .int z8, .int x9])), (h3, .inl (gJ g, 48, .inr (.inl f9)))] (fun sz => c265_X4_takeByte l g h0 h2 h4 h5 h1 h6 x0 x1 y0 x2 x3 z10 x5 h7 h8 h9 x6 x7 h11 h12 h13 x10 x11 x12 x13 fn0 i_x5 i_x6 i_x7 i_x13 sz) gX4_takeOperator_X4_takeByte_u85X0 rfl ⟨rfl, rfl⟩ 0 rfl (by decide) ⟨Nat.le_of_ble_eq_true rfl, Nat.le_of_ble_eq_true rfl⟩ 2 rfl rfl [2, 3, 4, 5] [0, 1] rfl rfl (by decide) (by decide) (by decide) rfl rfl (Nat.le_of_ble_eq_true rfl) ⟨Nat.le_of_ble_eq_true rfl, Nat.le_of_ble_eq_true rfl⟩ (fun r27 z26 w28 => ?_)
              refine r_ws [(h1, .inr (6, [.ref h3, .ref h10, .int z8, .int x9])), (h3, .inl (gJ g, 48, .inr (.inl f9))), (h0, .inr (0, [.ref h1, .ref h6, .ref h2, .int x0, .int x1, .long y0, .int x2, .int x3, .int z26, .int x5, .ref h7, .ref h8, .ref h9, .int x6, .int x7])), (h2, .inr (3, [.ref h4, .ref h11, .ref h12, .ref h13, .int x10, .int x11, .int x12])), (h4, .inr (4, [.ref h5, .int x13])), (h5, .inl (gB g, 1500, .inl fn0))] rfl ?_
              have gz26 := fb_rng z26
              have p29 : -1 ≤ (Int32.toInt r27) := w28.1
              have p30 : (Int32.toInt r27) ≤ 255 := w28.2
              refine r_istore_n 78 C dX4_takeOperator_78 [(2, .int r27), (1, .int z7), (0, .ref h0)] (by decide) rfl ?_
              refine r_iload_n 79 0 C dX4_takeOperator_79 rfl ?_
              refine r_iconst 80 (-1) C dX4_takeOperator_80 (by decide) ?_
              refine r_icmp_ne 81 89 C dX4_takeOperator_81 (by decide) (fun c31 => ?_) (fun c31 => ?_)
              · skip
                have k32 : ¬ ((Int32.toInt r27) = (-1)) := fun h_9 => c31 ((fa_eq r27 (-1)).mpr h_9)
                refine r_sipush 89 256 C dX4_takeOperator_89 (by decide) ?_
                refine r_iload_n 92 0 C dX4_takeOperator_92 rfl ?_
                obtain ⟨z33, ez33⟩ : ∃ z_9, 256 + r27 = z_9 := ⟨_, rfl⟩
                have tz33 : (Int32.toInt z33) = 256 + (Int32.toInt r27) := by rw [← ez33]; exact fb_addIv (a := 256) (b := 256) (c := (-1)) (d := 255) ⟨by decide, by decide⟩ ⟨p29, p30⟩ (by decide) (by decide)
                refine r_iadd 93 z33 C dX4_takeOperator_93 ez33 ?_
                exact r_iret 94 Rt dX4_takeOperator_94 (z26, z8, f9) (show -8 ≤ (Int32.toInt z33) ∧ (Int32.toInt z33) ≤ 511 ∧ 0 ≤ (Int32.toInt z8) ∧ (Int32.toInt z8) ≤ 48 from ⟨(iv_wide (c := (-8)) (d := 511) (iv_add (a := 256) (b := 256) (c := (-1)) (d := 255) ⟨by decide, by decide⟩ ⟨p29, p30⟩ tz33) (by decide) (by decide)).1, (iv_wide (c := (-8)) (d := 511) (iv_add (a := 256) (b := 256) (c := (-1)) (d := 255) ⟨by decide, by decide⟩ ⟨p29, p30⟩ tz33) (by decide) (by decide)).2, (show _ ∧ _ from ⟨i17a, i17b⟩).1, (show _ ∧ _ from ⟨i17a, i17b⟩).2⟩) [2, 0, 3, 1, 4, 5] (by decide) rfl (Nat.le_of_ble_eq_true rfl) (Nat.le_of_ble_eq_true rfl)
              · skip
                have k34 : (Int32.toInt r27) = (-1) := (fa_eq r27 (-1)).mp c31
                refine r_bipush 84 (-7) C dX4_takeOperator_84 (by decide) ?_
                refine r_goto 86 94 C dX4_takeOperator_86 (by decide) ?_
                exact r_iret 94 Rt dX4_takeOperator_94 (z26, z8, f9) (show -8 ≤ (Int32.toInt (-7)) ∧ (Int32.toInt (-7)) ≤ 511 ∧ 0 ≤ (Int32.toInt z8) ∧ (Int32.toInt z8) ≤ 48 from ⟨(by ((repeat' apply And.intro) <;> first | trivial | rfl | assumption | omega | decide | exact Or.inl rfl | exact Or.inr (Or.inl rfl) | exact Or.inr (Or.inr rfl))), (by ((repeat' apply And.intro) <;> first | trivial | rfl | assumption | omega | decide | exact Or.inl rfl | exact Or.inr (Or.inl rfl) | exact Or.inr (Or.inr rfl))), (show _ ∧ _ from ⟨i17a, i17b⟩).1, (show _ ∧ _ from ⟨i17a, i17b⟩).2⟩) [2, 0, 3, 1, 4, 5] (by decide) rfl (Nat.le_of_ble_eq_true rfl) (Nat.le_of_ble_eq_true rfl)
            · skip
              have k35 : ¬ ((Int32.toInt z7) = 12) := fun h_9 => c24 ((fa_eq z7 12).mpr h_9)
              refine r_iload_n 72 1 C dX4_takeOperator_72 rfl ?_
              exact r_iret 73 Rt dX4_takeOperator_73 (z10, z8, f9) (show -8 ≤ (Int32.toInt z7) ∧ (Int32.toInt z7) ≤ 511 ∧ 0 ≤ (Int32.toInt z8) ∧ (Int32.toInt z8) ≤ 48 from ⟨(iv_wide (c := (-8)) (d := 511) ⟨i16a, i16b⟩ (by decide) (by decide)).1, (iv_wide (c := (-8)) (d := 511) ⟨i16a, i16b⟩ (by decide) (by decide)).2, (show _ ∧ _ from ⟨i17a, i17b⟩).1, (show _ ∧ _ from ⟨i17a, i17b⟩).2⟩) [2, 0, 3, 1, 4, 5] (by decide) rfl (Nat.le_of_ble_eq_true rfl) (Nat.le_of_ble_eq_true rfl)
          · skip
            have k36 : ¬ ((Int32.toInt x0) < 3000) := fun h_9 => c22 ((fa_lt x0 3000).mpr h_9)
            refine r_bipush 63 (-8) C dX4_takeOperator_63 (by decide) ?_
            exact r_iret 65 Rt dX4_takeOperator_65 (z10, z8, f9) (show -8 ≤ (Int32.toInt (-8)) ∧ (Int32.toInt (-8)) ≤ 511 ∧ 0 ≤ (Int32.toInt z8) ∧ (Int32.toInt z8) ≤ 48 from ⟨(by ((repeat' apply And.intro) <;> first | trivial | rfl | assumption | omega | decide | exact Or.inl rfl | exact Or.inr (Or.inl rfl) | exact Or.inr (Or.inr rfl))), (by ((repeat' apply And.intro) <;> first | trivial | rfl | assumption | omega | decide | exact Or.inl rfl | exact Or.inr (Or.inl rfl) | exact Or.inr (Or.inr rfl))), (show _ ∧ _ from ⟨i17a, i17b⟩).1, (show _ ∧ _ from ⟨i17a, i17b⟩).2⟩) [2, 0, 3, 1, 4, 5] (by decide) rfl (Nat.le_of_ble_eq_true rfl) (Nat.le_of_ble_eq_true rfl)
        · skip
          have k37 : (Int32.toInt z7) = (-1) := (fa_eq z7 (-1)).mp c20
          refine r_bipush 50 (-7) C dX4_takeOperator_50 (by decide) ?_
          exact r_iret 52 Rt dX4_takeOperator_52 (z10, z8, f9) (show -8 ≤ (Int32.toInt (-7)) ∧ (Int32.toInt (-7)) ≤ 511 ∧ 0 ≤ (Int32.toInt z8) ∧ (Int32.toInt z8) ≤ 48 from ⟨(by ((repeat' apply And.intro) <;> first | trivial | rfl | assumption | omega | decide | exact Or.inl rfl | exact Or.inr (Or.inl rfl) | exact Or.inr (Or.inr rfl))), (by ((repeat' apply And.intro) <;> first | trivial | rfl | assumption | omega | decide | exact Or.inl rfl | exact Or.inr (Or.inl rfl) | exact Or.inr (Or.inr rfl))), (show _ ∧ _ from ⟨i17a, i17b⟩).1, (show _ ∧ _ from ⟨i17a, i17b⟩).2⟩) [2, 0, 3, 1, 4, 5] (by decide) rfl (Nat.le_of_ble_eq_true rfl) (Nat.le_of_ble_eq_true rfl)
      · skip
        have k38 : ¬ (48 < (Int32.toInt z6)) := fun h_9 => c18 ((fa_lt 48 z6).mpr h_9)
        refine r_aload_n 13 2 C dX4_takeOperator_13 rfl ?_
        refine r_iload_n 14 1 C dX4_takeOperator_14 rfl ?_
        refine r_callAi 15 C dX4_takeOperator_15 [] [] [(h1, .inr (6, [.ref h3, .ref h10, .int z8, .int x9])), (h3, .inl (gJ g, 48, .inr (.inl f9))), (h0, .inr (0, [.ref h1, .ref h6, .ref h2, .int x0, .int x1, .long y0, .int x2, .int x3, .int z10, .int x5, .ref h7, .ref h8, .ref h9, .int x6, .int x7])), (h2, .inr (3, [.ref h4, .ref h11, .ref h12, .ref h13, .int x10, .int x11, .int x12])), (h4, .inr (4, [.ref h5, .int x13])), (h5, .inl (gB g, 1500, .inl fn0))] (fun sz => c266_X0_isNumber l g h0 z7  sz) gX4_takeOperator_X0_isNumber_u88X0 rfl ⟨rfl, rfl⟩ 1 (mg 37 rfl) (by decide) ⟨Nat.le_of_ble_eq_true rfl, Nat.le_of_ble_eq_true rfl⟩ 2 rfl rfl [] [0, 1, 2, 3, 4, 5] rfl rfl (by decide) (by decide) (by decide) rfl rfl (Nat.le_of_ble_eq_true rfl) ⟨Nat.le_of_ble_eq_true rfl, Nat.le_of_ble_eq_true rfl⟩ (fun r39 _ w40 => ?_)
        refine r_ws [(h1, .inr (6, [.ref h3, .ref h10, .int z8, .int x9])), (h3, .inl (gJ g, 48, .inr (.inl f9))), (h0, .inr (0, [.ref h1, .ref h6, .ref h2, .int x0, .int x1, .long y0, .int x2, .int x3, .int z10, .int x5, .ref h7, .ref h8, .ref h9, .int x6, .int x7])), (h2, .inr (3, [.ref h4, .ref h11, .ref h12, .ref h13, .int x10, .int x11, .int x12])), (h4, .inr (4, [.ref h5, .int x13])), (h5, .inl (gB g, 1500, .inl fn0))] rfl ?_
        have p41 : 0 ≤ (Int32.toInt r39) := w40.1
        have p42 : (Int32.toInt r39) ≤ 1 := w40.2
        refine r_if_eq 18 45 C dX4_takeOperator_18 (by decide) (fun c43 => ?_) (fun c43 => ?_)
        · skip
          have k44 : (Int32.toInt r39) = 0 := (fa_eq r39 0).mp c43
          refine r_iload_n 45 1 C dX4_takeOperator_45 rfl ?_
          refine r_iconst 46 (-1) C dX4_takeOperator_46 (by decide) ?_
          refine r_icmp_ne 47 53 C dX4_takeOperator_47 (by decide) (fun c45 => ?_) (fun c45 => ?_)
          · skip
            have k46 : ¬ ((Int32.toInt z7) = (-1)) := fun h_9 => c45 ((fa_eq z7 (-1)).mpr h_9)
            refine r_aload_n 53 2 C dX4_takeOperator_53 rfl ?_
            refine r_get 54 C dX4_takeOperator_54 (k := 3) 2 rfl rfl hiX0 (by decide) rfl (mg 1 rfl) (Or.inl rfl) rfl ?_
            refine r_sipush 57 3000 C dX4_takeOperator_57 (by decide) ?_
            refine r_icmp_lt 60 66 C dX4_takeOperator_60 (by decide) (fun c47 => ?_) (fun c47 => ?_)
            · skip
              have k48 : (Int32.toInt x0) < 3000 := (fa_lt x0 3000).mp c47
              refine r_iload_n 66 1 C dX4_takeOperator_66 rfl ?_
              refine r_bipush 67 12 C dX4_takeOperator_67 (by decide) ?_
              refine r_icmp_eq 69 74 C dX4_takeOperator_69 (by decide) (fun c49 => ?_) (fun c49 => ?_)
              · skip
                have k50 : (Int32.toInt z7) = 12 := (fa_eq z7 12).mp c49
                refine r_aload_n 74 2 C dX4_takeOperator_74 rfl ?_
                refine r_callUi 75 C dX4_takeOperator_75 [] [(h0, .inr (0, [.ref h1, .ref h6, .ref h2, .int x0, .int x1, .long y0, .int x2, .int x3, .int z10, .int x5, .ref h7, .ref h8, .ref h9, .int x6, .int x7])), (h2, .inr (3, [.ref h4, .ref h11, .ref h12, .ref h13, .int x10, .int x11, .int x12])), (h4, .inr (4, [.ref h5, .int x13])), (h5, .inl (gB g, 1500, .inl fn0))] [(h1, .inr (6, [.ref h3, .ref h10, .int z8, .int x9])), (h3, .inl (gJ g, 48, .inr (.inl f9)))] (fun sz => c265_X4_takeByte l g h0 h2 h4 h5 h1 h6 x0 x1 y0 x2 x3 z10 x5 h7 h8 h9 x6 x7 h11 h12 h13 x10 x11 x12 x13 fn0 i_x5 i_x6 i_x7 i_x13 sz) gX4_takeOperator_X4_takeByte_u85X0 rfl ⟨rfl, rfl⟩ 0 rfl (by decide) ⟨Nat.le_of_ble_eq_true rfl, Nat.le_of_ble_eq_true rfl⟩ 2 rfl rfl [2, 3, 4, 5] [0, 1] rfl rfl (by decide) (by decide) (by decide) rfl rfl (Nat.le_of_ble_eq_true rfl) ⟨Nat.le_of_ble_eq_true rfl, Nat.le_of_ble_eq_true rfl⟩ (fun r52 z51 w53 => ?_)
                refine r_ws [(h1, .inr (6, [.ref h3, .ref h10, .int z8, .int x9])), (h3, .inl (gJ g, 48, .inr (.inl f9))), (h0, .inr (0, [.ref h1, .ref h6, .ref h2, .int x0, .int x1, .long y0, .int x2, .int x3, .int z51, .int x5, .ref h7, .ref h8, .ref h9, .int x6, .int x7])), (h2, .inr (3, [.ref h4, .ref h11, .ref h12, .ref h13, .int x10, .int x11, .int x12])), (h4, .inr (4, [.ref h5, .int x13])), (h5, .inl (gB g, 1500, .inl fn0))] rfl ?_
                have gz51 := fb_rng z51
                have p54 : -1 ≤ (Int32.toInt r52) := w53.1
                have p55 : (Int32.toInt r52) ≤ 255 := w53.2
                refine r_istore_n 78 C dX4_takeOperator_78 [(2, .int r52), (1, .int z7), (0, .ref h0)] (by decide) rfl ?_
                refine r_iload_n 79 0 C dX4_takeOperator_79 rfl ?_
                refine r_iconst 80 (-1) C dX4_takeOperator_80 (by decide) ?_
                refine r_icmp_ne 81 89 C dX4_takeOperator_81 (by decide) (fun c56 => ?_) (fun c56 => ?_)
                · skip
                  have k57 : ¬ ((Int32.toInt r52) = (-1)) := fun h_9 => c56 ((fa_eq r52 (-1)).mpr h_9)
                  refine r_sipush 89 256 C dX4_takeOperator_89 (by decide) ?_
                  refine r_iload_n 92 0 C dX4_takeOperator_92 rfl ?_
                  obtain ⟨z58, ez58⟩ : ∃ z_9, 256 + r52 = z_9 := ⟨_, rfl⟩
                  have tz58 : (Int32.toInt z58) = 256 + (Int32.toInt r52) := by rw [← ez58]; exact fb_addIv (a := 256) (b := 256) (c := (-1)) (d := 255) ⟨by decide, by decide⟩ ⟨p54, p55⟩ (by decide) (by decide)
                  refine r_iadd 93 z58 C dX4_takeOperator_93 ez58 ?_
                  exact r_iret 94 Rt dX4_takeOperator_94 (z51, z8, f9) (show -8 ≤ (Int32.toInt z58) ∧ (Int32.toInt z58) ≤ 511 ∧ 0 ≤ (Int32.toInt z8) ∧ (Int32.toInt z8) ≤ 48 from ⟨(iv_wide (c := (-8)) (d := 511) (iv_add (a := 256) (b := 256) (c := (-1)) (d := 255) ⟨by decide, by decide⟩ ⟨p54, p55⟩ tz58) (by decide) (by decide)).1, (iv_wide (c := (-8)) (d := 511) (iv_add (a := 256) (b := 256) (c := (-1)) (d := 255) ⟨by decide, by decide⟩ ⟨p54, p55⟩ tz58) (by decide) (by decide)).2, (show _ ∧ _ from ⟨i17a, i17b⟩).1, (show _ ∧ _ from ⟨i17a, i17b⟩).2⟩) [2, 0, 3, 1, 4, 5] (by decide) rfl (Nat.le_of_ble_eq_true rfl) (Nat.le_of_ble_eq_true rfl)
                · skip
                  have k59 : (Int32.toInt r52) = (-1) := (fa_eq r52 (-1)).mp c56
                  refine r_bipush 84 (-7) C dX4_takeOperator_84 (by decide) ?_
                  refine r_goto 86 94 C dX4_takeOperator_86 (by decide) ?_
                  exact r_iret 94 Rt dX4_takeOperator_94 (z51, z8, f9) (show -8 ≤ (Int32.toInt (-7)) ∧ (Int32.toInt (-7)) ≤ 511 ∧ 0 ≤ (Int32.toInt z8) ∧ (Int32.toInt z8) ≤ 48 from ⟨(by ((repeat' apply And.intro) <;> first | trivial | rfl | assumption | omega | decide | exact Or.inl rfl | exact Or.inr (Or.inl rfl) | exact Or.inr (Or.inr rfl))), (by ((repeat' apply And.intro) <;> first | trivial | rfl | assumption | omega | decide | exact Or.inl rfl | exact Or.inr (Or.inl rfl) | exact Or.inr (Or.inr rfl))), (show _ ∧ _ from ⟨i17a, i17b⟩).1, (show _ ∧ _ from ⟨i17a, i17b⟩).2⟩) [2, 0, 3, 1, 4, 5] (by decide) rfl (Nat.le_of_ble_eq_true rfl) (Nat.le_of_ble_eq_true rfl)
              · skip
                have k60 : ¬ ((Int32.toInt z7) = 12) := fun h_9 => c49 ((fa_eq z7 12).mpr h_9)
                refine r_iload_n 72 1 C dX4_takeOperator_72 rfl ?_
                exact r_iret 73 Rt dX4_takeOperator_73 (z10, z8, f9) (show -8 ≤ (Int32.toInt z7) ∧ (Int32.toInt z7) ≤ 511 ∧ 0 ≤ (Int32.toInt z8) ∧ (Int32.toInt z8) ≤ 48 from ⟨(iv_wide (c := (-8)) (d := 511) ⟨i16a, i16b⟩ (by decide) (by decide)).1, (iv_wide (c := (-8)) (d := 511) ⟨i16a, i16b⟩ (by decide) (by decide)).2, (show _ ∧ _ from ⟨i17a, i17b⟩).1, (show _ ∧ _ from ⟨i17a, i17b⟩).2⟩) [2, 0, 3, 1, 4, 5] (by decide) rfl (Nat.le_of_ble_eq_true rfl) (Nat.le_of_ble_eq_true rfl)
            · skip
              have k61 : ¬ ((Int32.toInt x0) < 3000) := fun h_9 => c47 ((fa_lt x0 3000).mpr h_9)
              refine r_bipush 63 (-8) C dX4_takeOperator_63 (by decide) ?_
              exact r_iret 65 Rt dX4_takeOperator_65 (z10, z8, f9) (show -8 ≤ (Int32.toInt (-8)) ∧ (Int32.toInt (-8)) ≤ 511 ∧ 0 ≤ (Int32.toInt z8) ∧ (Int32.toInt z8) ≤ 48 from ⟨(by ((repeat' apply And.intro) <;> first | trivial | rfl | assumption | omega | decide | exact Or.inl rfl | exact Or.inr (Or.inl rfl) | exact Or.inr (Or.inr rfl))), (by ((repeat' apply And.intro) <;> first | trivial | rfl | assumption | omega | decide | exact Or.inl rfl | exact Or.inr (Or.inl rfl) | exact Or.inr (Or.inr rfl))), (show _ ∧ _ from ⟨i17a, i17b⟩).1, (show _ ∧ _ from ⟨i17a, i17b⟩).2⟩) [2, 0, 3, 1, 4, 5] (by decide) rfl (Nat.le_of_ble_eq_true rfl) (Nat.le_of_ble_eq_true rfl)
          · skip
            have k62 : (Int32.toInt z7) = (-1) := (fa_eq z7 (-1)).mp c45
            refine r_bipush 50 (-7) C dX4_takeOperator_50 (by decide) ?_
            exact r_iret 52 Rt dX4_takeOperator_52 (z10, z8, f9) (show -8 ≤ (Int32.toInt (-7)) ∧ (Int32.toInt (-7)) ≤ 511 ∧ 0 ≤ (Int32.toInt z8) ∧ (Int32.toInt z8) ≤ 48 from ⟨(by ((repeat' apply And.intro) <;> first | trivial | rfl | assumption | omega | decide | exact Or.inl rfl | exact Or.inr (Or.inl rfl) | exact Or.inr (Or.inr rfl))), (by ((repeat' apply And.intro) <;> first | trivial | rfl | assumption | omega | decide | exact Or.inl rfl | exact Or.inr (Or.inl rfl) | exact Or.inr (Or.inr rfl))), (show _ ∧ _ from ⟨i17a, i17b⟩).1, (show _ ∧ _ from ⟨i17a, i17b⟩).2⟩) [2, 0, 3, 1, 4, 5] (by decide) rfl (Nat.le_of_ble_eq_true rfl) (Nat.le_of_ble_eq_true rfl)
        · skip
          have k63 : ¬ ((Int32.toInt r39) = 0) := fun h_9 => c43 ((fa_eq r39 0).mpr h_9)
          refine r_aload_n 21 2 C dX4_takeOperator_21 rfl ?_
          refine r_iload_n 22 1 C dX4_takeOperator_22 rfl ?_
          refine r_callUi 23 C dX4_takeOperator_23 [] [(h0, .inr (0, [.ref h1, .ref h6, .ref h2, .int x0, .int x1, .long y0, .int x2, .int x3, .int z10, .int x5, .ref h7, .ref h8, .ref h9, .int x6, .int x7])), (h1, .inr (6, [.ref h3, .ref h10, .int z8, .int x9])), (h2, .inr (3, [.ref h4, .ref h11, .ref h12, .ref h13, .int x10, .int x11, .int x12])), (h3, .inl (gJ g, 48, .inr (.inl f9))), (h4, .inr (4, [.ref h5, .int x13])), (h5, .inl (gB g, 1500, .inl fn0))] [] (fun sz => c268_X4_takeNumber l g h0 h1 h2 h3 h4 h5 z7 h6 x0 x1 y0 x2 x3 z10 x5 h7 h8 h9 x6 x7 h10 z8 x9 h11 h12 h13 x10 x11 x12 f9 x13 fn0 i_x5 i_x6 i_x7 ⟨i17a, i17b⟩ i_x9 i_x13 sz) gX4_takeOperator_X4_takeNumber_u92X0 rfl ⟨rfl, rfl⟩ 1 rfl (by decide) ⟨Nat.le_of_ble_eq_true rfl, Nat.le_of_ble_eq_true rfl⟩ 2 rfl rfl [2, 0, 3, 1, 4, 5] [] rfl rfl (by decide) (by decide) (by decide) rfl rfl (Nat.le_of_ble_eq_true rfl) ⟨Nat.le_of_ble_eq_true rfl, Nat.le_of_ble_eq_true rfl⟩ (fun r67 u69 w68 => ?_)
          obtain ⟨z64, z65, f66⟩ := u69
          refine r_ws [(h0, .inr (0, [.ref h1, .ref h6, .ref h2, .int x0, .int x1, .long y0, .int x2, .int x3, .int z64, .int x5, .ref h7, .ref h8, .ref h9, .int x6, .int x7])), (h1, .inr (6, [.ref h3, .ref h10, .int z65, .int x9])), (h2, .inr (3, [.ref h4, .ref h11, .ref h12, .ref h13, .int x10, .int x11, .int x12])), (h3, .inl (gJ g, 48, .inr (.inl f66))), (h4, .inr (4, [.ref h5, .int x13])), (h5, .inl (gB g, 1500, .inl fn0))] rfl ?_
          have gz64 := fb_rng z64
          have p70 : 0 ≤ (Int32.toInt r67) := w68.1
          have p71 : (Int32.toInt r67) ≤ 7 := w68.2.1
          have p72 : 0 ≤ (Int32.toInt z65) := w68.2.2.1
          have p73 : (Int32.toInt z65) ≤ 48 := w68.2.2.2
          refine r_istore_n 26 C dX4_takeOperator_26 [(3, .int r67), (2, .int z6), (1, .int z7), (0, .ref h0)] (by decide) rfl ?_
          refine r_iload_n 27 0 C dX4_takeOperator_27 rfl ?_
          refine r_if_eq 28 34 C dX4_takeOperator_28 (by decide) (fun c74 => ?_) (fun c74 => ?_)
          · skip
            have k75 : (Int32.toInt r67) = 0 := (fa_eq r67 0).mp c74
            refine r_aload_n 34 3 C dX4_takeOperator_34 rfl ?_
            refine r_callUi 35 C dX4_takeOperator_35 [] [(h0, .inr (0, [.ref h1, .ref h6, .ref h2, .int x0, .int x1, .long y0, .int x2, .int x3, .int z64, .int x5, .ref h7, .ref h8, .ref h9, .int x6, .int x7])), (h2, .inr (3, [.ref h4, .ref h11, .ref h12, .ref h13, .int x10, .int x11, .int x12])), (h4, .inr (4, [.ref h5, .int x13])), (h5, .inl (gB g, 1500, .inl fn0))] [(h1, .inr (6, [.ref h3, .ref h10, .int z65, .int x9])), (h3, .inl (gJ g, 48, .inr (.inl f66)))] (fun sz => c265_X4_takeByte l g h0 h2 h4 h5 h1 h6 x0 x1 y0 x2 x3 z64 x5 h7 h8 h9 x6 x7 h11 h12 h13 x10 x11 x12 x13 fn0 i_x5 i_x6 i_x7 i_x13 sz) gX4_takeOperator_X4_takeByte_u85X0 rfl ⟨rfl, rfl⟩ 0 rfl (by decide) ⟨Nat.le_of_ble_eq_true rfl, Nat.le_of_ble_eq_true rfl⟩ 0 rfl rfl [0, 2, 4, 5] [1, 3] rfl rfl (by decide) (by decide) (by decide) rfl rfl (Nat.le_of_ble_eq_true rfl) ⟨Nat.le_of_ble_eq_true rfl, Nat.le_of_ble_eq_true rfl⟩ (fun r77 z76 w78 => ?_)
            refine r_ws [(h1, .inr (6, [.ref h3, .ref h10, .int z65, .int x9])), (h3, .inl (gJ g, 48, .inr (.inl f66))), (h0, .inr (0, [.ref h1, .ref h6, .ref h2, .int x0, .int x1, .long y0, .int x2, .int x3, .int z76, .int x5, .ref h7, .ref h8, .ref h9, .int x6, .int x7])), (h2, .inr (3, [.ref h4, .ref h11, .ref h12, .ref h13, .int x10, .int x11, .int x12])), (h4, .inr (4, [.ref h5, .int x13])), (h5, .inl (gB g, 1500, .inl fn0))] rfl ?_
            have gz76 := fb_rng z76
            have p79 : -1 ≤ (Int32.toInt r77) := w78.1
            have p80 : (Int32.toInt r77) ≤ 255 := w78.2
            refine r_istore_n 38 C dX4_takeOperator_38 [(1, .int r77), (3, .int r67), (2, .int z6), (0, .ref h0)] (by decide) rfl ?_
            obtain ⟨z81, ez81⟩ : ∃ z_9, z6 + Int32.ofInt 1 = z_9 := ⟨_, rfl⟩
            have tz81 : (Int32.toInt z81) = (Int32.toInt z6) + 1 := by rw [← ez81]; exact fb_addIv (a := 0) (b := 49) (c := 1) (d := 1) ⟨i15a, i15b⟩ ⟨by decide, by decide⟩ (by decide) (by decide)
            refine r_iinc 39 2 z81 C dX4_takeOperator_39 rfl ez81 [(2, .int z81), (1, .int r77), (3, .int r67), (0, .ref h0)] (by decide) rfl ?_
            refine r_goto 42 7 C dX4_takeOperator_42 (by decide) ?_
            refine r_lv [(2, .int z81), (1, .int r77), (0, .ref h0)] [0, 1, 3] rfl ?_
            exact ih13 z81 r77 z65 f66 z76 ⟨by omega, by omega⟩ ⟨p79, p80⟩ ⟨p72, p73⟩ (by omega)
          · skip
            have k82 : ¬ ((Int32.toInt r67) = 0) := fun h_9 => c74 ((fa_eq r67 0).mpr h_9)
            refine r_iload_n 31 0 C dX4_takeOperator_31 rfl ?_
            obtain ⟨z83, ez83⟩ : ∃ z_9, -r67 = z_9 := ⟨_, rfl⟩
            have tz83 : (Int32.toInt z83) = -(Int32.toInt r67) := by rw [← ez83]; exact neg_in (by omega)
            refine r_ineg 32 z83 C dX4_takeOperator_32 ez83 ?_
            exact r_iret 33 Rt dX4_takeOperator_33 (z64, z65, f66) (show -8 ≤ (Int32.toInt z83) ∧ (Int32.toInt z83) ≤ 511 ∧ 0 ≤ (Int32.toInt z65) ∧ (Int32.toInt z65) ≤ 48 from ⟨(by ((repeat' apply And.intro) <;> first | trivial | rfl | assumption | omega | decide | exact Or.inl rfl | exact Or.inr (Or.inl rfl) | exact Or.inr (Or.inr rfl))), (by ((repeat' apply And.intro) <;> first | trivial | rfl | assumption | omega | decide | exact Or.inl rfl | exact Or.inr (Or.inl rfl) | exact Or.inr (Or.inr rfl))), (show _ ∧ _ from ⟨p72, p73⟩).1, (show _ ∧ _ from ⟨p72, p73⟩).2⟩) [0, 1, 2, 3, 4, 5] (by decide) rfl (Nat.le_of_ble_eq_true rfl) (Nat.le_of_ble_eq_true rfl)
  exact lp12 _ 0 r2 x8 fm0 z1 (by decide) ⟨p4, p5⟩ i_x8 (Nat.lt_succ_self _)
set_option maxHeartbeats 4000000 in
set_option maxRecDepth 100000 in
theorem c270_X0_biasOf (l : Launch) (g : GD) (h0 : Nat) (h1 : Nat) (h2 : Nat) (h3 : Nat) (x0 : Int32) (x1 : Int32) (x2 : Int32) (sz : Nat) : Met l yX0_biasOf wsX0_biasOf ({ frames := 1, cells := 0, slots := 0, locals := 20 }) (va_Pc [.ref h0] (PW g [(h0, .inr (7, [.ref h1, .ref h2, .ref h3, .int x0, .int x1, .int x2]))] sz)) (va_Qi (fun (r : Int32) (_ : Unit) => 107 ≤ (Int32.toInt r) ∧ (Int32.toInt r) ≤ 32768) (BW g (va_A [(h0, .inr (7, [.ref h1, .ref h2, .ref h3, .int x0, .int x1, .int x2]))] sz) (fun _ : Unit => [(h0, .inr (7, [.ref h1, .ref h2, .ref h3, .int x0, .int x1, .int x2]))])) (va_A [(h0, .inr (7, [.ref h1, .ref h2, .ref h3, .int x0, .int x1, .int x2]))] sz)) 0 0 (va_A [(h0, .inr (7, [.ref h1, .ref h2, .ref h3, .int x0, .int x1, .int x2]))] sz) := by
  refine met_i RX0 (by decide) rfl rfl (Nat.le_of_ble_eq_true rfl) [(0, .ref h0)] rfl ?_
  intro p e s m args below meth c A Q C hnm Rt
  have gx0 := fb_rng x0
  refine r_aload_n 0 0 C dX0_biasOf_0 rfl ?_
  refine r_callVi 1 C dX0_biasOf_1 [] [(h0, .inr (7, [.ref h1, .ref h2, .ref h3, .int x0, .int x1, .int x2]))] [] (fun sz => c6_X8_size l g h0 h1 h2 h3 x0 x1 x2  sz) gX0_biasOf_X8_size rfl ⟨rfl, rfl⟩ 0 (by decide) ⟨Nat.le_of_ble_eq_true rfl, Nat.le_of_ble_eq_true rfl⟩ 0 rfl rfl [0] [] rfl rfl (by decide) (by decide) (by decide) rfl rfl (Nat.le_of_ble_eq_true rfl) ⟨Nat.le_of_ble_eq_true rfl, Nat.le_of_ble_eq_true rfl⟩ (fun r1 _ w2 => ?_)
  refine r_ws [(h0, .inr (7, [.ref h1, .ref h2, .ref h3, .int x0, .int x1, .int x2]))] rfl ?_
  have p3 : x0 = r1 := (w2).symm
  subst p3
  refine r_sipush 4 1240 C dX0_biasOf_4 (by decide) ?_
  refine r_icmp_ge 7 13 C dX0_biasOf_7 (by decide) (fun c4 => ?_) (fun c4 => ?_)
  · skip
    have k5 : 1240 ≤ (Int32.toInt x0) := (fa_le 1240 x0).mp c4
    refine r_aload_n 13 0 C dX0_biasOf_13 rfl ?_
    refine r_callVi 14 C dX0_biasOf_14 [] [(h0, .inr (7, [.ref h1, .ref h2, .ref h3, .int x0, .int x1, .int x2]))] [] (fun sz => c6_X8_size l g h0 h1 h2 h3 x0 x1 x2  sz) gX0_biasOf_X8_size rfl ⟨rfl, rfl⟩ 0 (by decide) ⟨Nat.le_of_ble_eq_true rfl, Nat.le_of_ble_eq_true rfl⟩ 0 rfl rfl [0] [] rfl rfl (by decide) (by decide) (by decide) rfl rfl (Nat.le_of_ble_eq_true rfl) ⟨Nat.le_of_ble_eq_true rfl, Nat.le_of_ble_eq_true rfl⟩ (fun r6 _ w7 => ?_)
    refine r_ws [(h0, .inr (7, [.ref h1, .ref h2, .ref h3, .int x0, .int x1, .int x2]))] rfl ?_
    have p8 : x0 = r6 := (w7).symm
    subst p8
    refine r_ldc 17 33900 C dX0_biasOf_17 (mg 1 rfl) ?_
    refine r_icmp_ge 19 28 C dX0_biasOf_19 (by decide) (fun c9 => ?_) (fun c9 => ?_)
    · skip
      have k10 : 33900 ≤ (Int32.toInt x0) := (fa_le 33900 x0).mp c9
      refine r_ldc 28 32768 C dX0_biasOf_28 (mg 2 rfl) ?_
      exact r_iret 30 Rt dX0_biasOf_30 () (show 107 ≤ (Int32.toInt 32768) ∧ (Int32.toInt 32768) ≤ 32768 from ⟨(by ((repeat' apply And.intro) <;> first | trivial | rfl | assumption | omega | decide | exact Or.inl rfl | exact Or.inr (Or.inl rfl) | exact Or.inr (Or.inr rfl))), (by ((repeat' apply And.intro) <;> first | trivial | rfl | assumption | omega | decide | exact Or.inl rfl | exact Or.inr (Or.inl rfl) | exact Or.inr (Or.inr rfl)))⟩) [0] (by decide) rfl (Nat.le_of_ble_eq_true rfl) (Nat.le_of_ble_eq_true rfl)
    · skip
      have k11 : ¬ (33900 ≤ (Int32.toInt x0)) := fun h_9 => c9 ((fa_le 33900 x0).mpr h_9)
      refine r_sipush 22 1131 C dX0_biasOf_22 (by decide) ?_
      refine r_goto 25 30 C dX0_biasOf_25 (by decide) ?_
      exact r_iret 30 Rt dX0_biasOf_30 () (show 107 ≤ (Int32.toInt 1131) ∧ (Int32.toInt 1131) ≤ 32768 from ⟨(by ((repeat' apply And.intro) <;> first | trivial | rfl | assumption | omega | decide | exact Or.inl rfl | exact Or.inr (Or.inl rfl) | exact Or.inr (Or.inr rfl))), (by ((repeat' apply And.intro) <;> first | trivial | rfl | assumption | omega | decide | exact Or.inl rfl | exact Or.inr (Or.inl rfl) | exact Or.inr (Or.inr rfl)))⟩) [0] (by decide) rfl (Nat.le_of_ble_eq_true rfl) (Nat.le_of_ble_eq_true rfl)
  · skip
    have k12 : ¬ (1240 ≤ (Int32.toInt x0)) := fun h_9 => c4 ((fa_le 1240 x0).mpr h_9)
    refine r_bipush 10 107 C dX0_biasOf_10 (by decide) ?_
    exact r_iret 12 Rt dX0_biasOf_12 () (show 107 ≤ (Int32.toInt 107) ∧ (Int32.toInt 107) ≤ 32768 from ⟨(by ((repeat' apply And.intro) <;> first | trivial | rfl | assumption | omega | decide | exact Or.inl rfl | exact Or.inr (Or.inl rfl) | exact Or.inr (Or.inr rfl))), (by ((repeat' apply And.intro) <;> first | trivial | rfl | assumption | omega | decide | exact Or.inl rfl | exact Or.inr (Or.inl rfl) | exact Or.inr (Or.inr rfl)))⟩) [0] (by decide) rfl (Nat.le_of_ble_eq_true rfl) (Nat.le_of_ble_eq_true rfl)
set_option maxHeartbeats 4000000 in
set_option maxRecDepth 100000 in
theorem c271_X4_call (l : Launch) (g : GD) (h0 : Nat) (h1 : Nat) (h2 : Nat) (h3 : Nat) (h4 : Nat) (h5 : Nat) (h6 : Nat) (h7 : Nat) (h8 : Nat) (h9 : Nat) (h10 : Nat) (x0 : Int32) (h11 : Nat) (h12 : Nat) (x1 : Int32) (x2 : Int32) (y0 : Int64) (x3 : Int32) (x4 : Int32) (x5 : Int32) (x6 : Int32) (x7 : Int32) (x8 : Int32) (x9 : Int32) (x10 : Int32) (x11 : Int32) (h13 : Nat) (x12 : Int32) (x13 : Int32) (fn0 : Nat → Int32) (fn1 : Nat → Int32) (fn2 : Nat → Int32) (x14 : Int32) (fn3 : Nat → Int32) (fn4 : Nat → Int32) (fm0 : Nat → Int64) (fn5 : Nat → Int32) (i_x6 : (0 ≤ (Int32.toInt x6) ∧ (Int32.toInt x6) ≤ 1)) (i_x7 : (0 ≤ (Int32.toInt x7) ∧ (Int32.toInt x7) ≤ 10)) (i_x8 : (0 ≤ (Int32.toInt x8) ∧ (Int32.toInt x8) ≤ 1)) (i_x12 : (0 ≤ (Int32.toInt x12) ∧ (Int32.toInt x12) ≤ 48)) (i_x13 : (0 ≤ (Int32.toInt x13) ∧ (Int32.toInt x13) ≤ 48)) (i_x14 : (0 ≤ (Int32.toInt x14) ∧ (Int32.toInt x14) ≤ 1500)) (sz : Nat) : Met l yX4_call wsX4_call ({ frames := 3, cells := 0, slots := 0, locals := 66 }) (va_Pc [.ref h0, .ref h1, .int x0] (PW g [(h0, .inr (0, [.ref h2, .ref h11, .ref h12, .int x1, .int x2, .long y0, .int x3, .int x4, .int x5, .int x6, .ref h3, .ref h4, .ref h5, .int x7, .int x8])), (h1, .inr (7, [.ref h6, .ref h7, .ref h8, .int x9, .int x10, .int x11])), (h2, .inr (6, [.ref h9, .ref h13, .int x12, .int x13])), (h3, .inl (gI g, 10, .inl fn0)), (h4, .inl (gI g, 10, .inl fn1)), (h5, .inl (gI g, 10, .inl fn2)), (h6, .inr (4, [.ref h10, .int x14])), (h7, .inl (gI g, 200, .inl fn3)), (h8, .inl (gI g, 200, .inl fn4)), (h9, .inl (gJ g, 48, .inr (.inl fm0))), (h10, .inl (gB g, 1500, .inl fn5))] sz)) (va_Qi (fun (r : Int32) (u : (Int32) × (Int32) × (Int32) × (Int32) × (Int32) × (Nat → Int32) × (Nat → Int32) × (Nat → Int32)) => 0 ≤ (Int32.toInt r) ∧ (Int32.toInt r) ≤ 5 ∧ 0 ≤ (Int32.toInt (u.2.2.2.1)) ∧ (Int32.toInt (u.2.2.2.1)) ≤ 10 ∧ 0 ≤ (Int32.toInt (u.2.2.2.2.1)) ∧ (Int32.toInt (u.2.2.2.2.1)) ≤ 48) (BW g (va_A [(h0, .inr (0, [.ref h2, .ref h11, .ref h12, .int x1, .int x2, .long y0, .int x3, .int x4, .int x5, .int x6, .ref h3, .ref h4, .ref h5, .int x7, .int x8])), (h1, .inr (7, [.ref h6, .ref h7, .ref h8, .int x9, .int x10, .int x11])), (h2, .inr (6, [.ref h9, .ref h13, .int x12, .int x13])), (h3, .inl (gI g, 10, .inl fn0)), (h4, .inl (gI g, 10, .inl fn1)), (h5, .inl (gI g, 10, .inl fn2)), (h6, .inr (4, [.ref h10, .int x14])), (h7, .inl (gI g, 200, .inl fn3)), (h8, .inl (gI g, 200, .inl fn4)), (h9, .inl (gJ g, 48, .inr (.inl fm0))), (h10, .inl (gB g, 1500, .inl fn5))] sz) (fun u : (Int32) × (Int32) × (Int32) × (Int32) × (Int32) × (Nat → Int32) × (Nat → Int32) × (Nat → Int32) => [(h0, .inr (0, [.ref h2, .ref h11, .ref h12, .int x1, .int x2, .long y0, .int u.1, .int u.2.1, .int u.2.2.1, .int x6, .ref h3, .ref h4, .ref h5, .int u.2.2.2.1, .int x8])), (h1, .inr (7, [.ref h6, .ref h7, .ref h8, .int x9, .int x10, .int x11])), (h2, .inr (6, [.ref h9, .ref h13, .int u.2.2.2.2.1, .int x13])), (h3, .inl (gI g, 10, .inl u.2.2.2.2.2.1)), (h4, .inl (gI g, 10, .inl u.2.2.2.2.2.2.1)), (h5, .inl (gI g, 10, .inl u.2.2.2.2.2.2.2)), (h6, .inr (4, [.ref h10, .int x14])), (h7, .inl (gI g, 200, .inl fn3)), (h8, .inl (gI g, 200, .inl fn4)), (h9, .inl (gJ g, 48, .inr (.inl fm0))), (h10, .inl (gB g, 1500, .inl fn5))])) (va_A [(h0, .inr (0, [.ref h2, .ref h11, .ref h12, .int x1, .int x2, .long y0, .int x3, .int x4, .int x5, .int x6, .ref h3, .ref h4, .ref h5, .int x7, .int x8])), (h1, .inr (7, [.ref h6, .ref h7, .ref h8, .int x9, .int x10, .int x11])), (h2, .inr (6, [.ref h9, .ref h13, .int x12, .int x13])), (h3, .inl (gI g, 10, .inl fn0)), (h4, .inl (gI g, 10, .inl fn1)), (h5, .inl (gI g, 10, .inl fn2)), (h6, .inr (4, [.ref h10, .int x14])), (h7, .inl (gI g, 200, .inl fn3)), (h8, .inl (gI g, 200, .inl fn4)), (h9, .inl (gJ g, 48, .inr (.inl fm0))), (h10, .inl (gB g, 1500, .inl fn5))] sz)) 0 0 (va_A [(h0, .inr (0, [.ref h2, .ref h11, .ref h12, .int x1, .int x2, .long y0, .int x3, .int x4, .int x5, .int x6, .ref h3, .ref h4, .ref h5, .int x7, .int x8])), (h1, .inr (7, [.ref h6, .ref h7, .ref h8, .int x9, .int x10, .int x11])), (h2, .inr (6, [.ref h9, .ref h13, .int x12, .int x13])), (h3, .inl (gI g, 10, .inl fn0)), (h4, .inl (gI g, 10, .inl fn1)), (h5, .inl (gI g, 10, .inl fn2)), (h6, .inr (4, [.ref h10, .int x14])), (h7, .inl (gI g, 200, .inl fn3)), (h8, .inl (gI g, 200, .inl fn4)), (h9, .inl (gJ g, 48, .inr (.inl fm0))), (h10, .inl (gB g, 1500, .inl fn5))] sz) := by
  refine met_i RX4 (by decide) rfl rfl (Nat.le_of_ble_eq_true rfl) [(0, .ref h0), (1, .ref h1), (2, .int x0)] rfl ?_
  intro p e s m args below meth c A Q C hnm Rt
  have gx0 := fb_rng x0
  have gx9 := fb_rng x9
  have gx10 := fb_rng x10
  have gx11 := fb_rng x11
  have hiX0 : ∀ w ∈ wsX00, w ∈ wsX4_call := fun w h => List.mem_cons_of_mem _ (List.mem_append_left _ (List.mem_append_left _ (List.mem_append_left _ (List.mem_append_left _ (List.mem_append_right _ (h))))))
  refine r_aload_n 0 0 C dX4_call_0 rfl ?_
  refine r_get 1 C dX4_call_1 (k := 0) 0 rfl rfl hiX0 (by decide) rfl (mg 1 rfl) (Or.inl rfl) rfl ?_
  refine r_callVi 4 C dX4_call_4 [] [(h2, .inr (6, [.ref h9, .ref h13, .int x12, .int x13]))] [(h0, .inr (0, [.ref h2, .ref h11, .ref h12, .int x1, .int x2, .long y0, .int x3, .int x4, .int x5, .int x6, .ref h3, .ref h4, .ref h5, .int x7, .int x8])), (h1, .inr (7, [.ref h6, .ref h7, .ref h8, .int x9, .int x10, .int x11])), (h3, .inl (gI g, 10, .inl fn0)), (h4, .inl (gI g, 10, .inl fn1)), (h5, .inl (gI g, 10, .inl fn2)), (h6, .inr (4, [.ref h10, .int x14])), (h7, .inl (gI g, 200, .inl fn3)), (h8, .inl (gI g, 200, .inl fn4)), (h9, .inl (gJ g, 48, .inr (.inl fm0))), (h10, .inl (gB g, 1500, .inl fn5))] (fun sz => c231_X7_size l g h2 h9 h13 x12 x13 i_x12 i_x13 sz) gX4_call_X7_size rfl ⟨rfl, rfl⟩ 0 (by decide) ⟨Nat.le_of_ble_eq_true rfl, Nat.le_of_ble_eq_true rfl⟩ 2 rfl rfl [2] [0, 1, 3, 4, 5, 6, 7, 8, 9, 10] rfl rfl (by decide) (by decide) (by decide) rfl rfl (Nat.le_of_ble_eq_true rfl) ⟨Nat.le_of_ble_eq_true rfl, Nat.le_of_ble_eq_true rfl⟩ (fun r1 _ w2 => ?_)
  refine r_ws [(h0, .inr (0, [.ref h2, .ref h11, .ref h12, .int x1, .int x2, .long y0, .int x3, .int x4, .int x5, .int x6, .ref h3, .ref h4, .ref h5, .int x7, .int x8])), (h1, .inr (7, [.ref h6, .ref h7, .ref h8, .int x9, .int x10, .int x11])), (h3, .inl (gI g, 10, .inl fn0)), (h4, .inl (gI g, 10, .inl fn1)), (h5, .inl (gI g, 10, .inl fn2)), (h6, .inr (4, [.ref h10, .int x14])), (h7, .inl (gI g, 200, .inl fn3)), (h8, .inl (gI g, 200, .inl fn4)), (h9, .inl (gJ g, 48, .inr (.inl fm0))), (h10, .inl (gB g, 1500, .inl fn5)), (h2, .inr (6, [.ref h9, .ref h13, .int x12, .int x13]))] rfl ?_
  have p3 : x12 = r1 := (w2).symm
  subst p3
  refine r_iconst 7 1 C dX4_call_7 (by decide) ?_
  refine r_icmp_ge 8 13 C dX4_call_8 (by decide) (fun c4 => ?_) (fun c4 => ?_)
  · skip
    have k5 : 1 ≤ (Int32.toInt x12) := (fa_le 1 x12).mp c4
    refine r_aload_n 13 0 C dX4_call_13 rfl ?_
    refine r_get 14 C dX4_call_14 (k := 0) 0 rfl rfl hiX0 (by decide) rfl (mg 1 rfl) (Or.inl rfl) rfl ?_
    refine r_iconst 17 0 C dX4_call_17 (by decide) ?_
    refine r_callVl 18 C dX4_call_18 [] [(h2, .inr (6, [.ref h9, .ref h13, .int x12, .int x13])), (h9, .inl (gJ g, 48, .inr (.inl fm0)))] [(h0, .inr (0, [.ref h2, .ref h11, .ref h12, .int x1, .int x2, .long y0, .int x3, .int x4, .int x5, .int x6, .ref h3, .ref h4, .ref h5, .int x7, .int x8])), (h1, .inr (7, [.ref h6, .ref h7, .ref h8, .int x9, .int x10, .int x11])), (h3, .inl (gI g, 10, .inl fn0)), (h4, .inl (gI g, 10, .inl fn1)), (h5, .inl (gI g, 10, .inl fn2)), (h6, .inr (4, [.ref h10, .int x14])), (h7, .inl (gI g, 200, .inl fn3)), (h8, .inl (gI g, 200, .inl fn4)), (h10, .inl (gB g, 1500, .inl fn5))] (fun sz => c234_X7_wholeBelow l g h2 h9 0 h13 x12 x13 fm0 i_x12 i_x13 sz) gX4_call_X7_wholeBelow rfl ⟨rfl, rfl⟩ 1 (by decide) ⟨Nat.le_of_ble_eq_true rfl, Nat.le_of_ble_eq_true rfl⟩ 10 rfl rfl [10, 8] [0, 1, 2, 3, 4, 5, 6, 7, 9] rfl rfl (by decide) (by decide) (by decide) rfl rfl (Nat.le_of_ble_eq_true rfl) ⟨Nat.le_of_ble_eq_true rfl, Nat.le_of_ble_eq_true rfl⟩ (fun r6 _ w7 => ?_)
    refine r_ws [(h0, .inr (0, [.ref h2, .ref h11, .ref h12, .int x1, .int x2, .long y0, .int x3, .int x4, .int x5, .int x6, .ref h3, .ref h4, .ref h5, .int x7, .int x8])), (h1, .inr (7, [.ref h6, .ref h7, .ref h8, .int x9, .int x10, .int x11])), (h3, .inl (gI g, 10, .inl fn0)), (h4, .inl (gI g, 10, .inl fn1)), (h5, .inl (gI g, 10, .inl fn2)), (h6, .inr (4, [.ref h10, .int x14])), (h7, .inl (gI g, 200, .inl fn3)), (h8, .inl (gI g, 200, .inl fn4)), (h10, .inl (gB g, 1500, .inl fn5)), (h2, .inr (6, [.ref h9, .ref h13, .int x12, .int x13])), (h9, .inl (gJ g, 48, .inr (.inl fm0)))] rfl ?_
    have gr6 := fb_rngL r6
    refine r_iload_n 21 2 C dX4_call_21 rfl ?_
    obtain ⟨z8, ez8⟩ : ∃ z_9, Int32.toInt64 x0 = z_9 := ⟨_, rfl⟩
    have tz8 : (Int64.toInt z8) = (Int32.toInt x0) := by rw [← ez8]; exact Int32.toInt_toInt64 _
    refine r_i2l 22 z8 C dX4_call_22 ez8 ?_
    obtain ⟨z9, ez9⟩ : ∃ z_9, r6 + z8 = z_9 := ⟨_, rfl⟩
    have gz9 := fb_rngL z9
    refine r_ladd 23 z9 C dX4_call_23 ez9 ?_
    refine r_lstore_n 24 C dX4_call_24 [(3, .long z9), (0, .ref h0), (1, .ref h1), (2, .int x0)] (by decide) rfl ?_
    refine r_aload_n 25 2 C dX4_call_25 rfl ?_
    refine r_lload_n 26 0 C dX4_call_26 rfl ?_
    refine r_callVi 27 C dX4_call_27 [] [(h1, .inr (7, [.ref h6, .ref h7, .ref h8, .int x9, .int x10, .int x11])), (h7, .inl (gI g, 200, .inl fn3))] [(h0, .inr (0, [.ref h2, .ref h11, .ref h12, .int x1, .int x2, .long y0, .int x3, .int x4, .int x5, .int x6, .ref h3, .ref h4, .ref h5, .int x7, .int x8])), (h3, .inl (gI g, 10, .inl fn0)), (h4, .inl (gI g, 10, .inl fn1)), (h5, .inl (gI g, 10, .inl fn2)), (h6, .inr (4, [.ref h10, .int x14])), (h8, .inl (gI g, 200, .inl fn4)), (h10, .inl (gB g, 1500, .inl fn5)), (h2, .inr (6, [.ref h9, .ref h13, .int x12, .int x13])), (h9, .inl (gJ g, 48, .inr (.inl fm0)))] (fun sz => c33_X8_has l g h1 h7 z9 h6 h8 x9 x10 x11 fn3  sz) gX4_call_X8_has rfl ⟨rfl, rfl⟩ 1 (by decide) ⟨Nat.le_of_ble_eq_true rfl, Nat.le_of_ble_eq_true rfl⟩ 1 rfl rfl [1, 6] [0, 2, 3, 4, 5, 7, 8, 9, 10] rfl rfl (by decide) (by decide) (by decide) rfl rfl (Nat.le_of_ble_eq_true rfl) ⟨Nat.le_of_ble_eq_true rfl, Nat.le_of_ble_eq_true rfl⟩ (fun r10 _ w11 => ?_)
    refine r_ws [(h0, .inr (0, [.ref h2, .ref h11, .ref h12, .int x1, .int x2, .long y0, .int x3, .int x4, .int x5, .int x6, .ref h3, .ref h4, .ref h5, .int x7, .int x8])), (h3, .inl (gI g, 10, .inl fn0)), (h4, .inl (gI g, 10, .inl fn1)), (h5, .inl (gI g, 10, .inl fn2)), (h6, .inr (4, [.ref h10, .int x14])), (h8, .inl (gI g, 200, .inl fn4)), (h10, .inl (gB g, 1500, .inl fn5)), (h2, .inr (6, [.ref h9, .ref h13, .int x12, .int x13])), (h9, .inl (gJ g, 48, .inr (.inl fm0))), (h1, .inr (7, [.ref h6, .ref h7, .ref h8, .int x9, .int x10, .int x11])), (h7, .inl (gI g, 200, .inl fn3))] rfl ?_
    have p12 : HSB (Int32.toInt r10) (HASP (Int32.toInt x9) (Int32.toInt x11) fn3 200 (Int64.toInt z9)) := w11.2
    have w13 : (((Int64.toInt z9) < 0 ∧ r10 = 0) ∨ (¬ ((Int64.toInt z9) < 0) ∧ 0 < (Int32.toInt x11) ∧ r10 = 1) ∨ (¬ ((Int64.toInt z9) < 0) ∧ ¬ (0 < (Int32.toInt x11)) ∧ 200 ≤ (Int64.toInt z9) ∧ r10 = 0) ∨ (¬ ((Int64.toInt z9) < 0) ∧ ¬ (0 < (Int32.toInt x11)) ∧ ¬ (200 ≤ (Int64.toInt z9)) ∧ r10 = 0) ∨ (¬ ((Int64.toInt z9) < 0) ∧ ¬ (0 < (Int32.toInt x11)) ∧ ¬ (200 ≤ (Int64.toInt z9)) ∧ r10 = 1) ∨ (¬ ((Int64.toInt z9) < 0) ∧ r10 = 0)) := w11.1
    rcases w13 with ⟨k14, k15⟩ | w13
    · skip
      have k15 := k15.symm
      subst k15
      refine r_if_ne_f 30 35 C dX4_call_30 (by decide) (by decide) ?_
      refine r_iconst 33 4 C dX4_call_33 (by decide) ?_
      exact r_iret 34 Rt dX4_call_34 (x3, x4, x5, x7, x12, fn0, fn1, fn2) (show 0 ≤ (Int32.toInt 4) ∧ (Int32.toInt 4) ≤ 5 ∧ 0 ≤ (Int32.toInt x7) ∧ (Int32.toInt x7) ≤ 10 ∧ 0 ≤ (Int32.toInt x12) ∧ (Int32.toInt x12) ≤ 48 from ⟨(by ((repeat' apply And.intro) <;> first | trivial | rfl | assumption | omega | decide | exact Or.inl rfl | exact Or.inr (Or.inl rfl) | exact Or.inr (Or.inr rfl))), (by ((repeat' apply And.intro) <;> first | trivial | rfl | assumption | omega | decide | exact Or.inl rfl | exact Or.inr (Or.inl rfl) | exact Or.inr (Or.inr rfl))), i_x7.1, i_x7.2, i_x12.1, i_x12.2⟩) [0, 9, 7, 1, 2, 3, 4, 10, 5, 8, 6] (by decide) rfl (Nat.le_of_ble_eq_true rfl) (Nat.le_of_ble_eq_true rfl)
    rcases w13 with ⟨k16, k17, k18⟩ | w13
    · skip
      have k18 := k18.symm
      subst k18
      refine r_if_ne_t 30 35 C dX4_call_30 (by decide) (by decide) ?_
      refine r_aload_n 35 1 C dX4_call_35 rfl ?_
      refine r_get 36 C dX4_call_36 (k := 13) 0 rfl rfl hiX0 (by decide) rfl (mg 2 rfl) (Or.inl rfl) rfl ?_
      refine r_bipush 39 10 C dX4_call_39 (by decide) ?_
      refine r_icmp_lt 41 46 C dX4_call_41 (by decide) (fun c19 => ?_) (fun c19 => ?_)
      · skip
        have k20 : (Int32.toInt x7) < 10 := (fa_lt x7 10).mp c19
        refine r_aload_n 46 1 C dX4_call_46 rfl ?_
        refine r_get 47 C dX4_call_47 (k := 0) 0 rfl rfl hiX0 (by decide) rfl (mg 1 rfl) (Or.inl rfl) rfl ?_
        refine r_iconst 50 1 C dX4_call_50 (by decide) ?_
        refine r_callVv 51 C dX4_call_51 [] [(h2, .inr (6, [.ref h9, .ref h13, .int x12, .int x13]))] [(h0, .inr (0, [.ref h2, .ref h11, .ref h12, .int x1, .int x2, .long y0, .int x3, .int x4, .int x5, .int x6, .ref h3, .ref h4, .ref h5, .int x7, .int x8])), (h3, .inl (gI g, 10, .inl fn0)), (h4, .inl (gI g, 10, .inl fn1)), (h5, .inl (gI g, 10, .inl fn2)), (h6, .inr (4, [.ref h10, .int x14])), (h8, .inl (gI g, 200, .inl fn4)), (h10, .inl (gB g, 1500, .inl fn5)), (h9, .inl (gJ g, 48, .inr (.inl fm0))), (h1, .inr (7, [.ref h6, .ref h7, .ref h8, .int x9, .int x10, .int x11])), (h7, .inl (gI g, 200, .inl fn3))] (fun sz => c235_X7_drop l g h2 1 h9 h13 x12 x13 i_x12 i_x13 sz) gX4_call_X7_drop rfl ⟨rfl, rfl⟩ 1 (by decide) ⟨Nat.le_of_ble_eq_true rfl, Nat.le_of_ble_eq_true rfl⟩ 7 rfl rfl [7] [0, 1, 2, 3, 4, 5, 6, 8, 9, 10] rfl rfl (by decide) (by decide) (by decide) rfl rfl (Nat.le_of_ble_eq_true rfl) ⟨Nat.le_of_ble_eq_true rfl, Nat.le_of_ble_eq_true rfl⟩ (fun  z21 w22 => ?_)
        refine r_ws [(h0, .inr (0, [.ref h2, .ref h11, .ref h12, .int x1, .int x2, .long y0, .int x3, .int x4, .int x5, .int x6, .ref h3, .ref h4, .ref h5, .int x7, .int x8])), (h3, .inl (gI g, 10, .inl fn0)), (h4, .inl (gI g, 10, .inl fn1)), (h5, .inl (gI g, 10, .inl fn2)), (h6, .inr (4, [.ref h10, .int x14])), (h8, .inl (gI g, 200, .inl fn4)), (h10, .inl (gB g, 1500, .inl fn5)), (h9, .inl (gJ g, 48, .inr (.inl fm0))), (h1, .inr (7, [.ref h6, .ref h7, .ref h8, .int x9, .int x10, .int x11])), (h7, .inl (gI g, 200, .inl fn3)), (h2, .inr (6, [.ref h9, .ref h13, .int z21, .int x13]))] rfl ?_
        have p23 : 0 ≤ (Int32.toInt z21) := w22.1
        have p24 : (Int32.toInt z21) ≤ 48 := w22.2
        refine r_aload_n 54 1 C dX4_call_54 rfl ?_
        refine r_get 55 C dX4_call_55 (k := 10) 0 rfl rfl hiX0 (by decide) rfl (mg 3 rfl) (Or.inl rfl) rfl ?_
        refine r_aload_n 58 1 C dX4_call_58 rfl ?_
        refine r_get 59 C dX4_call_59 (k := 13) 0 rfl rfl hiX0 (by decide) rfl (mg 2 rfl) (Or.inl rfl) rfl ?_
        refine r_aload_n 62 1 C dX4_call_62 rfl ?_
        refine r_get 63 C dX4_call_63 (k := 6) 0 rfl rfl hiX0 (by decide) rfl (mg 4 rfl) (Or.inl rfl) rfl ?_
        obtain ⟨f25, ef25⟩ : ∃ f_9, upd fn0 (Int32.toNatClampNeg x7) x3 = f_9 := ⟨_, rfl⟩
        refine r_iast 66 C dX4_call_66 1 rfl (vinI (by omega) (by omega)) f25 ef25 [(h0, .inr (0, [.ref h2, .ref h11, .ref h12, .int x1, .int x2, .long y0, .int x3, .int x4, .int x5, .int x6, .ref h3, .ref h4, .ref h5, .int x7, .int x8])), (h3, .inl (gI g, 10, .inl f25)), (h4, .inl (gI g, 10, .inl fn1)), (h5, .inl (gI g, 10, .inl fn2)), (h6, .inr (4, [.ref h10, .int x14])), (h8, .inl (gI g, 200, .inl fn4)), (h10, .inl (gB g, 1500, .inl fn5)), (h9, .inl (gJ g, 48, .inr (.inl fm0))), (h1, .inr (7, [.ref h6, .ref h7, .ref h8, .int x9, .int x10, .int x11])), (h7, .inl (gI g, 200, .inl fn3)), (h2, .inr (6, [.ref h9, .ref h13, .int z21, .int x13]))] rfl ?_
        refine r_aload_n 67 1 C dX4_call_67 rfl ?_
        refine r_get 68 C dX4_call_68 (k := 11) 0 rfl rfl hiX0 (by decide) rfl (mg 5 rfl) (Or.inl rfl) rfl ?_
        refine r_aload_n 71 1 C dX4_call_71 rfl ?_
        refine r_get 72 C dX4_call_72 (k := 13) 0 rfl rfl hiX0 (by decide) rfl (mg 2 rfl) (Or.inl rfl) rfl ?_
        refine r_aload_n 75 1 C dX4_call_75 rfl ?_
        refine r_get 76 C dX4_call_76 (k := 7) 0 rfl rfl hiX0 (by decide) rfl (mg 6 rfl) (Or.inl rfl) rfl ?_
        obtain ⟨f26, ef26⟩ : ∃ f_9, upd fn1 (Int32.toNatClampNeg x7) x4 = f_9 := ⟨_, rfl⟩
        refine r_iast 79 C dX4_call_79 2 rfl (vinI (by omega) (by omega)) f26 ef26 [(h0, .inr (0, [.ref h2, .ref h11, .ref h12, .int x1, .int x2, .long y0, .int x3, .int x4, .int x5, .int x6, .ref h3, .ref h4, .ref h5, .int x7, .int x8])), (h3, .inl (gI g, 10, .inl f25)), (h4, .inl (gI g, 10, .inl f26)), (h5, .inl (gI g, 10, .inl fn2)), (h6, .inr (4, [.ref h10, .int x14])), (h8, .inl (gI g, 200, .inl fn4)), (h10, .inl (gB g, 1500, .inl fn5)), (h9, .inl (gJ g, 48, .inr (.inl fm0))), (h1, .inr (7, [.ref h6, .ref h7, .ref h8, .int x9, .int x10, .int x11])), (h7, .inl (gI g, 200, .inl fn3)), (h2, .inr (6, [.ref h9, .ref h13, .int z21, .int x13]))] rfl ?_
        refine r_aload_n 80 1 C dX4_call_80 rfl ?_
        refine r_get 81 C dX4_call_81 (k := 12) 0 rfl rfl hiX0 (by decide) rfl (mg 7 rfl) (Or.inl rfl) rfl ?_
        refine r_aload_n 84 1 C dX4_call_84 rfl ?_
        refine r_get 85 C dX4_call_85 (k := 13) 0 rfl rfl hiX0 (by decide) rfl (mg 2 rfl) (Or.inl rfl) rfl ?_
        refine r_aload_n 88 1 C dX4_call_88 rfl ?_
        refine r_get 89 C dX4_call_89 (k := 8) 0 rfl rfl hiX0 (by decide) rfl (mg 8 rfl) (Or.inl rfl) rfl ?_
        obtain ⟨f27, ef27⟩ : ∃ f_9, upd fn2 (Int32.toNatClampNeg x7) x5 = f_9 := ⟨_, rfl⟩
        refine r_iast 92 C dX4_call_92 3 rfl (vinI (by omega) (by omega)) f27 ef27 [(h0, .inr (0, [.ref h2, .ref h11, .ref h12, .int x1, .int x2, .long y0, .int x3, .int x4, .int x5, .int x6, .ref h3, .ref h4, .ref h5, .int x7, .int x8])), (h3, .inl (gI g, 10, .inl f25)), (h4, .inl (gI g, 10, .inl f26)), (h5, .inl (gI g, 10, .inl f27)), (h6, .inr (4, [.ref h10, .int x14])), (h8, .inl (gI g, 200, .inl fn4)), (h10, .inl (gB g, 1500, .inl fn5)), (h9, .inl (gJ g, 48, .inr (.inl fm0))), (h1, .inr (7, [.ref h6, .ref h7, .ref h8, .int x9, .int x10, .int x11])), (h7, .inl (gI g, 200, .inl fn3)), (h2, .inr (6, [.ref h9, .ref h13, .int z21, .int x13]))] rfl ?_
        refine r_aload_n 93 1 C dX4_call_93 rfl ?_
        refine r_dup 94 C dX4_call_94 rfl ?_
        refine r_get 95 C dX4_call_95 (k := 13) 0 rfl rfl hiX0 (by decide) rfl (mg 2 rfl) (Or.inl rfl) rfl ?_
        refine r_iconst 98 1 C dX4_call_98 (by decide) ?_
        obtain ⟨z28, ez28⟩ : ∃ z_9, x7 + 1 = z_9 := ⟨_, rfl⟩
        have tz28 : (Int32.toInt z28) = (Int32.toInt x7) + 1 := by rw [← ez28]; exact fb_addIv (a := 0) (b := 10) (c := 1) (d := 1) i_x7 ⟨by decide, by decide⟩ (by decide) (by decide)
        refine r_iadd 99 z28 C dX4_call_99 ez28 ?_
        refine r_put 100 C dX4_call_100 (k := 13) 0 rfl rfl hiX0 tyX0 tyX0_ok nmX0 (by decide) rfl (mg 2 rfl) (Or.inl rfl) rfl rfl rfl rfl (Nat.le_of_ble_eq_true rfl) [(h0, .inr (0, [.ref h2, .ref h11, .ref h12, .int x1, .int x2, .long y0, .int x3, .int x4, .int x5, .int x6, .ref h3, .ref h4, .ref h5, .int z28, .int x8])), (h3, .inl (gI g, 10, .inl f25)), (h4, .inl (gI g, 10, .inl f26)), (h5, .inl (gI g, 10, .inl f27)), (h6, .inr (4, [.ref h10, .int x14])), (h8, .inl (gI g, 200, .inl fn4)), (h10, .inl (gB g, 1500, .inl fn5)), (h9, .inl (gJ g, 48, .inr (.inl fm0))), (h1, .inr (7, [.ref h6, .ref h7, .ref h8, .int x9, .int x10, .int x11])), (h7, .inl (gI g, 200, .inl fn3)), (h2, .inr (6, [.ref h9, .ref h13, .int z21, .int x13]))] rfl ?_
        refine r_aload_n 103 1 C dX4_call_103 rfl ?_
        refine r_aload_n 104 2 C dX4_call_104 rfl ?_
        refine r_lload_n 105 0 C dX4_call_105 rfl ?_
        obtain ⟨z29, ez29⟩ : ∃ z_9, Int64.toInt32 z9 = z_9 := ⟨_, rfl⟩
        have gz29 := fb_rng z29
        refine r_l2i 106 z29 C dX4_call_106 ez29 ?_
        refine r_callVi 107 C dX4_call_107 [.ref h0] [(h1, .inr (7, [.ref h6, .ref h7, .ref h8, .int x9, .int x10, .int x11])), (h6, .inr (4, [.ref h10, .int x14])), (h7, .inl (gI g, 200, .inl fn3)), (h10, .inl (gB g, 1500, .inl fn5))] [(h0, .inr (0, [.ref h2, .ref h11, .ref h12, .int x1, .int x2, .long y0, .int x3, .int x4, .int x5, .int x6, .ref h3, .ref h4, .ref h5, .int z28, .int x8])), (h3, .inl (gI g, 10, .inl f25)), (h4, .inl (gI g, 10, .inl f26)), (h5, .inl (gI g, 10, .inl f27)), (h8, .inl (gI g, 200, .inl fn4)), (h9, .inl (gJ g, 48, .inr (.inl fm0))), (h2, .inr (6, [.ref h9, .ref h13, .int z21, .int x13]))] (fun sz => c35_X8_beginOf l g h1 h6 h7 h10 z29 h8 x9 x10 x11 x14 fn3 fn5 i_x14 sz) gX4_call_X8_beginOf rfl ⟨rfl, rfl⟩ 1 (by decide) ⟨Nat.le_of_ble_eq_true rfl, Nat.le_of_ble_eq_true rfl⟩ 8 rfl rfl [8, 4, 9, 6] [0, 1, 2, 3, 5, 7, 10] rfl rfl (by decide) (by decide) (by decide) rfl rfl (Nat.le_of_ble_eq_true rfl) ⟨Nat.le_of_ble_eq_true rfl, Nat.le_of_ble_eq_true rfl⟩ (fun r30 _ w31 => ?_)
        refine r_ws [(h0, .inr (0, [.ref h2, .ref h11, .ref h12, .int x1, .int x2, .long y0, .int x3, .int x4, .int x5, .int x6, .ref h3, .ref h4, .ref h5, .int z28, .int x8])), (h3, .inl (gI g, 10, .inl f25)), (h4, .inl (gI g, 10, .inl f26)), (h5, .inl (gI g, 10, .inl f27)), (h8, .inl (gI g, 200, .inl fn4)), (h9, .inl (gJ g, 48, .inr (.inl fm0))), (h2, .inr (6, [.ref h9, .ref h13, .int z21, .int x13])), (h1, .inr (7, [.ref h6, .ref h7, .ref h8, .int x9, .int x10, .int x11])), (h6, .inr (4, [.ref h10, .int x14])), (h7, .inl (gI g, 200, .inl fn3)), (h10, .inl (gB g, 1500, .inl fn5))] rfl ?_
        have p32 : CND (BOK (GB fn5 (Int32.toInt x14)) (Int32.toInt x9) (Int32.toInt x11) (Int32.toInt x10) fn3 200 (Int32.toInt z29)) ((Int32.toInt r30) = BEGE (GB fn5 (Int32.toInt x14)) (Int32.toInt x9) (Int32.toInt x11) (Int32.toInt x10) fn3 (Int32.toInt z29)) := w31
        have gr30 := fb_rng r30
        refine r_put 110 C dX4_call_110 (k := 6) 0 rfl rfl hiX0 tyX0 tyX0_ok nmX0 (by decide) rfl (mg 4 rfl) (Or.inl rfl) rfl rfl rfl rfl (Nat.le_of_ble_eq_true rfl) [(h0, .inr (0, [.ref h2, .ref h11, .ref h12, .int x1, .int x2, .long y0, .int r30, .int x4, .int x5, .int x6, .ref h3, .ref h4, .ref h5, .int z28, .int x8])), (h3, .inl (gI g, 10, .inl f25)), (h4, .inl (gI g, 10, .inl f26)), (h5, .inl (gI g, 10, .inl f27)), (h8, .inl (gI g, 200, .inl fn4)), (h9, .inl (gJ g, 48, .inr (.inl fm0))), (h2, .inr (6, [.ref h9, .ref h13, .int z21, .int x13])), (h1, .inr (7, [.ref h6, .ref h7, .ref h8, .int x9, .int x10, .int x11])), (h6, .inr (4, [.ref h10, .int x14])), (h7, .inl (gI g, 200, .inl fn3)), (h10, .inl (gB g, 1500, .inl fn5))] rfl ?_
        refine r_aload_n 113 1 C dX4_call_113 rfl ?_
        refine r_aload_n 114 2 C dX4_call_114 rfl ?_
        refine r_lload_n 115 0 C dX4_call_115 rfl ?_
        obtain ⟨z33, ez33⟩ : ∃ z_9, Int64.toInt32 z9 = z_9 := ⟨_, rfl⟩
        have gz33 := fb_rng z33
        refine r_l2i 116 z33 C dX4_call_116 ez33 ?_
        refine r_callVi 117 C dX4_call_117 [.ref h0] [(h1, .inr (7, [.ref h6, .ref h7, .ref h8, .int x9, .int x10, .int x11])), (h6, .inr (4, [.ref h10, .int x14])), (h7, .inl (gI g, 200, .inl fn3)), (h8, .inl (gI g, 200, .inl fn4)), (h10, .inl (gB g, 1500, .inl fn5))] [(h0, .inr (0, [.ref h2, .ref h11, .ref h12, .int x1, .int x2, .long y0, .int r30, .int x4, .int x5, .int x6, .ref h3, .ref h4, .ref h5, .int z28, .int x8])), (h3, .inl (gI g, 10, .inl f25)), (h4, .inl (gI g, 10, .inl f26)), (h5, .inl (gI g, 10, .inl f27)), (h9, .inl (gJ g, 48, .inr (.inl fm0))), (h2, .inr (6, [.ref h9, .ref h13, .int z21, .int x13]))] (fun sz => c34_X8_finishOf l g h1 h6 h7 h8 h10 z33 x9 x10 x11 x14 fn3 fn4 fn5 i_x14 sz) gX4_call_X8_finishOf rfl ⟨rfl, rfl⟩ 1 (by decide) ⟨Nat.le_of_ble_eq_true rfl, Nat.le_of_ble_eq_true rfl⟩ 7 rfl rfl [7, 8, 9, 4, 10] [0, 1, 2, 3, 5, 6] rfl rfl (by decide) (by decide) (by decide) rfl rfl (Nat.le_of_ble_eq_true rfl) ⟨Nat.le_of_ble_eq_true rfl, Nat.le_of_ble_eq_true rfl⟩ (fun r34 _ w35 => ?_)
        refine r_ws [(h0, .inr (0, [.ref h2, .ref h11, .ref h12, .int x1, .int x2, .long y0, .int r30, .int x4, .int x5, .int x6, .ref h3, .ref h4, .ref h5, .int z28, .int x8])), (h3, .inl (gI g, 10, .inl f25)), (h4, .inl (gI g, 10, .inl f26)), (h5, .inl (gI g, 10, .inl f27)), (h9, .inl (gJ g, 48, .inr (.inl fm0))), (h2, .inr (6, [.ref h9, .ref h13, .int z21, .int x13])), (h1, .inr (7, [.ref h6, .ref h7, .ref h8, .int x9, .int x10, .int x11])), (h6, .inr (4, [.ref h10, .int x14])), (h7, .inl (gI g, 200, .inl fn3)), (h8, .inl (gI g, 200, .inl fn4)), (h10, .inl (gB g, 1500, .inl fn5))] rfl ?_
        have p36 : CND (FOK (GB fn5 (Int32.toInt x14)) (Int32.toInt x9) (Int32.toInt x11) (Int32.toInt x10) fn3 fn4 200 (Int32.toInt z33)) ((Int32.toInt r34) = FINE (GB fn5 (Int32.toInt x14)) (Int32.toInt x9) (Int32.toInt x11) (Int32.toInt x10) fn4 (Int32.toInt z33)) := w35
        have gr34 := fb_rng r34
        refine r_put 120 C dX4_call_120 (k := 7) 0 rfl rfl hiX0 tyX0 tyX0_ok nmX0 (by decide) rfl (mg 6 rfl) (Or.inl rfl) rfl rfl rfl rfl (Nat.le_of_ble_eq_true rfl) [(h0, .inr (0, [.ref h2, .ref h11, .ref h12, .int x1, .int x2, .long y0, .int r30, .int r34, .int x5, .int x6, .ref h3, .ref h4, .ref h5, .int z28, .int x8])), (h3, .inl (gI g, 10, .inl f25)), (h4, .inl (gI g, 10, .inl f26)), (h5, .inl (gI g, 10, .inl f27)), (h9, .inl (gJ g, 48, .inr (.inl fm0))), (h2, .inr (6, [.ref h9, .ref h13, .int z21, .int x13])), (h1, .inr (7, [.ref h6, .ref h7, .ref h8, .int x9, .int x10, .int x11])), (h6, .inr (4, [.ref h10, .int x14])), (h7, .inl (gI g, 200, .inl fn3)), (h8, .inl (gI g, 200, .inl fn4)), (h10, .inl (gB g, 1500, .inl fn5))] rfl ?_
        refine r_aload_n 123 1 C dX4_call_123 rfl ?_
        refine r_aload_n 124 1 C dX4_call_124 rfl ?_
        refine r_get 125 C dX4_call_125 (k := 6) 0 rfl rfl hiX0 (by decide) rfl (mg 4 rfl) (Or.inl rfl) rfl ?_
        refine r_put 128 C dX4_call_128 (k := 8) 0 rfl rfl hiX0 tyX0 tyX0_ok nmX0 (by decide) rfl (mg 8 rfl) (Or.inl rfl) rfl rfl rfl rfl (Nat.le_of_ble_eq_true rfl) [(h0, .inr (0, [.ref h2, .ref h11, .ref h12, .int x1, .int x2, .long y0, .int r30, .int r34, .int r30, .int x6, .ref h3, .ref h4, .ref h5, .int z28, .int x8])), (h3, .inl (gI g, 10, .inl f25)), (h4, .inl (gI g, 10, .inl f26)), (h5, .inl (gI g, 10, .inl f27)), (h9, .inl (gJ g, 48, .inr (.inl fm0))), (h2, .inr (6, [.ref h9, .ref h13, .int z21, .int x13])), (h1, .inr (7, [.ref h6, .ref h7, .ref h8, .int x9, .int x10, .int x11])), (h6, .inr (4, [.ref h10, .int x14])), (h7, .inl (gI g, 200, .inl fn3)), (h8, .inl (gI g, 200, .inl fn4)), (h10, .inl (gB g, 1500, .inl fn5))] rfl ?_
        refine r_iconst 131 0 C dX4_call_131 (by decide) ?_
        exact r_iret 132 Rt dX4_call_132 (r30, r34, r30, z28, z21, f25, f26, f27) (show 0 ≤ (Int32.toInt 0) ∧ (Int32.toInt 0) ≤ 5 ∧ 0 ≤ (Int32.toInt z28) ∧ (Int32.toInt z28) ≤ 10 ∧ 0 ≤ (Int32.toInt z21) ∧ (Int32.toInt z21) ≤ 48 from ⟨(by ((repeat' apply And.intro) <;> first | trivial | rfl | assumption | omega | decide | exact Or.inl rfl | exact Or.inr (Or.inl rfl) | exact Or.inr (Or.inr rfl))), (by ((repeat' apply And.intro) <;> first | trivial | rfl | assumption | omega | decide | exact Or.inl rfl | exact Or.inr (Or.inl rfl) | exact Or.inr (Or.inr rfl))), (by ((repeat' apply And.intro) <;> first | trivial | rfl | assumption | omega | decide | exact Or.inl rfl | exact Or.inr (Or.inl rfl) | exact Or.inr (Or.inr rfl))), (by ((repeat' apply And.intro) <;> first | trivial | rfl | assumption | omega | decide | exact Or.inl rfl | exact Or.inr (Or.inl rfl) | exact Or.inr (Or.inr rfl))), (show _ ∧ _ from ⟨p23, p24⟩).1, (show _ ∧ _ from ⟨p23, p24⟩).2⟩) [0, 6, 5, 1, 2, 3, 7, 8, 9, 4, 10] (by decide) rfl (Nat.le_of_ble_eq_true rfl) (Nat.le_of_ble_eq_true rfl)
      · skip
        have k37 : ¬ ((Int32.toInt x7) < 10) := fun h_9 => c19 ((fa_lt x7 10).mpr h_9)
        refine r_iconst 44 5 C dX4_call_44 (by decide) ?_
        exact r_iret 45 Rt dX4_call_45 (x3, x4, x5, x7, x12, fn0, fn1, fn2) (show 0 ≤ (Int32.toInt 5) ∧ (Int32.toInt 5) ≤ 5 ∧ 0 ≤ (Int32.toInt x7) ∧ (Int32.toInt x7) ≤ 10 ∧ 0 ≤ (Int32.toInt x12) ∧ (Int32.toInt x12) ≤ 48 from ⟨(by ((repeat' apply And.intro) <;> first | trivial | rfl | assumption | omega | decide | exact Or.inl rfl | exact Or.inr (Or.inl rfl) | exact Or.inr (Or.inr rfl))), (by ((repeat' apply And.intro) <;> first | trivial | rfl | assumption | omega | decide | exact Or.inl rfl | exact Or.inr (Or.inl rfl) | exact Or.inr (Or.inr rfl))), i_x7.1, i_x7.2, i_x12.1, i_x12.2⟩) [0, 9, 7, 1, 2, 3, 4, 10, 5, 8, 6] (by decide) rfl (Nat.le_of_ble_eq_true rfl) (Nat.le_of_ble_eq_true rfl)
    rcases w13 with ⟨k38, k39, k40, k41⟩ | w13
    · skip
      have k41 := k41.symm
      subst k41
      refine r_if_ne_f 30 35 C dX4_call_30 (by decide) (by decide) ?_
      refine r_iconst 33 4 C dX4_call_33 (by decide) ?_
      exact r_iret 34 Rt dX4_call_34 (x3, x4, x5, x7, x12, fn0, fn1, fn2) (show 0 ≤ (Int32.toInt 4) ∧ (Int32.toInt 4) ≤ 5 ∧ 0 ≤ (Int32.toInt x7) ∧ (Int32.toInt x7) ≤ 10 ∧ 0 ≤ (Int32.toInt x12) ∧ (Int32.toInt x12) ≤ 48 from ⟨(by ((repeat' apply And.intro) <;> first | trivial | rfl | assumption | omega | decide | exact Or.inl rfl | exact Or.inr (Or.inl rfl) | exact Or.inr (Or.inr rfl))), (by ((repeat' apply And.intro) <;> first | trivial | rfl | assumption | omega | decide | exact Or.inl rfl | exact Or.inr (Or.inl rfl) | exact Or.inr (Or.inr rfl))), i_x7.1, i_x7.2, i_x12.1, i_x12.2⟩) [0, 9, 7, 1, 2, 3, 4, 10, 5, 8, 6] (by decide) rfl (Nat.le_of_ble_eq_true rfl) (Nat.le_of_ble_eq_true rfl)
    rcases w13 with ⟨k42, k43, k44, k45⟩ | w13
    · skip
      have k45 := k45.symm
      subst k45
      refine r_if_ne_f 30 35 C dX4_call_30 (by decide) (by decide) ?_
      refine r_iconst 33 4 C dX4_call_33 (by decide) ?_
      exact r_iret 34 Rt dX4_call_34 (x3, x4, x5, x7, x12, fn0, fn1, fn2) (show 0 ≤ (Int32.toInt 4) ∧ (Int32.toInt 4) ≤ 5 ∧ 0 ≤ (Int32.toInt x7) ∧ (Int32.toInt x7) ≤ 10 ∧ 0 ≤ (Int32.toInt x12) ∧ (Int32.toInt x12) ≤ 48 from ⟨(by ((repeat' apply And.intro) <;> first | trivial | rfl | assumption | omega | decide | exact Or.inl rfl | exact Or.inr (Or.inl rfl) | exact Or.inr (Or.inr rfl))), (by ((repeat' apply And.intro) <;> first | trivial | rfl | assumption | omega | decide | exact Or.inl rfl | exact Or.inr (Or.inl rfl) | exact Or.inr (Or.inr rfl))), i_x7.1, i_x7.2, i_x12.1, i_x12.2⟩) [0, 9, 7, 1, 2, 3, 4, 10, 5, 8, 6] (by decide) rfl (Nat.le_of_ble_eq_true rfl) (Nat.le_of_ble_eq_true rfl)
    rcases w13 with ⟨k46, k47, k48, k49⟩ | w13
    · skip
      have k49 := k49.symm
      subst k49
      refine r_if_ne_t 30 35 C dX4_call_30 (by decide) (by decide) ?_
      refine r_aload_n 35 1 C dX4_call_35 rfl ?_
      refine r_get 36 C dX4_call_36 (k := 13) 0 rfl rfl hiX0 (by decide) rfl (mg 2 rfl) (Or.inl rfl) rfl ?_
      refine r_bipush 39 10 C dX4_call_39 (by decide) ?_
      refine r_icmp_lt 41 46 C dX4_call_41 (by decide) (fun c50 => ?_) (fun c50 => ?_)
      · skip
        have k51 : (Int32.toInt x7) < 10 := (fa_lt x7 10).mp c50
        refine r_aload_n 46 1 C dX4_call_46 rfl ?_
        refine r_get 47 C dX4_call_47 (k := 0) 0 rfl rfl hiX0 (by decide) rfl (mg 1 rfl) (Or.inl rfl) rfl ?_
        refine r_iconst 50 1 C dX4_call_50 (by decide) ?_
        refine r_callVv 51 C dX4_call_51 [] [(h2, .inr (6, [.ref h9, .ref h13, .int x12, .int x13]))] [(h0, .inr (0, [.ref h2, .ref h11, .ref h12, .int x1, .int x2, .long y0, .int x3, .int x4, .int x5, .int x6, .ref h3, .ref h4, .ref h5, .int x7, .int x8])), (h3, .inl (gI g, 10, .inl fn0)), (h4, .inl (gI g, 10, .inl fn1)), (h5, .inl (gI g, 10, .inl fn2)), (h6, .inr (4, [.ref h10, .int x14])), (h8, .inl (gI g, 200, .inl fn4)), (h10, .inl (gB g, 1500, .inl fn5)), (h9, .inl (gJ g, 48, .inr (.inl fm0))), (h1, .inr (7, [.ref h6, .ref h7, .ref h8, .int x9, .int x10, .int x11])), (h7, .inl (gI g, 200, .inl fn3))] (fun sz => c235_X7_drop l g h2 1 h9 h13 x12 x13 i_x12 i_x13 sz) gX4_call_X7_drop rfl ⟨rfl, rfl⟩ 1 (by decide) ⟨Nat.le_of_ble_eq_true rfl, Nat.le_of_ble_eq_true rfl⟩ 7 rfl rfl [7] [0, 1, 2, 3, 4, 5, 6, 8, 9, 10] rfl rfl (by decide) (by decide) (by decide) rfl rfl (Nat.le_of_ble_eq_true rfl) ⟨Nat.le_of_ble_eq_true rfl, Nat.le_of_ble_eq_true rfl⟩ (fun  z52 w53 => ?_)
        refine r_ws [(h0, .inr (0, [.ref h2, .ref h11, .ref h12, .int x1, .int x2, .long y0, .int x3, .int x4, .int x5, .int x6, .ref h3, .ref h4, .ref h5, .int x7, .int x8])), (h3, .inl (gI g, 10, .inl fn0)), (h4, .inl (gI g, 10, .inl fn1)), (h5, .inl (gI g, 10, .inl fn2)), (h6, .inr (4, [.ref h10, .int x14])), (h8, .inl (gI g, 200, .inl fn4)), (h10, .inl (gB g, 1500, .inl fn5)), (h9, .inl (gJ g, 48, .inr (.inl fm0))), (h1, .inr (7, [.ref h6, .ref h7, .ref h8, .int x9, .int x10, .int x11])), (h7, .inl (gI g, 200, .inl fn3)), (h2, .inr (6, [.ref h9, .ref h13, .int z52, .int x13]))] rfl ?_
        have p54 : 0 ≤ (Int32.toInt z52) := w53.1
        have p55 : (Int32.toInt z52) ≤ 48 := w53.2
        refine r_aload_n 54 1 C dX4_call_54 rfl ?_
        refine r_get 55 C dX4_call_55 (k := 10) 0 rfl rfl hiX0 (by decide) rfl (mg 3 rfl) (Or.inl rfl) rfl ?_
        refine r_aload_n 58 1 C dX4_call_58 rfl ?_
        refine r_get 59 C dX4_call_59 (k := 13) 0 rfl rfl hiX0 (by decide) rfl (mg 2 rfl) (Or.inl rfl) rfl ?_
        refine r_aload_n 62 1 C dX4_call_62 rfl ?_
        refine r_get 63 C dX4_call_63 (k := 6) 0 rfl rfl hiX0 (by decide) rfl (mg 4 rfl) (Or.inl rfl) rfl ?_
        obtain ⟨f56, ef56⟩ : ∃ f_9, upd fn0 (Int32.toNatClampNeg x7) x3 = f_9 := ⟨_, rfl⟩
        refine r_iast 66 C dX4_call_66 1 rfl (vinI (by omega) (by omega)) f56 ef56 [(h0, .inr (0, [.ref h2, .ref h11, .ref h12, .int x1, .int x2, .long y0, .int x3, .int x4, .int x5, .int x6, .ref h3, .ref h4, .ref h5, .int x7, .int x8])), (h3, .inl (gI g, 10, .inl f56)), (h4, .inl (gI g, 10, .inl fn1)), (h5, .inl (gI g, 10, .inl fn2)), (h6, .inr (4, [.ref h10, .int x14])), (h8, .inl (gI g, 200, .inl fn4)), (h10, .inl (gB g, 1500, .inl fn5)), (h9, .inl (gJ g, 48, .inr (.inl fm0))), (h1, .inr (7, [.ref h6, .ref h7, .ref h8, .int x9, .int x10, .int x11])), (h7, .inl (gI g, 200, .inl fn3)), (h2, .inr (6, [.ref h9, .ref h13, .int z52, .int x13]))] rfl ?_
        refine r_aload_n 67 1 C dX4_call_67 rfl ?_
        refine r_get 68 C dX4_call_68 (k := 11) 0 rfl rfl hiX0 (by decide) rfl (mg 5 rfl) (Or.inl rfl) rfl ?_
        refine r_aload_n 71 1 C dX4_call_71 rfl ?_
        refine r_get 72 C dX4_call_72 (k := 13) 0 rfl rfl hiX0 (by decide) rfl (mg 2 rfl) (Or.inl rfl) rfl ?_
        refine r_aload_n 75 1 C dX4_call_75 rfl ?_
        refine r_get 76 C dX4_call_76 (k := 7) 0 rfl rfl hiX0 (by decide) rfl (mg 6 rfl) (Or.inl rfl) rfl ?_
        obtain ⟨f57, ef57⟩ : ∃ f_9, upd fn1 (Int32.toNatClampNeg x7) x4 = f_9 := ⟨_, rfl⟩
        refine r_iast 79 C dX4_call_79 2 rfl (vinI (by omega) (by omega)) f57 ef57 [(h0, .inr (0, [.ref h2, .ref h11, .ref h12, .int x1, .int x2, .long y0, .int x3, .int x4, .int x5, .int x6, .ref h3, .ref h4, .ref h5, .int x7, .int x8])), (h3, .inl (gI g, 10, .inl f56)), (h4, .inl (gI g, 10, .inl f57)), (h5, .inl (gI g, 10, .inl fn2)), (h6, .inr (4, [.ref h10, .int x14])), (h8, .inl (gI g, 200, .inl fn4)), (h10, .inl (gB g, 1500, .inl fn5)), (h9, .inl (gJ g, 48, .inr (.inl fm0))), (h1, .inr (7, [.ref h6, .ref h7, .ref h8, .int x9, .int x10, .int x11])), (h7, .inl (gI g, 200, .inl fn3)), (h2, .inr (6, [.ref h9, .ref h13, .int z52, .int x13]))] rfl ?_
        refine r_aload_n 80 1 C dX4_call_80 rfl ?_
        refine r_get 81 C dX4_call_81 (k := 12) 0 rfl rfl hiX0 (by decide) rfl (mg 7 rfl) (Or.inl rfl) rfl ?_
        refine r_aload_n 84 1 C dX4_call_84 rfl ?_
        refine r_get 85 C dX4_call_85 (k := 13) 0 rfl rfl hiX0 (by decide) rfl (mg 2 rfl) (Or.inl rfl) rfl ?_
        refine r_aload_n 88 1 C dX4_call_88 rfl ?_
        refine r_get 89 C dX4_call_89 (k := 8) 0 rfl rfl hiX0 (by decide) rfl (mg 8 rfl) (Or.inl rfl) rfl ?_
        obtain ⟨f58, ef58⟩ : ∃ f_9, upd fn2 (Int32.toNatClampNeg x7) x5 = f_9 := ⟨_, rfl⟩
        refine r_iast 92 C dX4_call_92 3 rfl (vinI (by omega) (by omega)) f58 ef58 [(h0, .inr (0, [.ref h2, .ref h11, .ref h12, .int x1, .int x2, .long y0, .int x3, .int x4, .int x5, .int x6, .ref h3, .ref h4, .ref h5, .int x7, .int x8])), (h3, .inl (gI g, 10, .inl f56)), (h4, .inl (gI g, 10, .inl f57)), (h5, .inl (gI g, 10, .inl f58)), (h6, .inr (4, [.ref h10, .int x14])), (h8, .inl (gI g, 200, .inl fn4)), (h10, .inl (gB g, 1500, .inl fn5)), (h9, .inl (gJ g, 48, .inr (.inl fm0))), (h1, .inr (7, [.ref h6, .ref h7, .ref h8, .int x9, .int x10, .int x11])), (h7, .inl (gI g, 200, .inl fn3)), (h2, .inr (6, [.ref h9, .ref h13, .int z52, .int x13]))] rfl ?_
        refine r_aload_n 93 1 C dX4_call_93 rfl ?_
        refine r_dup 94 C dX4_call_94 rfl ?_
        refine r_get 95 C dX4_call_95 (k := 13) 0 rfl rfl hiX0 (by decide) rfl (mg 2 rfl) (Or.inl rfl) rfl ?_
        refine r_iconst 98 1 C dX4_call_98 (by decide) ?_
        obtain ⟨z59, ez59⟩ : ∃ z_9, x7 + 1 = z_9 := ⟨_, rfl⟩
        have tz59 : (Int32.toInt z59) = (Int32.toInt x7) + 1 := by rw [← ez59]; exact fb_addIv (a := 0) (b := 10) (c := 1) (d := 1) i_x7 ⟨by decide, by decide⟩ (by decide) (by decide)
        refine r_iadd 99 z59 C dX4_call_99 ez59 ?_
        refine r_put 100 C dX4_call_100 (k := 13) 0 rfl rfl hiX0 tyX0 tyX0_ok nmX0 (by decide) rfl (mg 2 rfl) (Or.inl rfl) rfl rfl rfl rfl (Nat.le_of_ble_eq_true rfl) [(h0, .inr (0, [.ref h2, .ref h11, .ref h12, .int x1, .int x2, .long y0, .int x3, .int x4, .int x5, .int x6, .ref h3, .ref h4, .ref h5, .int z59, .int x8])), (h3, .inl (gI g, 10, .inl f56)), (h4, .inl (gI g, 10, .inl f57)), (h5, .inl (gI g, 10, .inl f58)), (h6, .inr (4, [.ref h10, .int x14])), (h8, .inl (gI g, 200, .inl fn4)), (h10, .inl (gB g, 1500, .inl fn5)), (h9, .inl (gJ g, 48, .inr (.inl fm0))), (h1, .inr (7, [.ref h6, .ref h7, .ref h8, .int x9, .int x10, .int x11])), (h7, .inl (gI g, 200, .inl fn3)), (h2, .inr (6, [.ref h9, .ref h13, .int z52, .int x13]))] rfl ?_
        refine r_aload_n 103 1 C dX4_call_103 rfl ?_
        refine r_aload_n 104 2 C dX4_call_104 rfl ?_
        refine r_lload_n 105 0 C dX4_call_105 rfl ?_
        obtain ⟨z60, ez60⟩ : ∃ z_9, Int64.toInt32 z9 = z_9 := ⟨_, rfl⟩
        have tz60 : (Int32.toInt z60) = (Int64.toInt z9) := by rw [← ez60]; exact l2i_in (by omega) (by omega)
        refine r_l2i 106 z60 C dX4_call_106 ez60 ?_
        refine r_callVi 107 C dX4_call_107 [.ref h0] [(h1, .inr (7, [.ref h6, .ref h7, .ref h8, .int x9, .int x10, .int x11])), (h6, .inr (4, [.ref h10, .int x14])), (h7, .inl (gI g, 200, .inl fn3)), (h10, .inl (gB g, 1500, .inl fn5))] [(h0, .inr (0, [.ref h2, .ref h11, .ref h12, .int x1, .int x2, .long y0, .int x3, .int x4, .int x5, .int x6, .ref h3, .ref h4, .ref h5, .int z59, .int x8])), (h3, .inl (gI g, 10, .inl f56)), (h4, .inl (gI g, 10, .inl f57)), (h5, .inl (gI g, 10, .inl f58)), (h8, .inl (gI g, 200, .inl fn4)), (h9, .inl (gJ g, 48, .inr (.inl fm0))), (h2, .inr (6, [.ref h9, .ref h13, .int z52, .int x13]))] (fun sz => c35_X8_beginOf l g h1 h6 h7 h10 z60 h8 x9 x10 x11 x14 fn3 fn5 i_x14 sz) gX4_call_X8_beginOf rfl ⟨rfl, rfl⟩ 1 (by decide) ⟨Nat.le_of_ble_eq_true rfl, Nat.le_of_ble_eq_true rfl⟩ 8 rfl rfl [8, 4, 9, 6] [0, 1, 2, 3, 5, 7, 10] rfl rfl (by decide) (by decide) (by decide) rfl rfl (Nat.le_of_ble_eq_true rfl) ⟨Nat.le_of_ble_eq_true rfl, Nat.le_of_ble_eq_true rfl⟩ (fun r61 _ w62 => ?_)
        refine r_ws [(h0, .inr (0, [.ref h2, .ref h11, .ref h12, .int x1, .int x2, .long y0, .int x3, .int x4, .int x5, .int x6, .ref h3, .ref h4, .ref h5, .int z59, .int x8])), (h3, .inl (gI g, 10, .inl f56)), (h4, .inl (gI g, 10, .inl f57)), (h5, .inl (gI g, 10, .inl f58)), (h8, .inl (gI g, 200, .inl fn4)), (h9, .inl (gJ g, 48, .inr (.inl fm0))), (h2, .inr (6, [.ref h9, .ref h13, .int z52, .int x13])), (h1, .inr (7, [.ref h6, .ref h7, .ref h8, .int x9, .int x10, .int x11])), (h6, .inr (4, [.ref h10, .int x14])), (h7, .inl (gI g, 200, .inl fn3)), (h10, .inl (gB g, 1500, .inl fn5))] rfl ?_
        have p63 : CND (BOK (GB fn5 (Int32.toInt x14)) (Int32.toInt x9) (Int32.toInt x11) (Int32.toInt x10) fn3 200 (Int32.toInt z60)) ((Int32.toInt r61) = BEGE (GB fn5 (Int32.toInt x14)) (Int32.toInt x9) (Int32.toInt x11) (Int32.toInt x10) fn3 (Int32.toInt z60)) := w62
        have gr61 := fb_rng r61
        refine r_put 110 C dX4_call_110 (k := 6) 0 rfl rfl hiX0 tyX0 tyX0_ok nmX0 (by decide) rfl (mg 4 rfl) (Or.inl rfl) rfl rfl rfl rfl (Nat.le_of_ble_eq_true rfl) [(h0, .inr (0, [.ref h2, .ref h11, .ref h12, .int x1, .int x2, .long y0, .int r61, .int x4, .int x5, .int x6, .ref h3, .ref h4, .ref h5, .int z59, .int x8])), (h3, .inl (gI g, 10, .inl f56)), (h4, .inl (gI g, 10, .inl f57)), (h5, .inl (gI g, 10, .inl f58)), (h8, .inl (gI g, 200, .inl fn4)), (h9, .inl (gJ g, 48, .inr (.inl fm0))), (h2, .inr (6, [.ref h9, .ref h13, .int z52, .int x13])), (h1, .inr (7, [.ref h6, .ref h7, .ref h8, .int x9, .int x10, .int x11])), (h6, .inr (4, [.ref h10, .int x14])), (h7, .inl (gI g, 200, .inl fn3)), (h10, .inl (gB g, 1500, .inl fn5))] rfl ?_
        refine r_aload_n 113 1 C dX4_call_113 rfl ?_
        refine r_aload_n 114 2 C dX4_call_114 rfl ?_
        refine r_lload_n 115 0 C dX4_call_115 rfl ?_
        obtain ⟨z64, ez64⟩ : ∃ z_9, Int64.toInt32 z9 = z_9 := ⟨_, rfl⟩
        have tz64 : (Int32.toInt z64) = (Int64.toInt z9) := by rw [← ez64]; exact l2i_in (by omega) (by omega)
        refine r_l2i 116 z64 C dX4_call_116 ez64 ?_
        refine r_callVi 117 C dX4_call_117 [.ref h0] [(h1, .inr (7, [.ref h6, .ref h7, .ref h8, .int x9, .int x10, .int x11])), (h6, .inr (4, [.ref h10, .int x14])), (h7, .inl (gI g, 200, .inl fn3)), (h8, .inl (gI g, 200, .inl fn4)), (h10, .inl (gB g, 1500, .inl fn5))] [(h0, .inr (0, [.ref h2, .ref h11, .ref h12, .int x1, .int x2, .long y0, .int r61, .int x4, .int x5, .int x6, .ref h3, .ref h4, .ref h5, .int z59, .int x8])), (h3, .inl (gI g, 10, .inl f56)), (h4, .inl (gI g, 10, .inl f57)), (h5, .inl (gI g, 10, .inl f58)), (h9, .inl (gJ g, 48, .inr (.inl fm0))), (h2, .inr (6, [.ref h9, .ref h13, .int z52, .int x13]))] (fun sz => c34_X8_finishOf l g h1 h6 h7 h8 h10 z64 x9 x10 x11 x14 fn3 fn4 fn5 i_x14 sz) gX4_call_X8_finishOf rfl ⟨rfl, rfl⟩ 1 (by decide) ⟨Nat.le_of_ble_eq_true rfl, Nat.le_of_ble_eq_true rfl⟩ 7 rfl rfl [7, 8, 9, 4, 10] [0, 1, 2, 3, 5, 6] rfl rfl (by decide) (by decide) (by decide) rfl rfl (Nat.le_of_ble_eq_true rfl) ⟨Nat.le_of_ble_eq_true rfl, Nat.le_of_ble_eq_true rfl⟩ (fun r65 _ w66 => ?_)
        refine r_ws [(h0, .inr (0, [.ref h2, .ref h11, .ref h12, .int x1, .int x2, .long y0, .int r61, .int x4, .int x5, .int x6, .ref h3, .ref h4, .ref h5, .int z59, .int x8])), (h3, .inl (gI g, 10, .inl f56)), (h4, .inl (gI g, 10, .inl f57)), (h5, .inl (gI g, 10, .inl f58)), (h9, .inl (gJ g, 48, .inr (.inl fm0))), (h2, .inr (6, [.ref h9, .ref h13, .int z52, .int x13])), (h1, .inr (7, [.ref h6, .ref h7, .ref h8, .int x9, .int x10, .int x11])), (h6, .inr (4, [.ref h10, .int x14])), (h7, .inl (gI g, 200, .inl fn3)), (h8, .inl (gI g, 200, .inl fn4)), (h10, .inl (gB g, 1500, .inl fn5))] rfl ?_
        have p67 : CND (FOK (GB fn5 (Int32.toInt x14)) (Int32.toInt x9) (Int32.toInt x11) (Int32.toInt x10) fn3 fn4 200 (Int32.toInt z64)) ((Int32.toInt r65) = FINE (GB fn5 (Int32.toInt x14)) (Int32.toInt x9) (Int32.toInt x11) (Int32.toInt x10) fn4 (Int32.toInt z64)) := w66
        have gr65 := fb_rng r65
        refine r_put 120 C dX4_call_120 (k := 7) 0 rfl rfl hiX0 tyX0 tyX0_ok nmX0 (by decide) rfl (mg 6 rfl) (Or.inl rfl) rfl rfl rfl rfl (Nat.le_of_ble_eq_true rfl) [(h0, .inr (0, [.ref h2, .ref h11, .ref h12, .int x1, .int x2, .long y0, .int r61, .int r65, .int x5, .int x6, .ref h3, .ref h4, .ref h5, .int z59, .int x8])), (h3, .inl (gI g, 10, .inl f56)), (h4, .inl (gI g, 10, .inl f57)), (h5, .inl (gI g, 10, .inl f58)), (h9, .inl (gJ g, 48, .inr (.inl fm0))), (h2, .inr (6, [.ref h9, .ref h13, .int z52, .int x13])), (h1, .inr (7, [.ref h6, .ref h7, .ref h8, .int x9, .int x10, .int x11])), (h6, .inr (4, [.ref h10, .int x14])), (h7, .inl (gI g, 200, .inl fn3)), (h8, .inl (gI g, 200, .inl fn4)), (h10, .inl (gB g, 1500, .inl fn5))] rfl ?_
        refine r_aload_n 123 1 C dX4_call_123 rfl ?_
        refine r_aload_n 124 1 C dX4_call_124 rfl ?_
        refine r_get 125 C dX4_call_125 (k := 6) 0 rfl rfl hiX0 (by decide) rfl (mg 4 rfl) (Or.inl rfl) rfl ?_
        refine r_put 128 C dX4_call_128 (k := 8) 0 rfl rfl hiX0 tyX0 tyX0_ok nmX0 (by decide) rfl (mg 8 rfl) (Or.inl rfl) rfl rfl rfl rfl (Nat.le_of_ble_eq_true rfl) [(h0, .inr (0, [.ref h2, .ref h11, .ref h12, .int x1, .int x2, .long y0, .int r61, .int r65, .int r61, .int x6, .ref h3, .ref h4, .ref h5, .int z59, .int x8])), (h3, .inl (gI g, 10, .inl f56)), (h4, .inl (gI g, 10, .inl f57)), (h5, .inl (gI g, 10, .inl f58)), (h9, .inl (gJ g, 48, .inr (.inl fm0))), (h2, .inr (6, [.ref h9, .ref h13, .int z52, .int x13])), (h1, .inr (7, [.ref h6, .ref h7, .ref h8, .int x9, .int x10, .int x11])), (h6, .inr (4, [.ref h10, .int x14])), (h7, .inl (gI g, 200, .inl fn3)), (h8, .inl (gI g, 200, .inl fn4)), (h10, .inl (gB g, 1500, .inl fn5))] rfl ?_
        refine r_iconst 131 0 C dX4_call_131 (by decide) ?_
        exact r_iret 132 Rt dX4_call_132 (r61, r65, r61, z59, z52, f56, f57, f58) (show 0 ≤ (Int32.toInt 0) ∧ (Int32.toInt 0) ≤ 5 ∧ 0 ≤ (Int32.toInt z59) ∧ (Int32.toInt z59) ≤ 10 ∧ 0 ≤ (Int32.toInt z52) ∧ (Int32.toInt z52) ≤ 48 from ⟨(by ((repeat' apply And.intro) <;> first | trivial | rfl | assumption | omega | decide | exact Or.inl rfl | exact Or.inr (Or.inl rfl) | exact Or.inr (Or.inr rfl))), (by ((repeat' apply And.intro) <;> first | trivial | rfl | assumption | omega | decide | exact Or.inl rfl | exact Or.inr (Or.inl rfl) | exact Or.inr (Or.inr rfl))), (by ((repeat' apply And.intro) <;> first | trivial | rfl | assumption | omega | decide | exact Or.inl rfl | exact Or.inr (Or.inl rfl) | exact Or.inr (Or.inr rfl))), (by ((repeat' apply And.intro) <;> first | trivial | rfl | assumption | omega | decide | exact Or.inl rfl | exact Or.inr (Or.inl rfl) | exact Or.inr (Or.inr rfl))), (show _ ∧ _ from ⟨p54, p55⟩).1, (show _ ∧ _ from ⟨p54, p55⟩).2⟩) [0, 6, 5, 1, 2, 3, 7, 8, 9, 4, 10] (by decide) rfl (Nat.le_of_ble_eq_true rfl) (Nat.le_of_ble_eq_true rfl)
      · skip
        have k68 : ¬ ((Int32.toInt x7) < 10) := fun h_9 => c50 ((fa_lt x7 10).mpr h_9)
        refine r_iconst 44 5 C dX4_call_44 (by decide) ?_
        exact r_iret 45 Rt dX4_call_45 (x3, x4, x5, x7, x12, fn0, fn1, fn2) (show 0 ≤ (Int32.toInt 5) ∧ (Int32.toInt 5) ≤ 5 ∧ 0 ≤ (Int32.toInt x7) ∧ (Int32.toInt x7) ≤ 10 ∧ 0 ≤ (Int32.toInt x12) ∧ (Int32.toInt x12) ≤ 48 from ⟨(by ((repeat' apply And.intro) <;> first | trivial | rfl | assumption | omega | decide | exact Or.inl rfl | exact Or.inr (Or.inl rfl) | exact Or.inr (Or.inr rfl))), (by ((repeat' apply And.intro) <;> first | trivial | rfl | assumption | omega | decide | exact Or.inl rfl | exact Or.inr (Or.inl rfl) | exact Or.inr (Or.inr rfl))), i_x7.1, i_x7.2, i_x12.1, i_x12.2⟩) [0, 9, 7, 1, 2, 3, 4, 10, 5, 8, 6] (by decide) rfl (Nat.le_of_ble_eq_true rfl) (Nat.le_of_ble_eq_true rfl)
    obtain ⟨k69, k70⟩ := w13
    have k70 := k70.symm
    subst k70
    refine r_if_ne_f 30 35 C dX4_call_30 (by decide) (by decide) ?_
    refine r_iconst 33 4 C dX4_call_33 (by decide) ?_
    exact r_iret 34 Rt dX4_call_34 (x3, x4, x5, x7, x12, fn0, fn1, fn2) (show 0 ≤ (Int32.toInt 4) ∧ (Int32.toInt 4) ≤ 5 ∧ 0 ≤ (Int32.toInt x7) ∧ (Int32.toInt x7) ≤ 10 ∧ 0 ≤ (Int32.toInt x12) ∧ (Int32.toInt x12) ≤ 48 from ⟨(by ((repeat' apply And.intro) <;> first | trivial | rfl | assumption | omega | decide | exact Or.inl rfl | exact Or.inr (Or.inl rfl) | exact Or.inr (Or.inr rfl))), (by ((repeat' apply And.intro) <;> first | trivial | rfl | assumption | omega | decide | exact Or.inl rfl | exact Or.inr (Or.inl rfl) | exact Or.inr (Or.inr rfl))), i_x7.1, i_x7.2, i_x12.1, i_x12.2⟩) [0, 9, 7, 1, 2, 3, 4, 10, 5, 8, 6] (by decide) rfl (Nat.le_of_ble_eq_true rfl) (Nat.le_of_ble_eq_true rfl)
  · skip
    have k71 : ¬ (1 ≤ (Int32.toInt x12)) := fun h_9 => c4 ((fa_le 1 x12).mpr h_9)
    refine r_iconst 11 2 C dX4_call_11 (by decide) ?_
    exact r_iret 12 Rt dX4_call_12 (x3, x4, x5, x7, x12, fn0, fn1, fn2) (show 0 ≤ (Int32.toInt 2) ∧ (Int32.toInt 2) ≤ 5 ∧ 0 ≤ (Int32.toInt x7) ∧ (Int32.toInt x7) ≤ 10 ∧ 0 ≤ (Int32.toInt x12) ∧ (Int32.toInt x12) ≤ 48 from ⟨(by ((repeat' apply And.intro) <;> first | trivial | rfl | assumption | omega | decide | exact Or.inl rfl | exact Or.inr (Or.inl rfl) | exact Or.inr (Or.inr rfl))), (by ((repeat' apply And.intro) <;> first | trivial | rfl | assumption | omega | decide | exact Or.inl rfl | exact Or.inr (Or.inl rfl) | exact Or.inr (Or.inr rfl))), i_x7.1, i_x7.2, i_x12.1, i_x12.2⟩) [0, 1, 10, 2, 3, 4, 5, 6, 7, 8, 9] (by decide) rfl (Nat.le_of_ble_eq_true rfl) (Nat.le_of_ble_eq_true rfl)
set_option maxHeartbeats 4000000 in
set_option maxRecDepth 100000 in
theorem c272_X4_goBack (l : Launch) (g : GD) (h0 : Nat) (h1 : Nat) (h2 : Nat) (h3 : Nat) (h4 : Nat) (h5 : Nat) (h6 : Nat) (x0 : Int32) (x1 : Int32) (y0 : Int64) (x2 : Int32) (x3 : Int32) (x4 : Int32) (x5 : Int32) (x6 : Int32) (x7 : Int32) (fn0 : Nat → Int32) (fn1 : Nat → Int32) (fn2 : Nat → Int32) (i_x5 : (0 ≤ (Int32.toInt x5) ∧ (Int32.toInt x5) ≤ 1)) (i_x6 : (0 ≤ (Int32.toInt x6) ∧ (Int32.toInt x6) ≤ 10)) (i_x7 : (0 ≤ (Int32.toInt x7) ∧ (Int32.toInt x7) ≤ 1)) (sz : Nat) : Met l yX4_goBack wsX4_goBack ({ frames := 0, cells := 0, slots := 0, locals := 0 }) (va_Pc [.ref h0] (PW g [(h0, .inr (0, [.ref h4, .ref h5, .ref h6, .int x0, .int x1, .long y0, .int x2, .int x3, .int x4, .int x5, .ref h1, .ref h2, .ref h3, .int x6, .int x7])), (h1, .inl (gI g, 10, .inl fn0)), (h2, .inl (gI g, 10, .inl fn1)), (h3, .inl (gI g, 10, .inl fn2))] sz)) (va_Qi (fun (r : Int32) (u : (Int32) × (Int32) × (Int32) × (Int32)) => 0 ≤ (Int32.toInt r) ∧ (Int32.toInt r) ≤ 1 ∧ 0 ≤ (Int32.toInt (u.2.2.2)) ∧ (Int32.toInt (u.2.2.2)) ≤ 10) (BW g (va_A [(h0, .inr (0, [.ref h4, .ref h5, .ref h6, .int x0, .int x1, .long y0, .int x2, .int x3, .int x4, .int x5, .ref h1, .ref h2, .ref h3, .int x6, .int x7])), (h1, .inl (gI g, 10, .inl fn0)), (h2, .inl (gI g, 10, .inl fn1)), (h3, .inl (gI g, 10, .inl fn2))] sz) (fun u : (Int32) × (Int32) × (Int32) × (Int32) => [(h0, .inr (0, [.ref h4, .ref h5, .ref h6, .int x0, .int x1, .long y0, .int u.1, .int u.2.1, .int u.2.2.1, .int x5, .ref h1, .ref h2, .ref h3, .int u.2.2.2, .int x7])), (h1, .inl (gI g, 10, .inl fn0)), (h2, .inl (gI g, 10, .inl fn1)), (h3, .inl (gI g, 10, .inl fn2))])) (va_A [(h0, .inr (0, [.ref h4, .ref h5, .ref h6, .int x0, .int x1, .long y0, .int x2, .int x3, .int x4, .int x5, .ref h1, .ref h2, .ref h3, .int x6, .int x7])), (h1, .inl (gI g, 10, .inl fn0)), (h2, .inl (gI g, 10, .inl fn1)), (h3, .inl (gI g, 10, .inl fn2))] sz)) 0 0 (va_A [(h0, .inr (0, [.ref h4, .ref h5, .ref h6, .int x0, .int x1, .long y0, .int x2, .int x3, .int x4, .int x5, .ref h1, .ref h2, .ref h3, .int x6, .int x7])), (h1, .inl (gI g, 10, .inl fn0)), (h2, .inl (gI g, 10, .inl fn1)), (h3, .inl (gI g, 10, .inl fn2))] sz) := by
  refine met_i RX4 (by decide) rfl rfl (Nat.le_of_ble_eq_true rfl) [(0, .ref h0)] rfl ?_
  intro p e s m args below meth c A Q C hnm Rt
  have hiX0 : ∀ w ∈ wsX00, w ∈ wsX4_goBack := fun w h => List.mem_cons_of_mem _ (List.mem_append_left _ (List.mem_append_right _ (h)))
  refine r_aload_n 0 0 C dX4_goBack_0 rfl ?_
  refine r_get 1 C dX4_goBack_1 (k := 13) 0 rfl rfl hiX0 (by decide) rfl (mg 1 rfl) (Or.inl rfl) rfl ?_
  refine r_iconst 4 1 C dX4_goBack_4 (by decide) ?_
  refine r_icmp_ge 5 10 C dX4_goBack_5 (by decide) (fun c1 => ?_) (fun c1 => ?_)
  · skip
    have k2 : 1 ≤ (Int32.toInt x6) := (fa_le 1 x6).mp c1
    refine r_aload_n 10 0 C dX4_goBack_10 rfl ?_
    refine r_dup 11 C dX4_goBack_11 rfl ?_
    refine r_get 12 C dX4_goBack_12 (k := 13) 0 rfl rfl hiX0 (by decide) rfl (mg 1 rfl) (Or.inl rfl) rfl ?_
    refine r_iconst 15 1 C dX4_goBack_15 (by decide) ?_
    obtain ⟨z3, ez3⟩ : ∃ z_9, x6 - 1 = z_9 := ⟨_, rfl⟩
    have tz3 : (Int32.toInt z3) = (Int32.toInt x6) - 1 := by rw [← ez3]; exact fb_subIv (a := 0) (b := 10) (c := 1) (d := 1) i_x6 ⟨by decide, by decide⟩ (by decide) (by decide)
    refine r_isub 16 z3 C dX4_goBack_16 ez3 ?_
    refine r_put 17 C dX4_goBack_17 (k := 13) 0 rfl rfl hiX0 tyX0 tyX0_ok nmX0 (by decide) rfl (mg 1 rfl) (Or.inl rfl) rfl rfl rfl rfl (Nat.le_of_ble_eq_true rfl) [(h0, .inr (0, [.ref h4, .ref h5, .ref h6, .int x0, .int x1, .long y0, .int x2, .int x3, .int x4, .int x5, .ref h1, .ref h2, .ref h3, .int z3, .int x7])), (h1, .inl (gI g, 10, .inl fn0)), (h2, .inl (gI g, 10, .inl fn1)), (h3, .inl (gI g, 10, .inl fn2))] rfl ?_
    refine r_aload_n 20 0 C dX4_goBack_20 rfl ?_
    refine r_aload_n 21 0 C dX4_goBack_21 rfl ?_
    refine r_get 22 C dX4_goBack_22 (k := 10) 0 rfl rfl hiX0 (by decide) rfl (mg 2 rfl) (Or.inl rfl) rfl ?_
    refine r_aload_n 25 0 C dX4_goBack_25 rfl ?_
    refine r_get 26 C dX4_goBack_26 (k := 13) 0 rfl rfl hiX0 (by decide) rfl (mg 1 rfl) (Or.inl rfl) rfl ?_
    obtain ⟨z4, ez4⟩ : ∃ z_9, fn0 (Int32.toNatClampNeg z3) = z_9 := ⟨_, rfl⟩
    refine r_iald 29 z4 C dX4_goBack_29 1 rfl (vinI (by omega) (by omega)) ez4 ?_
    have gz4 := fb_rng z4
    refine r_put 30 C dX4_goBack_30 (k := 6) 0 rfl rfl hiX0 tyX0 tyX0_ok nmX0 (by decide) rfl (mg 3 rfl) (Or.inl rfl) rfl rfl rfl rfl (Nat.le_of_ble_eq_true rfl) [(h0, .inr (0, [.ref h4, .ref h5, .ref h6, .int x0, .int x1, .long y0, .int z4, .int x3, .int x4, .int x5, .ref h1, .ref h2, .ref h3, .int z3, .int x7])), (h1, .inl (gI g, 10, .inl fn0)), (h2, .inl (gI g, 10, .inl fn1)), (h3, .inl (gI g, 10, .inl fn2))] rfl ?_
    refine r_aload_n 33 0 C dX4_goBack_33 rfl ?_
    refine r_aload_n 34 0 C dX4_goBack_34 rfl ?_
    refine r_get 35 C dX4_goBack_35 (k := 11) 0 rfl rfl hiX0 (by decide) rfl (mg 4 rfl) (Or.inl rfl) rfl ?_
    refine r_aload_n 38 0 C dX4_goBack_38 rfl ?_
    refine r_get 39 C dX4_goBack_39 (k := 13) 0 rfl rfl hiX0 (by decide) rfl (mg 1 rfl) (Or.inl rfl) rfl ?_
    obtain ⟨z5, ez5⟩ : ∃ z_9, fn1 (Int32.toNatClampNeg z3) = z_9 := ⟨_, rfl⟩
    refine r_iald 42 z5 C dX4_goBack_42 2 rfl (vinI (by omega) (by omega)) ez5 ?_
    have gz5 := fb_rng z5
    refine r_put 43 C dX4_goBack_43 (k := 7) 0 rfl rfl hiX0 tyX0 tyX0_ok nmX0 (by decide) rfl (mg 5 rfl) (Or.inl rfl) rfl rfl rfl rfl (Nat.le_of_ble_eq_true rfl) [(h0, .inr (0, [.ref h4, .ref h5, .ref h6, .int x0, .int x1, .long y0, .int z4, .int z5, .int x4, .int x5, .ref h1, .ref h2, .ref h3, .int z3, .int x7])), (h1, .inl (gI g, 10, .inl fn0)), (h2, .inl (gI g, 10, .inl fn1)), (h3, .inl (gI g, 10, .inl fn2))] rfl ?_
    refine r_aload_n 46 0 C dX4_goBack_46 rfl ?_
    refine r_aload_n 47 0 C dX4_goBack_47 rfl ?_
    refine r_get 48 C dX4_goBack_48 (k := 12) 0 rfl rfl hiX0 (by decide) rfl (mg 6 rfl) (Or.inl rfl) rfl ?_
    refine r_aload_n 51 0 C dX4_goBack_51 rfl ?_
    refine r_get 52 C dX4_goBack_52 (k := 13) 0 rfl rfl hiX0 (by decide) rfl (mg 1 rfl) (Or.inl rfl) rfl ?_
    obtain ⟨z6, ez6⟩ : ∃ z_9, fn2 (Int32.toNatClampNeg z3) = z_9 := ⟨_, rfl⟩
    refine r_iald 55 z6 C dX4_goBack_55 3 rfl (vinI (by omega) (by omega)) ez6 ?_
    have gz6 := fb_rng z6
    refine r_put 56 C dX4_goBack_56 (k := 8) 0 rfl rfl hiX0 tyX0 tyX0_ok nmX0 (by decide) rfl (mg 7 rfl) (Or.inl rfl) rfl rfl rfl rfl (Nat.le_of_ble_eq_true rfl) [(h0, .inr (0, [.ref h4, .ref h5, .ref h6, .int x0, .int x1, .long y0, .int z4, .int z5, .int z6, .int x5, .ref h1, .ref h2, .ref h3, .int z3, .int x7])), (h1, .inl (gI g, 10, .inl fn0)), (h2, .inl (gI g, 10, .inl fn1)), (h3, .inl (gI g, 10, .inl fn2))] rfl ?_
    refine r_iconst 59 0 C dX4_goBack_59 (by decide) ?_
    exact r_iret 60 Rt dX4_goBack_60 (z4, z5, z6, z3) (show 0 ≤ (Int32.toInt 0) ∧ (Int32.toInt 0) ≤ 1 ∧ 0 ≤ (Int32.toInt z3) ∧ (Int32.toInt z3) ≤ 10 from ⟨(by ((repeat' apply And.intro) <;> first | trivial | rfl | assumption | omega | decide | exact Or.inl rfl | exact Or.inr (Or.inl rfl) | exact Or.inr (Or.inr rfl))), (by ((repeat' apply And.intro) <;> first | trivial | rfl | assumption | omega | decide | exact Or.inl rfl | exact Or.inr (Or.inl rfl) | exact Or.inr (Or.inr rfl))), (by ((repeat' apply And.intro) <;> first | trivial | rfl | assumption | omega | decide | exact Or.inl rfl | exact Or.inr (Or.inl rfl) | exact Or.inr (Or.inr rfl))), (by ((repeat' apply And.intro) <;> first | trivial | rfl | assumption | omega | decide | exact Or.inl rfl | exact Or.inr (Or.inl rfl) | exact Or.inr (Or.inr rfl)))⟩) [0, 1, 2, 3] (by decide) rfl (Nat.le_of_ble_eq_true rfl) (Nat.le_of_ble_eq_true rfl)
  · skip
    have k7 : ¬ (1 ≤ (Int32.toInt x6)) := fun h_9 => c1 ((fa_le 1 x6).mpr h_9)
    refine r_iconst 8 1 C dX4_goBack_8 (by decide) ?_
    exact r_iret 9 Rt dX4_goBack_9 (x2, x3, x4, x6) (show 0 ≤ (Int32.toInt 1) ∧ (Int32.toInt 1) ≤ 1 ∧ 0 ≤ (Int32.toInt x6) ∧ (Int32.toInt x6) ≤ 10 from ⟨(by ((repeat' apply And.intro) <;> first | trivial | rfl | assumption | omega | decide | exact Or.inl rfl | exact Or.inr (Or.inl rfl) | exact Or.inr (Or.inr rfl))), (by ((repeat' apply And.intro) <;> first | trivial | rfl | assumption | omega | decide | exact Or.inl rfl | exact Or.inr (Or.inl rfl) | exact Or.inr (Or.inr rfl))), i_x6.1, i_x6.2⟩) [0, 1, 2, 3] (by decide) rfl (Nat.le_of_ble_eq_true rfl) (Nat.le_of_ble_eq_true rfl)
set_option maxHeartbeats 4000000 in
set_option maxRecDepth 100000 in
theorem c273_X4_call (l : Launch) (g : GD) (h0 : Nat) (h1 : Nat) (h2 : Nat) (h3 : Nat) (h4 : Nat) (h5 : Nat) (h6 : Nat) (h7 : Nat) (h8 : Nat) (h9 : Nat) (x0 : Int32) (h10 : Nat) (h11 : Nat) (x1 : Int32) (x2 : Int32) (y0 : Int64) (x3 : Int32) (x4 : Int32) (x5 : Int32) (x6 : Int32) (x7 : Int32) (x8 : Int32) (h12 : Nat) (x9 : Int32) (x10 : Int32) (x11 : Int32) (h13 : Nat) (x12 : Int32) (x13 : Int32) (fn0 : Nat → Int32) (fn1 : Nat → Int32) (fn2 : Nat → Int32) (x14 : Int32) (fn3 : Nat → Int32) (fm0 : Nat → Int64) (fn4 : Nat → Int32) (i_x6 : (0 ≤ (Int32.toInt x6) ∧ (Int32.toInt x6) ≤ 1)) (i_x7 : (0 ≤ (Int32.toInt x7) ∧ (Int32.toInt x7) ≤ 10)) (i_x8 : (0 ≤ (Int32.toInt x8) ∧ (Int32.toInt x8) ≤ 1)) (i_x12 : (0 ≤ (Int32.toInt x12) ∧ (Int32.toInt x12) ≤ 48)) (i_x13 : (0 ≤ (Int32.toInt x13) ∧ (Int32.toInt x13) ≤ 48)) (i_x14 : (0 ≤ (Int32.toInt x14) ∧ (Int32.toInt x14) ≤ 1500)) (sz : Nat) : Met l yX4_call wsX4_call ({ frames := 3, cells := 0, slots := 0, locals := 66 }) (va_Pc [.ref h0, .ref h1, .int x0] (PW g [(h0, .inr (0, [.ref h2, .ref h10, .ref h11, .int x1, .int x2, .long y0, .int x3, .int x4, .int x5, .int x6, .ref h3, .ref h4, .ref h5, .int x7, .int x8])), (h1, .inr (7, [.ref h6, .ref h7, .ref h12, .int x9, .int x10, .int x11])), (h2, .inr (6, [.ref h8, .ref h13, .int x12, .int x13])), (h3, .inl (gI g, 10, .inl fn0)), (h4, .inl (gI g, 10, .inl fn1)), (h5, .inl (gI g, 10, .inl fn2)), (h6, .inr (4, [.ref h9, .int x14])), (h7, .inl (gI g, 0, .inl fn3)), (h8, .inl (gJ g, 48, .inr (.inl fm0))), (h9, .inl (gB g, 1500, .inl fn4))] sz)) (va_Qi (fun (r : Int32) (u : (Int32) × (Int32) × (Int32) × (Int32) × (Int32) × (Nat → Int32) × (Nat → Int32) × (Nat → Int32)) => 0 ≤ (Int32.toInt r) ∧ (Int32.toInt r) ≤ 5 ∧ 0 ≤ (Int32.toInt (u.2.2.2.1)) ∧ (Int32.toInt (u.2.2.2.1)) ≤ 10 ∧ 0 ≤ (Int32.toInt (u.2.2.2.2.1)) ∧ (Int32.toInt (u.2.2.2.2.1)) ≤ 48) (BW g (va_A [(h0, .inr (0, [.ref h2, .ref h10, .ref h11, .int x1, .int x2, .long y0, .int x3, .int x4, .int x5, .int x6, .ref h3, .ref h4, .ref h5, .int x7, .int x8])), (h1, .inr (7, [.ref h6, .ref h7, .ref h12, .int x9, .int x10, .int x11])), (h2, .inr (6, [.ref h8, .ref h13, .int x12, .int x13])), (h3, .inl (gI g, 10, .inl fn0)), (h4, .inl (gI g, 10, .inl fn1)), (h5, .inl (gI g, 10, .inl fn2)), (h6, .inr (4, [.ref h9, .int x14])), (h7, .inl (gI g, 0, .inl fn3)), (h8, .inl (gJ g, 48, .inr (.inl fm0))), (h9, .inl (gB g, 1500, .inl fn4))] sz) (fun u : (Int32) × (Int32) × (Int32) × (Int32) × (Int32) × (Nat → Int32) × (Nat → Int32) × (Nat → Int32) => [(h0, .inr (0, [.ref h2, .ref h10, .ref h11, .int x1, .int x2, .long y0, .int u.1, .int u.2.1, .int u.2.2.1, .int x6, .ref h3, .ref h4, .ref h5, .int u.2.2.2.1, .int x8])), (h1, .inr (7, [.ref h6, .ref h7, .ref h12, .int x9, .int x10, .int x11])), (h2, .inr (6, [.ref h8, .ref h13, .int u.2.2.2.2.1, .int x13])), (h3, .inl (gI g, 10, .inl u.2.2.2.2.2.1)), (h4, .inl (gI g, 10, .inl u.2.2.2.2.2.2.1)), (h5, .inl (gI g, 10, .inl u.2.2.2.2.2.2.2)), (h6, .inr (4, [.ref h9, .int x14])), (h7, .inl (gI g, 0, .inl fn3)), (h8, .inl (gJ g, 48, .inr (.inl fm0))), (h9, .inl (gB g, 1500, .inl fn4))])) (va_A [(h0, .inr (0, [.ref h2, .ref h10, .ref h11, .int x1, .int x2, .long y0, .int x3, .int x4, .int x5, .int x6, .ref h3, .ref h4, .ref h5, .int x7, .int x8])), (h1, .inr (7, [.ref h6, .ref h7, .ref h12, .int x9, .int x10, .int x11])), (h2, .inr (6, [.ref h8, .ref h13, .int x12, .int x13])), (h3, .inl (gI g, 10, .inl fn0)), (h4, .inl (gI g, 10, .inl fn1)), (h5, .inl (gI g, 10, .inl fn2)), (h6, .inr (4, [.ref h9, .int x14])), (h7, .inl (gI g, 0, .inl fn3)), (h8, .inl (gJ g, 48, .inr (.inl fm0))), (h9, .inl (gB g, 1500, .inl fn4))] sz)) 0 0 (va_A [(h0, .inr (0, [.ref h2, .ref h10, .ref h11, .int x1, .int x2, .long y0, .int x3, .int x4, .int x5, .int x6, .ref h3, .ref h4, .ref h5, .int x7, .int x8])), (h1, .inr (7, [.ref h6, .ref h7, .ref h12, .int x9, .int x10, .int x11])), (h2, .inr (6, [.ref h8, .ref h13, .int x12, .int x13])), (h3, .inl (gI g, 10, .inl fn0)), (h4, .inl (gI g, 10, .inl fn1)), (h5, .inl (gI g, 10, .inl fn2)), (h6, .inr (4, [.ref h9, .int x14])), (h7, .inl (gI g, 0, .inl fn3)), (h8, .inl (gJ g, 48, .inr (.inl fm0))), (h9, .inl (gB g, 1500, .inl fn4))] sz) := by
  refine met_i RX4 (by decide) rfl rfl (Nat.le_of_ble_eq_true rfl) [(0, .ref h0), (1, .ref h1), (2, .int x0)] rfl ?_
  intro p e s m args below meth c A Q C hnm Rt
  have gx0 := fb_rng x0
  have gx9 := fb_rng x9
  have gx10 := fb_rng x10
  have gx11 := fb_rng x11
  have hiX0 : ∀ w ∈ wsX00, w ∈ wsX4_call := fun w h => List.mem_cons_of_mem _ (List.mem_append_left _ (List.mem_append_left _ (List.mem_append_left _ (List.mem_append_left _ (List.mem_append_right _ (h))))))
  refine r_aload_n 0 0 C dX4_call_0 rfl ?_
  refine r_get 1 C dX4_call_1 (k := 0) 0 rfl rfl hiX0 (by decide) rfl (mg 1 rfl) (Or.inl rfl) rfl ?_
  refine r_callVi 4 C dX4_call_4 [] [(h2, .inr (6, [.ref h8, .ref h13, .int x12, .int x13]))] [(h0, .inr (0, [.ref h2, .ref h10, .ref h11, .int x1, .int x2, .long y0, .int x3, .int x4, .int x5, .int x6, .ref h3, .ref h4, .ref h5, .int x7, .int x8])), (h1, .inr (7, [.ref h6, .ref h7, .ref h12, .int x9, .int x10, .int x11])), (h3, .inl (gI g, 10, .inl fn0)), (h4, .inl (gI g, 10, .inl fn1)), (h5, .inl (gI g, 10, .inl fn2)), (h6, .inr (4, [.ref h9, .int x14])), (h7, .inl (gI g, 0, .inl fn3)), (h8, .inl (gJ g, 48, .inr (.inl fm0))), (h9, .inl (gB g, 1500, .inl fn4))] (fun sz => c231_X7_size l g h2 h8 h13 x12 x13 i_x12 i_x13 sz) gX4_call_X7_size rfl ⟨rfl, rfl⟩ 0 (by decide) ⟨Nat.le_of_ble_eq_true rfl, Nat.le_of_ble_eq_true rfl⟩ 2 rfl rfl [2] [0, 1, 3, 4, 5, 6, 7, 8, 9] rfl rfl (by decide) (by decide) (by decide) rfl rfl (Nat.le_of_ble_eq_true rfl) ⟨Nat.le_of_ble_eq_true rfl, Nat.le_of_ble_eq_true rfl⟩ (fun r1 _ w2 => ?_)
  refine r_ws [(h0, .inr (0, [.ref h2, .ref h10, .ref h11, .int x1, .int x2, .long y0, .int x3, .int x4, .int x5, .int x6, .ref h3, .ref h4, .ref h5, .int x7, .int x8])), (h1, .inr (7, [.ref h6, .ref h7, .ref h12, .int x9, .int x10, .int x11])), (h3, .inl (gI g, 10, .inl fn0)), (h4, .inl (gI g, 10, .inl fn1)), (h5, .inl (gI g, 10, .inl fn2)), (h6, .inr (4, [.ref h9, .int x14])), (h7, .inl (gI g, 0, .inl fn3)), (h8, .inl (gJ g, 48, .inr (.inl fm0))), (h9, .inl (gB g, 1500, .inl fn4)), (h2, .inr (6, [.ref h8, .ref h13, .int x12, .int x13]))] rfl ?_
  have p3 : x12 = r1 := (w2).symm
  subst p3
  refine r_iconst 7 1 C dX4_call_7 (by decide) ?_
  refine r_icmp_ge 8 13 C dX4_call_8 (by decide) (fun c4 => ?_) (fun c4 => ?_)
  · skip
    have k5 : 1 ≤ (Int32.toInt x12) := (fa_le 1 x12).mp c4
    refine r_aload_n 13 0 C dX4_call_13 rfl ?_
    refine r_get 14 C dX4_call_14 (k := 0) 0 rfl rfl hiX0 (by decide) rfl (mg 1 rfl) (Or.inl rfl) rfl ?_
    refine r_iconst 17 0 C dX4_call_17 (by decide) ?_
    refine r_callVl 18 C dX4_call_18 [] [(h2, .inr (6, [.ref h8, .ref h13, .int x12, .int x13])), (h8, .inl (gJ g, 48, .inr (.inl fm0)))] [(h0, .inr (0, [.ref h2, .ref h10, .ref h11, .int x1, .int x2, .long y0, .int x3, .int x4, .int x5, .int x6, .ref h3, .ref h4, .ref h5, .int x7, .int x8])), (h1, .inr (7, [.ref h6, .ref h7, .ref h12, .int x9, .int x10, .int x11])), (h3, .inl (gI g, 10, .inl fn0)), (h4, .inl (gI g, 10, .inl fn1)), (h5, .inl (gI g, 10, .inl fn2)), (h6, .inr (4, [.ref h9, .int x14])), (h7, .inl (gI g, 0, .inl fn3)), (h9, .inl (gB g, 1500, .inl fn4))] (fun sz => c234_X7_wholeBelow l g h2 h8 0 h13 x12 x13 fm0 i_x12 i_x13 sz) gX4_call_X7_wholeBelow rfl ⟨rfl, rfl⟩ 1 (by decide) ⟨Nat.le_of_ble_eq_true rfl, Nat.le_of_ble_eq_true rfl⟩ 9 rfl rfl [9, 7] [0, 1, 2, 3, 4, 5, 6, 8] rfl rfl (by decide) (by decide) (by decide) rfl rfl (Nat.le_of_ble_eq_true rfl) ⟨Nat.le_of_ble_eq_true rfl, Nat.le_of_ble_eq_true rfl⟩ (fun r6 _ w7 => ?_)
    refine r_ws [(h0, .inr (0, [.ref h2, .ref h10, .ref h11, .int x1, .int x2, .long y0, .int x3, .int x4, .int x5, .int x6, .ref h3, .ref h4, .ref h5, .int x7, .int x8])), (h1, .inr (7, [.ref h6, .ref h7, .ref h12, .int x9, .int x10, .int x11])), (h3, .inl (gI g, 10, .inl fn0)), (h4, .inl (gI g, 10, .inl fn1)), (h5, .inl (gI g, 10, .inl fn2)), (h6, .inr (4, [.ref h9, .int x14])), (h7, .inl (gI g, 0, .inl fn3)), (h9, .inl (gB g, 1500, .inl fn4)), (h2, .inr (6, [.ref h8, .ref h13, .int x12, .int x13])), (h8, .inl (gJ g, 48, .inr (.inl fm0)))] rfl ?_
    have gr6 := fb_rngL r6
    refine r_iload_n 21 2 C dX4_call_21 rfl ?_
    obtain ⟨z8, ez8⟩ : ∃ z_9, Int32.toInt64 x0 = z_9 := ⟨_, rfl⟩
    have tz8 : (Int64.toInt z8) = (Int32.toInt x0) := by rw [← ez8]; exact Int32.toInt_toInt64 _
    refine r_i2l 22 z8 C dX4_call_22 ez8 ?_
    obtain ⟨z9, ez9⟩ : ∃ z_9, r6 + z8 = z_9 := ⟨_, rfl⟩
    have gz9 := fb_rngL z9
    refine r_ladd 23 z9 C dX4_call_23 ez9 ?_
    refine r_lstore_n 24 C dX4_call_24 [(3, .long z9), (0, .ref h0), (1, .ref h1), (2, .int x0)] (by decide) rfl ?_
    refine r_aload_n 25 2 C dX4_call_25 rfl ?_
    refine r_lload_n 26 0 C dX4_call_26 rfl ?_
    refine r_callVi 27 C dX4_call_27 [] [(h1, .inr (7, [.ref h6, .ref h7, .ref h12, .int x9, .int x10, .int x11])), (h7, .inl (gI g, 0, .inl fn3))] [(h0, .inr (0, [.ref h2, .ref h10, .ref h11, .int x1, .int x2, .long y0, .int x3, .int x4, .int x5, .int x6, .ref h3, .ref h4, .ref h5, .int x7, .int x8])), (h3, .inl (gI g, 10, .inl fn0)), (h4, .inl (gI g, 10, .inl fn1)), (h5, .inl (gI g, 10, .inl fn2)), (h6, .inr (4, [.ref h9, .int x14])), (h9, .inl (gB g, 1500, .inl fn4)), (h2, .inr (6, [.ref h8, .ref h13, .int x12, .int x13])), (h8, .inl (gJ g, 48, .inr (.inl fm0)))] (fun sz => c36_X8_has l g h1 h7 z9 h6 h12 x9 x10 x11 fn3  sz) gX4_call_X8_has rfl ⟨rfl, rfl⟩ 1 (by decide) ⟨Nat.le_of_ble_eq_true rfl, Nat.le_of_ble_eq_true rfl⟩ 1 rfl rfl [1, 6] [0, 2, 3, 4, 5, 7, 8, 9] rfl rfl (by decide) (by decide) (by decide) rfl rfl (Nat.le_of_ble_eq_true rfl) ⟨Nat.le_of_ble_eq_true rfl, Nat.le_of_ble_eq_true rfl⟩ (fun r10 _ w11 => ?_)
    refine r_ws [(h0, .inr (0, [.ref h2, .ref h10, .ref h11, .int x1, .int x2, .long y0, .int x3, .int x4, .int x5, .int x6, .ref h3, .ref h4, .ref h5, .int x7, .int x8])), (h3, .inl (gI g, 10, .inl fn0)), (h4, .inl (gI g, 10, .inl fn1)), (h5, .inl (gI g, 10, .inl fn2)), (h6, .inr (4, [.ref h9, .int x14])), (h9, .inl (gB g, 1500, .inl fn4)), (h2, .inr (6, [.ref h8, .ref h13, .int x12, .int x13])), (h8, .inl (gJ g, 48, .inr (.inl fm0))), (h1, .inr (7, [.ref h6, .ref h7, .ref h12, .int x9, .int x10, .int x11])), (h7, .inl (gI g, 0, .inl fn3))] rfl ?_
    have p12 : HSB (Int32.toInt r10) (HASP (Int32.toInt x9) (Int32.toInt x11) fn3 0 (Int64.toInt z9)) := w11.2
    have w13 : (((Int64.toInt z9) < 0 ∧ r10 = 0) ∨ (¬ ((Int64.toInt z9) < 0) ∧ 0 < (Int32.toInt x11) ∧ r10 = 1) ∨ (¬ ((Int64.toInt z9) < 0) ∧ ¬ (0 < (Int32.toInt x11)) ∧ r10 = 0) ∨ (¬ ((Int64.toInt z9) < 0) ∧ r10 = 0)) := w11.1
    rcases w13 with ⟨k14, k15⟩ | w13
    · skip
      have k15 := k15.symm
      subst k15
      refine r_if_ne_f 30 35 C dX4_call_30 (by decide) (by decide) ?_
      refine r_iconst 33 4 C dX4_call_33 (by decide) ?_
      exact r_iret 34 Rt dX4_call_34 (x3, x4, x5, x7, x12, fn0, fn1, fn2) (show 0 ≤ (Int32.toInt 4) ∧ (Int32.toInt 4) ≤ 5 ∧ 0 ≤ (Int32.toInt x7) ∧ (Int32.toInt x7) ≤ 10 ∧ 0 ≤ (Int32.toInt x12) ∧ (Int32.toInt x12) ≤ 48 from ⟨(by ((repeat' apply And.intro) <;> first | trivial | rfl | assumption | omega | decide | exact Or.inl rfl | exact Or.inr (Or.inl rfl) | exact Or.inr (Or.inr rfl))), (by ((repeat' apply And.intro) <;> first | trivial | rfl | assumption | omega | decide | exact Or.inl rfl | exact Or.inr (Or.inl rfl) | exact Or.inr (Or.inr rfl))), i_x7.1, i_x7.2, i_x12.1, i_x12.2⟩) [0, 8, 6, 1, 2, 3, 4, 9, 7, 5] (by decide) rfl (Nat.le_of_ble_eq_true rfl) (Nat.le_of_ble_eq_true rfl)
    rcases w13 with ⟨k16, k17, k18⟩ | w13
    · skip
      have k18 := k18.symm
      subst k18
      refine r_if_ne_t 30 35 C dX4_call_30 (by decide) (by decide) ?_
      refine r_aload_n 35 1 C dX4_call_35 rfl ?_
      refine r_get 36 C dX4_call_36 (k := 13) 0 rfl rfl hiX0 (by decide) rfl (mg 2 rfl) (Or.inl rfl) rfl ?_
      refine r_bipush 39 10 C dX4_call_39 (by decide) ?_
      refine r_icmp_lt 41 46 C dX4_call_41 (by decide) (fun c19 => ?_) (fun c19 => ?_)
      · skip
        have k20 : (Int32.toInt x7) < 10 := (fa_lt x7 10).mp c19
        refine r_aload_n 46 1 C dX4_call_46 rfl ?_
        refine r_get 47 C dX4_call_47 (k := 0) 0 rfl rfl hiX0 (by decide) rfl (mg 1 rfl) (Or.inl rfl) rfl ?_
        refine r_iconst 50 1 C dX4_call_50 (by decide) ?_
        refine r_callVv 51 C dX4_call_51 [] [(h2, .inr (6, [.ref h8, .ref h13, .int x12, .int x13]))] [(h0, .inr (0, [.ref h2, .ref h10, .ref h11, .int x1, .int x2, .long y0, .int x3, .int x4, .int x5, .int x6, .ref h3, .ref h4, .ref h5, .int x7, .int x8])), (h3, .inl (gI g, 10, .inl fn0)), (h4, .inl (gI g, 10, .inl fn1)), (h5, .inl (gI g, 10, .inl fn2)), (h6, .inr (4, [.ref h9, .int x14])), (h9, .inl (gB g, 1500, .inl fn4)), (h8, .inl (gJ g, 48, .inr (.inl fm0))), (h1, .inr (7, [.ref h6, .ref h7, .ref h12, .int x9, .int x10, .int x11])), (h7, .inl (gI g, 0, .inl fn3))] (fun sz => c235_X7_drop l g h2 1 h8 h13 x12 x13 i_x12 i_x13 sz) gX4_call_X7_drop rfl ⟨rfl, rfl⟩ 1 (by decide) ⟨Nat.le_of_ble_eq_true rfl, Nat.le_of_ble_eq_true rfl⟩ 6 rfl rfl [6] [0, 1, 2, 3, 4, 5, 7, 8, 9] rfl rfl (by decide) (by decide) (by decide) rfl rfl (Nat.le_of_ble_eq_true rfl) ⟨Nat.le_of_ble_eq_true rfl, Nat.le_of_ble_eq_true rfl⟩ (fun  z21 w22 => ?_)
        refine r_ws [(h0, .inr (0, [.ref h2, .ref h10, .ref h11, .int x1, .int x2, .long y0, .int x3, .int x4, .int x5, .int x6, .ref h3, .ref h4, .ref h5, .int x7, .int x8])), (h3, .inl (gI g, 10, .inl fn0)), (h4, .inl (gI g, 10, .inl fn1)), (h5, .inl (gI g, 10, .inl fn2)), (h6, .inr (4, [.ref h9, .int x14])), (h9, .inl (gB g, 1500, .inl fn4)), (h8, .inl (gJ g, 48, .inr (.inl fm0))), (h1, .inr (7, [.ref h6, .ref h7, .ref h12, .int x9, .int x10, .int x11])), (h7, .inl (gI g, 0, .inl fn3)), (h2, .inr (6, [.ref h8, .ref h13, .int z21, .int x13]))] rfl ?_
        have p23 : 0 ≤ (Int32.toInt z21) := w22.1
        have p24 : (Int32.toInt z21) ≤ 48 := w22.2
        refine r_aload_n 54 1 C dX4_call_54 rfl ?_
        refine r_get 55 C dX4_call_55 (k := 10) 0 rfl rfl hiX0 (by decide) rfl (mg 3 rfl) (Or.inl rfl) rfl ?_
        refine r_aload_n 58 1 C dX4_call_58 rfl ?_
        refine r_get 59 C dX4_call_59 (k := 13) 0 rfl rfl hiX0 (by decide) rfl (mg 2 rfl) (Or.inl rfl) rfl ?_
        refine r_aload_n 62 1 C dX4_call_62 rfl ?_
        refine r_get 63 C dX4_call_63 (k := 6) 0 rfl rfl hiX0 (by decide) rfl (mg 4 rfl) (Or.inl rfl) rfl ?_
        obtain ⟨f25, ef25⟩ : ∃ f_9, upd fn0 (Int32.toNatClampNeg x7) x3 = f_9 := ⟨_, rfl⟩
        refine r_iast 66 C dX4_call_66 1 rfl (vinI (by omega) (by omega)) f25 ef25 [(h0, .inr (0, [.ref h2, .ref h10, .ref h11, .int x1, .int x2, .long y0, .int x3, .int x4, .int x5, .int x6, .ref h3, .ref h4, .ref h5, .int x7, .int x8])), (h3, .inl (gI g, 10, .inl f25)), (h4, .inl (gI g, 10, .inl fn1)), (h5, .inl (gI g, 10, .inl fn2)), (h6, .inr (4, [.ref h9, .int x14])), (h9, .inl (gB g, 1500, .inl fn4)), (h8, .inl (gJ g, 48, .inr (.inl fm0))), (h1, .inr (7, [.ref h6, .ref h7, .ref h12, .int x9, .int x10, .int x11])), (h7, .inl (gI g, 0, .inl fn3)), (h2, .inr (6, [.ref h8, .ref h13, .int z21, .int x13]))] rfl ?_
        refine r_aload_n 67 1 C dX4_call_67 rfl ?_
        refine r_get 68 C dX4_call_68 (k := 11) 0 rfl rfl hiX0 (by decide) rfl (mg 5 rfl) (Or.inl rfl) rfl ?_
        refine r_aload_n 71 1 C dX4_call_71 rfl ?_
        refine r_get 72 C dX4_call_72 (k := 13) 0 rfl rfl hiX0 (by decide) rfl (mg 2 rfl) (Or.inl rfl) rfl ?_
        refine r_aload_n 75 1 C dX4_call_75 rfl ?_
        refine r_get 76 C dX4_call_76 (k := 7) 0 rfl rfl hiX0 (by decide) rfl (mg 6 rfl) (Or.inl rfl) rfl ?_
        obtain ⟨f26, ef26⟩ : ∃ f_9, upd fn1 (Int32.toNatClampNeg x7) x4 = f_9 := ⟨_, rfl⟩
        refine r_iast 79 C dX4_call_79 2 rfl (vinI (by omega) (by omega)) f26 ef26 [(h0, .inr (0, [.ref h2, .ref h10, .ref h11, .int x1, .int x2, .long y0, .int x3, .int x4, .int x5, .int x6, .ref h3, .ref h4, .ref h5, .int x7, .int x8])), (h3, .inl (gI g, 10, .inl f25)), (h4, .inl (gI g, 10, .inl f26)), (h5, .inl (gI g, 10, .inl fn2)), (h6, .inr (4, [.ref h9, .int x14])), (h9, .inl (gB g, 1500, .inl fn4)), (h8, .inl (gJ g, 48, .inr (.inl fm0))), (h1, .inr (7, [.ref h6, .ref h7, .ref h12, .int x9, .int x10, .int x11])), (h7, .inl (gI g, 0, .inl fn3)), (h2, .inr (6, [.ref h8, .ref h13, .int z21, .int x13]))] rfl ?_
        refine r_aload_n 80 1 C dX4_call_80 rfl ?_
        refine r_get 81 C dX4_call_81 (k := 12) 0 rfl rfl hiX0 (by decide) rfl (mg 7 rfl) (Or.inl rfl) rfl ?_
        refine r_aload_n 84 1 C dX4_call_84 rfl ?_
        refine r_get 85 C dX4_call_85 (k := 13) 0 rfl rfl hiX0 (by decide) rfl (mg 2 rfl) (Or.inl rfl) rfl ?_
        refine r_aload_n 88 1 C dX4_call_88 rfl ?_
        refine r_get 89 C dX4_call_89 (k := 8) 0 rfl rfl hiX0 (by decide) rfl (mg 8 rfl) (Or.inl rfl) rfl ?_
        obtain ⟨f27, ef27⟩ : ∃ f_9, upd fn2 (Int32.toNatClampNeg x7) x5 = f_9 := ⟨_, rfl⟩
        refine r_iast 92 C dX4_call_92 3 rfl (vinI (by omega) (by omega)) f27 ef27 [(h0, .inr (0, [.ref h2, .ref h10, .ref h11, .int x1, .int x2, .long y0, .int x3, .int x4, .int x5, .int x6, .ref h3, .ref h4, .ref h5, .int x7, .int x8])), (h3, .inl (gI g, 10, .inl f25)), (h4, .inl (gI g, 10, .inl f26)), (h5, .inl (gI g, 10, .inl f27)), (h6, .inr (4, [.ref h9, .int x14])), (h9, .inl (gB g, 1500, .inl fn4)), (h8, .inl (gJ g, 48, .inr (.inl fm0))), (h1, .inr (7, [.ref h6, .ref h7, .ref h12, .int x9, .int x10, .int x11])), (h7, .inl (gI g, 0, .inl fn3)), (h2, .inr (6, [.ref h8, .ref h13, .int z21, .int x13]))] rfl ?_
        refine r_aload_n 93 1 C dX4_call_93 rfl ?_
        refine r_dup 94 C dX4_call_94 rfl ?_
        refine r_get 95 C dX4_call_95 (k := 13) 0 rfl rfl hiX0 (by decide) rfl (mg 2 rfl) (Or.inl rfl) rfl ?_
        refine r_iconst 98 1 C dX4_call_98 (by decide) ?_
        obtain ⟨z28, ez28⟩ : ∃ z_9, x7 + 1 = z_9 := ⟨_, rfl⟩
        have tz28 : (Int32.toInt z28) = (Int32.toInt x7) + 1 := by rw [← ez28]; exact fb_addIv (a := 0) (b := 10) (c := 1) (d := 1) i_x7 ⟨by decide, by decide⟩ (by decide) (by decide)
        refine r_iadd 99 z28 C dX4_call_99 ez28 ?_
        refine r_put 100 C dX4_call_100 (k := 13) 0 rfl rfl hiX0 tyX0 tyX0_ok nmX0 (by decide) rfl (mg 2 rfl) (Or.inl rfl) rfl rfl rfl rfl (Nat.le_of_ble_eq_true rfl) [(h0, .inr (0, [.ref h2, .ref h10, .ref h11, .int x1, .int x2, .long y0, .int x3, .int x4, .int x5, .int x6, .ref h3, .ref h4, .ref h5, .int z28, .int x8])), (h3, .inl (gI g, 10, .inl f25)), (h4, .inl (gI g, 10, .inl f26)), (h5, .inl (gI g, 10, .inl f27)), (h6, .inr (4, [.ref h9, .int x14])), (h9, .inl (gB g, 1500, .inl fn4)), (h8, .inl (gJ g, 48, .inr (.inl fm0))), (h1, .inr (7, [.ref h6, .ref h7, .ref h12, .int x9, .int x10, .int x11])), (h7, .inl (gI g, 0, .inl fn3)), (h2, .inr (6, [.ref h8, .ref h13, .int z21, .int x13]))] rfl ?_
        refine r_aload_n 103 1 C dX4_call_103 rfl ?_
        refine r_aload_n 104 2 C dX4_call_104 rfl ?_
        refine r_lload_n 105 0 C dX4_call_105 rfl ?_
        obtain ⟨z29, ez29⟩ : ∃ z_9, Int64.toInt32 z9 = z_9 := ⟨_, rfl⟩
        have gz29 := fb_rng z29
        refine r_l2i 106 z29 C dX4_call_106 ez29 ?_
        refine r_callVi 107 C dX4_call_107 [.ref h0] [(h1, .inr (7, [.ref h6, .ref h7, .ref h12, .int x9, .int x10, .int x11])), (h6, .inr (4, [.ref h9, .int x14])), (h7, .inl (gI g, 0, .inl fn3)), (h9, .inl (gB g, 1500, .inl fn4))] [(h0, .inr (0, [.ref h2, .ref h10, .ref h11, .int x1, .int x2, .long y0, .int x3, .int x4, .int x5, .int x6, .ref h3, .ref h4, .ref h5, .int z28, .int x8])), (h3, .inl (gI g, 10, .inl f25)), (h4, .inl (gI g, 10, .inl f26)), (h5, .inl (gI g, 10, .inl f27)), (h8, .inl (gJ g, 48, .inr (.inl fm0))), (h2, .inr (6, [.ref h8, .ref h13, .int z21, .int x13]))] (fun sz => c38_X8_beginOf l g h1 h6 h7 h9 z29 h12 x9 x10 x11 x14 fn3 fn4 i_x14 sz) gX4_call_X8_beginOf rfl ⟨rfl, rfl⟩ 1 (by decide) ⟨Nat.le_of_ble_eq_true rfl, Nat.le_of_ble_eq_true rfl⟩ 7 rfl rfl [7, 4, 8, 5] [0, 1, 2, 3, 6, 9] rfl rfl (by decide) (by decide) (by decide) rfl rfl (Nat.le_of_ble_eq_true rfl) ⟨Nat.le_of_ble_eq_true rfl, Nat.le_of_ble_eq_true rfl⟩ (fun r30 _ w31 => ?_)
        refine r_ws [(h0, .inr (0, [.ref h2, .ref h10, .ref h11, .int x1, .int x2, .long y0, .int x3, .int x4, .int x5, .int x6, .ref h3, .ref h4, .ref h5, .int z28, .int x8])), (h3, .inl (gI g, 10, .inl f25)), (h4, .inl (gI g, 10, .inl f26)), (h5, .inl (gI g, 10, .inl f27)), (h8, .inl (gJ g, 48, .inr (.inl fm0))), (h2, .inr (6, [.ref h8, .ref h13, .int z21, .int x13])), (h1, .inr (7, [.ref h6, .ref h7, .ref h12, .int x9, .int x10, .int x11])), (h6, .inr (4, [.ref h9, .int x14])), (h7, .inl (gI g, 0, .inl fn3)), (h9, .inl (gB g, 1500, .inl fn4))] rfl ?_
        have p32 : CND (BOK (GB fn4 (Int32.toInt x14)) (Int32.toInt x9) (Int32.toInt x11) (Int32.toInt x10) fn3 0 (Int32.toInt z29)) ((Int32.toInt r30) = BEGE (GB fn4 (Int32.toInt x14)) (Int32.toInt x9) (Int32.toInt x11) (Int32.toInt x10) fn3 (Int32.toInt z29)) := w31
        have gr30 := fb_rng r30
        refine r_put 110 C dX4_call_110 (k := 6) 0 rfl rfl hiX0 tyX0 tyX0_ok nmX0 (by decide) rfl (mg 4 rfl) (Or.inl rfl) rfl rfl rfl rfl (Nat.le_of_ble_eq_true rfl) [(h0, .inr (0, [.ref h2, .ref h10, .ref h11, .int x1, .int x2, .long y0, .int r30, .int x4, .int x5, .int x6, .ref h3, .ref h4, .ref h5, .int z28, .int x8])), (h3, .inl (gI g, 10, .inl f25)), (h4, .inl (gI g, 10, .inl f26)), (h5, .inl (gI g, 10, .inl f27)), (h8, .inl (gJ g, 48, .inr (.inl fm0))), (h2, .inr (6, [.ref h8, .ref h13, .int z21, .int x13])), (h1, .inr (7, [.ref h6, .ref h7, .ref h12, .int x9, .int x10, .int x11])), (h6, .inr (4, [.ref h9, .int x14])), (h7, .inl (gI g, 0, .inl fn3)), (h9, .inl (gB g, 1500, .inl fn4))] rfl ?_
        refine r_aload_n 113 1 C dX4_call_113 rfl ?_
        refine r_aload_n 114 2 C dX4_call_114 rfl ?_
        refine r_lload_n 115 0 C dX4_call_115 rfl ?_
        obtain ⟨z33, ez33⟩ : ∃ z_9, Int64.toInt32 z9 = z_9 := ⟨_, rfl⟩
        have gz33 := fb_rng z33
        refine r_l2i 116 z33 C dX4_call_116 ez33 ?_
        refine r_callVi 117 C dX4_call_117 [.ref h0] [(h1, .inr (7, [.ref h6, .ref h7, .ref h12, .int x9, .int x10, .int x11])), (h6, .inr (4, [.ref h9, .int x14])), (h7, .inl (gI g, 0, .inl fn3)), (h9, .inl (gB g, 1500, .inl fn4))] [(h0, .inr (0, [.ref h2, .ref h10, .ref h11, .int x1, .int x2, .long y0, .int r30, .int x4, .int x5, .int x6, .ref h3, .ref h4, .ref h5, .int z28, .int x8])), (h3, .inl (gI g, 10, .inl f25)), (h4, .inl (gI g, 10, .inl f26)), (h5, .inl (gI g, 10, .inl f27)), (h8, .inl (gJ g, 48, .inr (.inl fm0))), (h2, .inr (6, [.ref h8, .ref h13, .int z21, .int x13]))] (fun sz => c37_X8_finishOf l g h1 h6 h7 h9 z33 h12 x9 x10 x11 x14 fn3 fn4 i_x14 sz) gX4_call_X8_finishOf rfl ⟨rfl, rfl⟩ 1 (by decide) ⟨Nat.le_of_ble_eq_true rfl, Nat.le_of_ble_eq_true rfl⟩ 6 rfl rfl [6, 7, 8, 9] [0, 1, 2, 3, 4, 5] rfl rfl (by decide) (by decide) (by decide) rfl rfl (Nat.le_of_ble_eq_true rfl) ⟨Nat.le_of_ble_eq_true rfl, Nat.le_of_ble_eq_true rfl⟩ (fun r34 _ w35 => ?_)
        refine r_ws [(h0, .inr (0, [.ref h2, .ref h10, .ref h11, .int x1, .int x2, .long y0, .int r30, .int x4, .int x5, .int x6, .ref h3, .ref h4, .ref h5, .int z28, .int x8])), (h3, .inl (gI g, 10, .inl f25)), (h4, .inl (gI g, 10, .inl f26)), (h5, .inl (gI g, 10, .inl f27)), (h8, .inl (gJ g, 48, .inr (.inl fm0))), (h2, .inr (6, [.ref h8, .ref h13, .int z21, .int x13])), (h1, .inr (7, [.ref h6, .ref h7, .ref h12, .int x9, .int x10, .int x11])), (h6, .inr (4, [.ref h9, .int x14])), (h7, .inl (gI g, 0, .inl fn3)), (h9, .inl (gB g, 1500, .inl fn4))] rfl ?_
        have p36 : CND (FOK (GB fn4 (Int32.toInt x14)) (Int32.toInt x9) (Int32.toInt x11) (Int32.toInt x10) fn3 nof 0 (Int32.toInt z33)) ((Int32.toInt r34) = FINE (GB fn4 (Int32.toInt x14)) (Int32.toInt x9) (Int32.toInt x11) (Int32.toInt x10) nof (Int32.toInt z33)) := w35
        have gr34 := fb_rng r34
        refine r_put 120 C dX4_call_120 (k := 7) 0 rfl rfl hiX0 tyX0 tyX0_ok nmX0 (by decide) rfl (mg 6 rfl) (Or.inl rfl) rfl rfl rfl rfl (Nat.le_of_ble_eq_true rfl) [(h0, .inr (0, [.ref h2, .ref h10, .ref h11, .int x1, .int x2, .long y0, .int r30, .int r34, .int x5, .int x6, .ref h3, .ref h4, .ref h5, .int z28, .int x8])), (h3, .inl (gI g, 10, .inl f25)), (h4, .inl (gI g, 10, .inl f26)), (h5, .inl (gI g, 10, .inl f27)), (h8, .inl (gJ g, 48, .inr (.inl fm0))), (h2, .inr (6, [.ref h8, .ref h13, .int z21, .int x13])), (h1, .inr (7, [.ref h6, .ref h7, .ref h12, .int x9, .int x10, .int x11])), (h6, .inr (4, [.ref h9, .int x14])), (h7, .inl (gI g, 0, .inl fn3)), (h9, .inl (gB g, 1500, .inl fn4))] rfl ?_
        refine r_aload_n 123 1 C dX4_call_123 rfl ?_
        refine r_aload_n 124 1 C dX4_call_124 rfl ?_
        refine r_get 125 C dX4_call_125 (k := 6) 0 rfl rfl hiX0 (by decide) rfl (mg 4 rfl) (Or.inl rfl) rfl ?_
        refine r_put 128 C dX4_call_128 (k := 8) 0 rfl rfl hiX0 tyX0 tyX0_ok nmX0 (by decide) rfl (mg 8 rfl) (Or.inl rfl) rfl rfl rfl rfl (Nat.le_of_ble_eq_true rfl) [(h0, .inr (0, [.ref h2, .ref h10, .ref h11, .int x1, .int x2, .long y0, .int r30, .int r34, .int r30, .int x6, .ref h3, .ref h4, .ref h5, .int z28, .int x8])), (h3, .inl (gI g, 10, .inl f25)), (h4, .inl (gI g, 10, .inl f26)), (h5, .inl (gI g, 10, .inl f27)), (h8, .inl (gJ g, 48, .inr (.inl fm0))), (h2, .inr (6, [.ref h8, .ref h13, .int z21, .int x13])), (h1, .inr (7, [.ref h6, .ref h7, .ref h12, .int x9, .int x10, .int x11])), (h6, .inr (4, [.ref h9, .int x14])), (h7, .inl (gI g, 0, .inl fn3)), (h9, .inl (gB g, 1500, .inl fn4))] rfl ?_
        refine r_iconst 131 0 C dX4_call_131 (by decide) ?_
        exact r_iret 132 Rt dX4_call_132 (r30, r34, r30, z28, z21, f25, f26, f27) (show 0 ≤ (Int32.toInt 0) ∧ (Int32.toInt 0) ≤ 5 ∧ 0 ≤ (Int32.toInt z28) ∧ (Int32.toInt z28) ≤ 10 ∧ 0 ≤ (Int32.toInt z21) ∧ (Int32.toInt z21) ≤ 48 from ⟨(by ((repeat' apply And.intro) <;> first | trivial | rfl | assumption | omega | decide | exact Or.inl rfl | exact Or.inr (Or.inl rfl) | exact Or.inr (Or.inr rfl))), (by ((repeat' apply And.intro) <;> first | trivial | rfl | assumption | omega | decide | exact Or.inl rfl | exact Or.inr (Or.inl rfl) | exact Or.inr (Or.inr rfl))), (by ((repeat' apply And.intro) <;> first | trivial | rfl | assumption | omega | decide | exact Or.inl rfl | exact Or.inr (Or.inl rfl) | exact Or.inr (Or.inr rfl))), (by ((repeat' apply And.intro) <;> first | trivial | rfl | assumption | omega | decide | exact Or.inl rfl | exact Or.inr (Or.inl rfl) | exact Or.inr (Or.inr rfl))), (show _ ∧ _ from ⟨p23, p24⟩).1, (show _ ∧ _ from ⟨p23, p24⟩).2⟩) [0, 6, 5, 1, 2, 3, 7, 8, 4, 9] (by decide) rfl (Nat.le_of_ble_eq_true rfl) (Nat.le_of_ble_eq_true rfl)
      · skip
        have k37 : ¬ ((Int32.toInt x7) < 10) := fun h_9 => c19 ((fa_lt x7 10).mpr h_9)
        refine r_iconst 44 5 C dX4_call_44 (by decide) ?_
        exact r_iret 45 Rt dX4_call_45 (x3, x4, x5, x7, x12, fn0, fn1, fn2) (show 0 ≤ (Int32.toInt 5) ∧ (Int32.toInt 5) ≤ 5 ∧ 0 ≤ (Int32.toInt x7) ∧ (Int32.toInt x7) ≤ 10 ∧ 0 ≤ (Int32.toInt x12) ∧ (Int32.toInt x12) ≤ 48 from ⟨(by ((repeat' apply And.intro) <;> first | trivial | rfl | assumption | omega | decide | exact Or.inl rfl | exact Or.inr (Or.inl rfl) | exact Or.inr (Or.inr rfl))), (by ((repeat' apply And.intro) <;> first | trivial | rfl | assumption | omega | decide | exact Or.inl rfl | exact Or.inr (Or.inl rfl) | exact Or.inr (Or.inr rfl))), i_x7.1, i_x7.2, i_x12.1, i_x12.2⟩) [0, 8, 6, 1, 2, 3, 4, 9, 7, 5] (by decide) rfl (Nat.le_of_ble_eq_true rfl) (Nat.le_of_ble_eq_true rfl)
    rcases w13 with ⟨k38, k39, k40⟩ | w13
    · skip
      have k40 := k40.symm
      subst k40
      refine r_if_ne_f 30 35 C dX4_call_30 (by decide) (by decide) ?_
      refine r_iconst 33 4 C dX4_call_33 (by decide) ?_
      exact r_iret 34 Rt dX4_call_34 (x3, x4, x5, x7, x12, fn0, fn1, fn2) (show 0 ≤ (Int32.toInt 4) ∧ (Int32.toInt 4) ≤ 5 ∧ 0 ≤ (Int32.toInt x7) ∧ (Int32.toInt x7) ≤ 10 ∧ 0 ≤ (Int32.toInt x12) ∧ (Int32.toInt x12) ≤ 48 from ⟨(by ((repeat' apply And.intro) <;> first | trivial | rfl | assumption | omega | decide | exact Or.inl rfl | exact Or.inr (Or.inl rfl) | exact Or.inr (Or.inr rfl))), (by ((repeat' apply And.intro) <;> first | trivial | rfl | assumption | omega | decide | exact Or.inl rfl | exact Or.inr (Or.inl rfl) | exact Or.inr (Or.inr rfl))), i_x7.1, i_x7.2, i_x12.1, i_x12.2⟩) [0, 8, 6, 1, 2, 3, 4, 9, 7, 5] (by decide) rfl (Nat.le_of_ble_eq_true rfl) (Nat.le_of_ble_eq_true rfl)
    obtain ⟨k41, k42⟩ := w13
    have k42 := k42.symm
    subst k42
    refine r_if_ne_f 30 35 C dX4_call_30 (by decide) (by decide) ?_
    refine r_iconst 33 4 C dX4_call_33 (by decide) ?_
    exact r_iret 34 Rt dX4_call_34 (x3, x4, x5, x7, x12, fn0, fn1, fn2) (show 0 ≤ (Int32.toInt 4) ∧ (Int32.toInt 4) ≤ 5 ∧ 0 ≤ (Int32.toInt x7) ∧ (Int32.toInt x7) ≤ 10 ∧ 0 ≤ (Int32.toInt x12) ∧ (Int32.toInt x12) ≤ 48 from ⟨(by ((repeat' apply And.intro) <;> first | trivial | rfl | assumption | omega | decide | exact Or.inl rfl | exact Or.inr (Or.inl rfl) | exact Or.inr (Or.inr rfl))), (by ((repeat' apply And.intro) <;> first | trivial | rfl | assumption | omega | decide | exact Or.inl rfl | exact Or.inr (Or.inl rfl) | exact Or.inr (Or.inr rfl))), i_x7.1, i_x7.2, i_x12.1, i_x12.2⟩) [0, 8, 6, 1, 2, 3, 4, 9, 7, 5] (by decide) rfl (Nat.le_of_ble_eq_true rfl) (Nat.le_of_ble_eq_true rfl)
  · skip
    have k43 : ¬ (1 ≤ (Int32.toInt x12)) := fun h_9 => c4 ((fa_le 1 x12).mpr h_9)
    refine r_iconst 11 2 C dX4_call_11 (by decide) ?_
    exact r_iret 12 Rt dX4_call_12 (x3, x4, x5, x7, x12, fn0, fn1, fn2) (show 0 ≤ (Int32.toInt 2) ∧ (Int32.toInt 2) ≤ 5 ∧ 0 ≤ (Int32.toInt x7) ∧ (Int32.toInt x7) ≤ 10 ∧ 0 ≤ (Int32.toInt x12) ∧ (Int32.toInt x12) ≤ 48 from ⟨(by ((repeat' apply And.intro) <;> first | trivial | rfl | assumption | omega | decide | exact Or.inl rfl | exact Or.inr (Or.inl rfl) | exact Or.inr (Or.inr rfl))), (by ((repeat' apply And.intro) <;> first | trivial | rfl | assumption | omega | decide | exact Or.inl rfl | exact Or.inr (Or.inl rfl) | exact Or.inr (Or.inr rfl))), i_x7.1, i_x7.2, i_x12.1, i_x12.2⟩) [0, 1, 9, 2, 3, 4, 5, 6, 7, 8] (by decide) rfl (Nat.le_of_ble_eq_true rfl) (Nat.le_of_ble_eq_true rfl)
set_option maxHeartbeats 4000000 in
set_option maxRecDepth 100000 in
theorem c274_X0_mayTellWidth (l : Launch) (g : GD) (x0 : Int32) (sz : Nat) : Met l yX0_mayTellWidth wsX0_mayTellWidth ({ frames := 0, cells := 0, slots := 0, locals := 0 }) (va_Pc [.int x0] (PW g [] sz)) (va_Qi (fun (r : Int32) (_ : Unit) => 0 ≤ (Int32.toInt r) ∧ (Int32.toInt r) ≤ 1) (BW g (va_A [] sz) (fun _ : Unit => [])) (va_A [] sz)) 0 0 (va_A [] sz) := by
  refine met_z RX0 (by decide) rfl rfl (Nat.le_of_ble_eq_true rfl) [(0, .int x0)] rfl ?_
  intro p e s m args below meth c A Q C hnm Rt
  have gx0 := fb_rng x0
  refine r_iload_n 0 0 C dX0_mayTellWidth_0 rfl ?_
  by_cases c1 : x0 = 1
  · skip
    have k2 : (Int32.toInt x0) = 1 := (fa_eq x0 1).mp c1
    refine r_tableIn 1 108 1 C dX0_mayTellWidth_1 c1 (by decide) (by decide) rfl (by decide) ?_
    refine r_iconst 108 1 C dX0_mayTellWidth_108 (by decide) ?_
    exact r_zret 109 Rt dX0_mayTellWidth_109 (by decide) () (show 0 ≤ (Int32.toInt 1) ∧ (Int32.toInt 1) ≤ 1 from ⟨(by ((repeat' apply And.intro) <;> first | trivial | rfl | assumption | omega | decide | exact Or.inl rfl | exact Or.inr (Or.inl rfl) | exact Or.inr (Or.inr rfl))), (by ((repeat' apply And.intro) <;> first | trivial | rfl | assumption | omega | decide | exact Or.inl rfl | exact Or.inr (Or.inl rfl) | exact Or.inr (Or.inr rfl)))⟩) [] (by decide) rfl (Nat.le_of_ble_eq_true rfl) (Nat.le_of_ble_eq_true rfl)
  · skip
    have k3 : ¬ ((Int32.toInt x0) = 1) := fun h_9 => c1 ((fa_eq x0 1).mpr h_9)
    by_cases c4 : x0 = 2
    · skip
      have k5 : (Int32.toInt x0) = 2 := (fa_eq x0 2).mp c4
      refine r_tableIn 1 110 2 C dX0_mayTellWidth_1 c4 (by decide) (by decide) rfl (by decide) ?_
      refine r_iconst 110 0 C dX0_mayTellWidth_110 (by decide) ?_
      exact r_zret 111 Rt dX0_mayTellWidth_111 (by decide) () (show 0 ≤ (Int32.toInt 0) ∧ (Int32.toInt 0) ≤ 1 from ⟨(by ((repeat' apply And.intro) <;> first | trivial | rfl | assumption | omega | decide | exact Or.inl rfl | exact Or.inr (Or.inl rfl) | exact Or.inr (Or.inr rfl))), (by ((repeat' apply And.intro) <;> first | trivial | rfl | assumption | omega | decide | exact Or.inl rfl | exact Or.inr (Or.inl rfl) | exact Or.inr (Or.inr rfl)))⟩) [] (by decide) rfl (Nat.le_of_ble_eq_true rfl) (Nat.le_of_ble_eq_true rfl)
    · skip
      have k6 : ¬ ((Int32.toInt x0) = 2) := fun h_9 => c4 ((fa_eq x0 2).mpr h_9)
      by_cases c7 : x0 = 3
      · skip
        have k8 : (Int32.toInt x0) = 3 := (fa_eq x0 3).mp c7
        refine r_tableIn 1 108 3 C dX0_mayTellWidth_1 c7 (by decide) (by decide) rfl (by decide) ?_
        refine r_iconst 108 1 C dX0_mayTellWidth_108 (by decide) ?_
        exact r_zret 109 Rt dX0_mayTellWidth_109 (by decide) () (show 0 ≤ (Int32.toInt 1) ∧ (Int32.toInt 1) ≤ 1 from ⟨(by ((repeat' apply And.intro) <;> first | trivial | rfl | assumption | omega | decide | exact Or.inl rfl | exact Or.inr (Or.inl rfl) | exact Or.inr (Or.inr rfl))), (by ((repeat' apply And.intro) <;> first | trivial | rfl | assumption | omega | decide | exact Or.inl rfl | exact Or.inr (Or.inl rfl) | exact Or.inr (Or.inr rfl)))⟩) [] (by decide) rfl (Nat.le_of_ble_eq_true rfl) (Nat.le_of_ble_eq_true rfl)
      · skip
        have k9 : ¬ ((Int32.toInt x0) = 3) := fun h_9 => c7 ((fa_eq x0 3).mpr h_9)
        by_cases c10 : x0 = 4
        · skip
          have k11 : (Int32.toInt x0) = 4 := (fa_eq x0 4).mp c10
          refine r_tableIn 1 108 4 C dX0_mayTellWidth_1 c10 (by decide) (by decide) rfl (by decide) ?_
          refine r_iconst 108 1 C dX0_mayTellWidth_108 (by decide) ?_
          exact r_zret 109 Rt dX0_mayTellWidth_109 (by decide) () (show 0 ≤ (Int32.toInt 1) ∧ (Int32.toInt 1) ≤ 1 from ⟨(by ((repeat' apply And.intro) <;> first | trivial | rfl | assumption | omega | decide | exact Or.inl rfl | exact Or.inr (Or.inl rfl) | exact Or.inr (Or.inr rfl))), (by ((repeat' apply And.intro) <;> first | trivial | rfl | assumption | omega | decide | exact Or.inl rfl | exact Or.inr (Or.inl rfl) | exact Or.inr (Or.inr rfl)))⟩) [] (by decide) rfl (Nat.le_of_ble_eq_true rfl) (Nat.le_of_ble_eq_true rfl)
        · skip
          have k12 : ¬ ((Int32.toInt x0) = 4) := fun h_9 => c10 ((fa_eq x0 4).mpr h_9)
          by_cases c13 : x0 = 5
          · skip
            have k14 : (Int32.toInt x0) = 5 := (fa_eq x0 5).mp c13
            refine r_tableIn 1 110 5 C dX0_mayTellWidth_1 c13 (by decide) (by decide) rfl (by decide) ?_
            refine r_iconst 110 0 C dX0_mayTellWidth_110 (by decide) ?_
            exact r_zret 111 Rt dX0_mayTellWidth_111 (by decide) () (show 0 ≤ (Int32.toInt 0) ∧ (Int32.toInt 0) ≤ 1 from ⟨(by ((repeat' apply And.intro) <;> first | trivial | rfl | assumption | omega | decide | exact Or.inl rfl | exact Or.inr (Or.inl rfl) | exact Or.inr (Or.inr rfl))), (by ((repeat' apply And.intro) <;> first | trivial | rfl | assumption | omega | decide | exact Or.inl rfl | exact Or.inr (Or.inl rfl) | exact Or.inr (Or.inr rfl)))⟩) [] (by decide) rfl (Nat.le_of_ble_eq_true rfl) (Nat.le_of_ble_eq_true rfl)
          · skip
            have k15 : ¬ ((Int32.toInt x0) = 5) := fun h_9 => c13 ((fa_eq x0 5).mpr h_9)
            by_cases c16 : x0 = 6
            · skip
              have k17 : (Int32.toInt x0) = 6 := (fa_eq x0 6).mp c16
              refine r_tableIn 1 110 6 C dX0_mayTellWidth_1 c16 (by decide) (by decide) rfl (by decide) ?_
              refine r_iconst 110 0 C dX0_mayTellWidth_110 (by decide) ?_
              exact r_zret 111 Rt dX0_mayTellWidth_111 (by decide) () (show 0 ≤ (Int32.toInt 0) ∧ (Int32.toInt 0) ≤ 1 from ⟨(by ((repeat' apply And.intro) <;> first | trivial | rfl | assumption | omega | decide | exact Or.inl rfl | exact Or.inr (Or.inl rfl) | exact Or.inr (Or.inr rfl))), (by ((repeat' apply And.intro) <;> first | trivial | rfl | assumption | omega | decide | exact Or.inl rfl | exact Or.inr (Or.inl rfl) | exact Or.inr (Or.inr rfl)))⟩) [] (by decide) rfl (Nat.le_of_ble_eq_true rfl) (Nat.le_of_ble_eq_true rfl)
            · skip
              have k18 : ¬ ((Int32.toInt x0) = 6) := fun h_9 => c16 ((fa_eq x0 6).mpr h_9)
              by_cases c19 : x0 = 7
              · skip
                have k20 : (Int32.toInt x0) = 7 := (fa_eq x0 7).mp c19
                refine r_tableIn 1 110 7 C dX0_mayTellWidth_1 c19 (by decide) (by decide) rfl (by decide) ?_
                refine r_iconst 110 0 C dX0_mayTellWidth_110 (by decide) ?_
                exact r_zret 111 Rt dX0_mayTellWidth_111 (by decide) () (show 0 ≤ (Int32.toInt 0) ∧ (Int32.toInt 0) ≤ 1 from ⟨(by ((repeat' apply And.intro) <;> first | trivial | rfl | assumption | omega | decide | exact Or.inl rfl | exact Or.inr (Or.inl rfl) | exact Or.inr (Or.inr rfl))), (by ((repeat' apply And.intro) <;> first | trivial | rfl | assumption | omega | decide | exact Or.inl rfl | exact Or.inr (Or.inl rfl) | exact Or.inr (Or.inr rfl)))⟩) [] (by decide) rfl (Nat.le_of_ble_eq_true rfl) (Nat.le_of_ble_eq_true rfl)
              · skip
                have k21 : ¬ ((Int32.toInt x0) = 7) := fun h_9 => c19 ((fa_eq x0 7).mpr h_9)
                by_cases c22 : x0 = 8
                · skip
                  have k23 : (Int32.toInt x0) = 8 := (fa_eq x0 8).mp c22
                  refine r_tableIn 1 110 8 C dX0_mayTellWidth_1 c22 (by decide) (by decide) rfl (by decide) ?_
                  refine r_iconst 110 0 C dX0_mayTellWidth_110 (by decide) ?_
                  exact r_zret 111 Rt dX0_mayTellWidth_111 (by decide) () (show 0 ≤ (Int32.toInt 0) ∧ (Int32.toInt 0) ≤ 1 from ⟨(by ((repeat' apply And.intro) <;> first | trivial | rfl | assumption | omega | decide | exact Or.inl rfl | exact Or.inr (Or.inl rfl) | exact Or.inr (Or.inr rfl))), (by ((repeat' apply And.intro) <;> first | trivial | rfl | assumption | omega | decide | exact Or.inl rfl | exact Or.inr (Or.inl rfl) | exact Or.inr (Or.inr rfl)))⟩) [] (by decide) rfl (Nat.le_of_ble_eq_true rfl) (Nat.le_of_ble_eq_true rfl)
                · skip
                  have k24 : ¬ ((Int32.toInt x0) = 8) := fun h_9 => c22 ((fa_eq x0 8).mpr h_9)
                  by_cases c25 : x0 = 9
                  · skip
                    have k26 : (Int32.toInt x0) = 9 := (fa_eq x0 9).mp c25
                    refine r_tableIn 1 110 9 C dX0_mayTellWidth_1 c25 (by decide) (by decide) rfl (by decide) ?_
                    refine r_iconst 110 0 C dX0_mayTellWidth_110 (by decide) ?_
                    exact r_zret 111 Rt dX0_mayTellWidth_111 (by decide) () (show 0 ≤ (Int32.toInt 0) ∧ (Int32.toInt 0) ≤ 1 from ⟨(by ((repeat' apply And.intro) <;> first | trivial | rfl | assumption | omega | decide | exact Or.inl rfl | exact Or.inr (Or.inl rfl) | exact Or.inr (Or.inr rfl))), (by ((repeat' apply And.intro) <;> first | trivial | rfl | assumption | omega | decide | exact Or.inl rfl | exact Or.inr (Or.inl rfl) | exact Or.inr (Or.inr rfl)))⟩) [] (by decide) rfl (Nat.le_of_ble_eq_true rfl) (Nat.le_of_ble_eq_true rfl)
                  · skip
                    have k27 : ¬ ((Int32.toInt x0) = 9) := fun h_9 => c25 ((fa_eq x0 9).mpr h_9)
                    by_cases c28 : x0 = 10
                    · skip
                      have k29 : (Int32.toInt x0) = 10 := (fa_eq x0 10).mp c28
                      refine r_tableIn 1 110 10 C dX0_mayTellWidth_1 c28 (by decide) (by decide) rfl (by decide) ?_
                      refine r_iconst 110 0 C dX0_mayTellWidth_110 (by decide) ?_
                      exact r_zret 111 Rt dX0_mayTellWidth_111 (by decide) () (show 0 ≤ (Int32.toInt 0) ∧ (Int32.toInt 0) ≤ 1 from ⟨(by ((repeat' apply And.intro) <;> first | trivial | rfl | assumption | omega | decide | exact Or.inl rfl | exact Or.inr (Or.inl rfl) | exact Or.inr (Or.inr rfl))), (by ((repeat' apply And.intro) <;> first | trivial | rfl | assumption | omega | decide | exact Or.inl rfl | exact Or.inr (Or.inl rfl) | exact Or.inr (Or.inr rfl)))⟩) [] (by decide) rfl (Nat.le_of_ble_eq_true rfl) (Nat.le_of_ble_eq_true rfl)
                    · skip
                      have k30 : ¬ ((Int32.toInt x0) = 10) := fun h_9 => c28 ((fa_eq x0 10).mpr h_9)
                      by_cases c31 : x0 = 11
                      · skip
                        have k32 : (Int32.toInt x0) = 11 := (fa_eq x0 11).mp c31
                        refine r_tableIn 1 110 11 C dX0_mayTellWidth_1 c31 (by decide) (by decide) rfl (by decide) ?_
                        refine r_iconst 110 0 C dX0_mayTellWidth_110 (by decide) ?_
                        exact r_zret 111 Rt dX0_mayTellWidth_111 (by decide) () (show 0 ≤ (Int32.toInt 0) ∧ (Int32.toInt 0) ≤ 1 from ⟨(by ((repeat' apply And.intro) <;> first | trivial | rfl | assumption | omega | decide | exact Or.inl rfl | exact Or.inr (Or.inl rfl) | exact Or.inr (Or.inr rfl))), (by ((repeat' apply And.intro) <;> first | trivial | rfl | assumption | omega | decide | exact Or.inl rfl | exact Or.inr (Or.inl rfl) | exact Or.inr (Or.inr rfl)))⟩) [] (by decide) rfl (Nat.le_of_ble_eq_true rfl) (Nat.le_of_ble_eq_true rfl)
                      · skip
                        have k33 : ¬ ((Int32.toInt x0) = 11) := fun h_9 => c31 ((fa_eq x0 11).mpr h_9)
                        by_cases c34 : x0 = 12
                        · skip
                          have k35 : (Int32.toInt x0) = 12 := (fa_eq x0 12).mp c34
                          refine r_tableIn 1 110 12 C dX0_mayTellWidth_1 c34 (by decide) (by decide) rfl (by decide) ?_
                          refine r_iconst 110 0 C dX0_mayTellWidth_110 (by decide) ?_
                          exact r_zret 111 Rt dX0_mayTellWidth_111 (by decide) () (show 0 ≤ (Int32.toInt 0) ∧ (Int32.toInt 0) ≤ 1 from ⟨(by ((repeat' apply And.intro) <;> first | trivial | rfl | assumption | omega | decide | exact Or.inl rfl | exact Or.inr (Or.inl rfl) | exact Or.inr (Or.inr rfl))), (by ((repeat' apply And.intro) <;> first | trivial | rfl | assumption | omega | decide | exact Or.inl rfl | exact Or.inr (Or.inl rfl) | exact Or.inr (Or.inr rfl)))⟩) [] (by decide) rfl (Nat.le_of_ble_eq_true rfl) (Nat.le_of_ble_eq_true rfl)
                        · skip
                          have k36 : ¬ ((Int32.toInt x0) = 12) := fun h_9 => c34 ((fa_eq x0 12).mpr h_9)
                          by_cases c37 : x0 = 13
                          · skip
                            have k38 : (Int32.toInt x0) = 13 := (fa_eq x0 13).mp c37
                            refine r_tableIn 1 110 13 C dX0_mayTellWidth_1 c37 (by decide) (by decide) rfl (by decide) ?_
                            refine r_iconst 110 0 C dX0_mayTellWidth_110 (by decide) ?_
                            exact r_zret 111 Rt dX0_mayTellWidth_111 (by decide) () (show 0 ≤ (Int32.toInt 0) ∧ (Int32.toInt 0) ≤ 1 from ⟨(by ((repeat' apply And.intro) <;> first | trivial | rfl | assumption | omega | decide | exact Or.inl rfl | exact Or.inr (Or.inl rfl) | exact Or.inr (Or.inr rfl))), (by ((repeat' apply And.intro) <;> first | trivial | rfl | assumption | omega | decide | exact Or.inl rfl | exact Or.inr (Or.inl rfl) | exact Or.inr (Or.inr rfl)))⟩) [] (by decide) rfl (Nat.le_of_ble_eq_true rfl) (Nat.le_of_ble_eq_true rfl)
                          · skip
                            have k39 : ¬ ((Int32.toInt x0) = 13) := fun h_9 => c37 ((fa_eq x0 13).mpr h_9)
                            by_cases c40 : x0 = 14
                            · skip
                              have k41 : (Int32.toInt x0) = 14 := (fa_eq x0 14).mp c40
                              refine r_tableIn 1 108 14 C dX0_mayTellWidth_1 c40 (by decide) (by decide) rfl (by decide) ?_
                              refine r_iconst 108 1 C dX0_mayTellWidth_108 (by decide) ?_
                              exact r_zret 109 Rt dX0_mayTellWidth_109 (by decide) () (show 0 ≤ (Int32.toInt 1) ∧ (Int32.toInt 1) ≤ 1 from ⟨(by ((repeat' apply And.intro) <;> first | trivial | rfl | assumption | omega | decide | exact Or.inl rfl | exact Or.inr (Or.inl rfl) | exact Or.inr (Or.inr rfl))), (by ((repeat' apply And.intro) <;> first | trivial | rfl | assumption | omega | decide | exact Or.inl rfl | exact Or.inr (Or.inl rfl) | exact Or.inr (Or.inr rfl)))⟩) [] (by decide) rfl (Nat.le_of_ble_eq_true rfl) (Nat.le_of_ble_eq_true rfl)
                            · skip
                              have k42 : ¬ ((Int32.toInt x0) = 14) := fun h_9 => c40 ((fa_eq x0 14).mpr h_9)
                              by_cases c43 : x0 = 15
                              · skip
                                have k44 : (Int32.toInt x0) = 15 := (fa_eq x0 15).mp c43
                                refine r_tableIn 1 110 15 C dX0_mayTellWidth_1 c43 (by decide) (by decide) rfl (by decide) ?_
                                refine r_iconst 110 0 C dX0_mayTellWidth_110 (by decide) ?_
                                exact r_zret 111 Rt dX0_mayTellWidth_111 (by decide) () (show 0 ≤ (Int32.toInt 0) ∧ (Int32.toInt 0) ≤ 1 from ⟨(by ((repeat' apply And.intro) <;> first | trivial | rfl | assumption | omega | decide | exact Or.inl rfl | exact Or.inr (Or.inl rfl) | exact Or.inr (Or.inr rfl))), (by ((repeat' apply And.intro) <;> first | trivial | rfl | assumption | omega | decide | exact Or.inl rfl | exact Or.inr (Or.inl rfl) | exact Or.inr (Or.inr rfl)))⟩) [] (by decide) rfl (Nat.le_of_ble_eq_true rfl) (Nat.le_of_ble_eq_true rfl)
                              · skip
                                have k45 : ¬ ((Int32.toInt x0) = 15) := fun h_9 => c43 ((fa_eq x0 15).mpr h_9)
                                by_cases c46 : x0 = 16
                                · skip
                                  have k47 : (Int32.toInt x0) = 16 := (fa_eq x0 16).mp c46
                                  refine r_tableIn 1 110 16 C dX0_mayTellWidth_1 c46 (by decide) (by decide) rfl (by decide) ?_
                                  refine r_iconst 110 0 C dX0_mayTellWidth_110 (by decide) ?_
                                  exact r_zret 111 Rt dX0_mayTellWidth_111 (by decide) () (show 0 ≤ (Int32.toInt 0) ∧ (Int32.toInt 0) ≤ 1 from ⟨(by ((repeat' apply And.intro) <;> first | trivial | rfl | assumption | omega | decide | exact Or.inl rfl | exact Or.inr (Or.inl rfl) | exact Or.inr (Or.inr rfl))), (by ((repeat' apply And.intro) <;> first | trivial | rfl | assumption | omega | decide | exact Or.inl rfl | exact Or.inr (Or.inl rfl) | exact Or.inr (Or.inr rfl)))⟩) [] (by decide) rfl (Nat.le_of_ble_eq_true rfl) (Nat.le_of_ble_eq_true rfl)
                                · skip
                                  have k48 : ¬ ((Int32.toInt x0) = 16) := fun h_9 => c46 ((fa_eq x0 16).mpr h_9)
                                  by_cases c49 : x0 = 17
                                  · skip
                                    have k50 : (Int32.toInt x0) = 17 := (fa_eq x0 17).mp c49
                                    refine r_tableIn 1 110 17 C dX0_mayTellWidth_1 c49 (by decide) (by decide) rfl (by decide) ?_
                                    refine r_iconst 110 0 C dX0_mayTellWidth_110 (by decide) ?_
                                    exact r_zret 111 Rt dX0_mayTellWidth_111 (by decide) () (show 0 ≤ (Int32.toInt 0) ∧ (Int32.toInt 0) ≤ 1 from ⟨(by ((repeat' apply And.intro) <;> first | trivial | rfl | assumption | omega | decide | exact Or.inl rfl | exact Or.inr (Or.inl rfl) | exact Or.inr (Or.inr rfl))), (by ((repeat' apply And.intro) <;> first | trivial | rfl | assumption | omega | decide | exact Or.inl rfl | exact Or.inr (Or.inl rfl) | exact Or.inr (Or.inr rfl)))⟩) [] (by decide) rfl (Nat.le_of_ble_eq_true rfl) (Nat.le_of_ble_eq_true rfl)
                                  · skip
                                    have k51 : ¬ ((Int32.toInt x0) = 17) := fun h_9 => c49 ((fa_eq x0 17).mpr h_9)
                                    by_cases c52 : x0 = 18
                                    · skip
                                      have k53 : (Int32.toInt x0) = 18 := (fa_eq x0 18).mp c52
                                      refine r_tableIn 1 108 18 C dX0_mayTellWidth_1 c52 (by decide) (by decide) rfl (by decide) ?_
                                      refine r_iconst 108 1 C dX0_mayTellWidth_108 (by decide) ?_
                                      exact r_zret 109 Rt dX0_mayTellWidth_109 (by decide) () (show 0 ≤ (Int32.toInt 1) ∧ (Int32.toInt 1) ≤ 1 from ⟨(by ((repeat' apply And.intro) <;> first | trivial | rfl | assumption | omega | decide | exact Or.inl rfl | exact Or.inr (Or.inl rfl) | exact Or.inr (Or.inr rfl))), (by ((repeat' apply And.intro) <;> first | trivial | rfl | assumption | omega | decide | exact Or.inl rfl | exact Or.inr (Or.inl rfl) | exact Or.inr (Or.inr rfl)))⟩) [] (by decide) rfl (Nat.le_of_ble_eq_true rfl) (Nat.le_of_ble_eq_true rfl)
                                    · skip
                                      have k54 : ¬ ((Int32.toInt x0) = 18) := fun h_9 => c52 ((fa_eq x0 18).mpr h_9)
                                      by_cases c55 : x0 = 19
                                      · skip
                                        have k56 : (Int32.toInt x0) = 19 := (fa_eq x0 19).mp c55
                                        refine r_tableIn 1 108 19 C dX0_mayTellWidth_1 c55 (by decide) (by decide) rfl (by decide) ?_
                                        refine r_iconst 108 1 C dX0_mayTellWidth_108 (by decide) ?_
                                        exact r_zret 109 Rt dX0_mayTellWidth_109 (by decide) () (show 0 ≤ (Int32.toInt 1) ∧ (Int32.toInt 1) ≤ 1 from ⟨(by ((repeat' apply And.intro) <;> first | trivial | rfl | assumption | omega | decide | exact Or.inl rfl | exact Or.inr (Or.inl rfl) | exact Or.inr (Or.inr rfl))), (by ((repeat' apply And.intro) <;> first | trivial | rfl | assumption | omega | decide | exact Or.inl rfl | exact Or.inr (Or.inl rfl) | exact Or.inr (Or.inr rfl)))⟩) [] (by decide) rfl (Nat.le_of_ble_eq_true rfl) (Nat.le_of_ble_eq_true rfl)
                                      · skip
                                        have k57 : ¬ ((Int32.toInt x0) = 19) := fun h_9 => c55 ((fa_eq x0 19).mpr h_9)
                                        by_cases c58 : x0 = 20
                                        · skip
                                          have k59 : (Int32.toInt x0) = 20 := (fa_eq x0 20).mp c58
                                          refine r_tableIn 1 108 20 C dX0_mayTellWidth_1 c58 (by decide) (by decide) rfl (by decide) ?_
                                          refine r_iconst 108 1 C dX0_mayTellWidth_108 (by decide) ?_
                                          exact r_zret 109 Rt dX0_mayTellWidth_109 (by decide) () (show 0 ≤ (Int32.toInt 1) ∧ (Int32.toInt 1) ≤ 1 from ⟨(by ((repeat' apply And.intro) <;> first | trivial | rfl | assumption | omega | decide | exact Or.inl rfl | exact Or.inr (Or.inl rfl) | exact Or.inr (Or.inr rfl))), (by ((repeat' apply And.intro) <;> first | trivial | rfl | assumption | omega | decide | exact Or.inl rfl | exact Or.inr (Or.inl rfl) | exact Or.inr (Or.inr rfl)))⟩) [] (by decide) rfl (Nat.le_of_ble_eq_true rfl) (Nat.le_of_ble_eq_true rfl)
                                        · skip
                                          have k60 : ¬ ((Int32.toInt x0) = 20) := fun h_9 => c58 ((fa_eq x0 20).mpr h_9)
                                          by_cases c61 : x0 = 21
                                          · skip
                                            have k62 : (Int32.toInt x0) = 21 := (fa_eq x0 21).mp c61
                                            refine r_tableIn 1 108 21 C dX0_mayTellWidth_1 c61 (by decide) (by decide) rfl (by decide) ?_
                                            refine r_iconst 108 1 C dX0_mayTellWidth_108 (by decide) ?_
                                            exact r_zret 109 Rt dX0_mayTellWidth_109 (by decide) () (show 0 ≤ (Int32.toInt 1) ∧ (Int32.toInt 1) ≤ 1 from ⟨(by ((repeat' apply And.intro) <;> first | trivial | rfl | assumption | omega | decide | exact Or.inl rfl | exact Or.inr (Or.inl rfl) | exact Or.inr (Or.inr rfl))), (by ((repeat' apply And.intro) <;> first | trivial | rfl | assumption | omega | decide | exact Or.inl rfl | exact Or.inr (Or.inl rfl) | exact Or.inr (Or.inr rfl)))⟩) [] (by decide) rfl (Nat.le_of_ble_eq_true rfl) (Nat.le_of_ble_eq_true rfl)
                                          · skip
                                            have k63 : ¬ ((Int32.toInt x0) = 21) := fun h_9 => c61 ((fa_eq x0 21).mpr h_9)
                                            by_cases c64 : x0 = 22
                                            · skip
                                              have k65 : (Int32.toInt x0) = 22 := (fa_eq x0 22).mp c64
                                              refine r_tableIn 1 108 22 C dX0_mayTellWidth_1 c64 (by decide) (by decide) rfl (by decide) ?_
                                              refine r_iconst 108 1 C dX0_mayTellWidth_108 (by decide) ?_
                                              exact r_zret 109 Rt dX0_mayTellWidth_109 (by decide) () (show 0 ≤ (Int32.toInt 1) ∧ (Int32.toInt 1) ≤ 1 from ⟨(by ((repeat' apply And.intro) <;> first | trivial | rfl | assumption | omega | decide | exact Or.inl rfl | exact Or.inr (Or.inl rfl) | exact Or.inr (Or.inr rfl))), (by ((repeat' apply And.intro) <;> first | trivial | rfl | assumption | omega | decide | exact Or.inl rfl | exact Or.inr (Or.inl rfl) | exact Or.inr (Or.inr rfl)))⟩) [] (by decide) rfl (Nat.le_of_ble_eq_true rfl) (Nat.le_of_ble_eq_true rfl)
                                            · skip
                                              have k66 : ¬ ((Int32.toInt x0) = 22) := fun h_9 => c64 ((fa_eq x0 22).mpr h_9)
                                              by_cases c67 : x0 = 23
                                              · skip
                                                have k68 : (Int32.toInt x0) = 23 := (fa_eq x0 23).mp c67
                                                refine r_tableIn 1 108 23 C dX0_mayTellWidth_1 c67 (by decide) (by decide) rfl (by decide) ?_
                                                refine r_iconst 108 1 C dX0_mayTellWidth_108 (by decide) ?_
                                                exact r_zret 109 Rt dX0_mayTellWidth_109 (by decide) () (show 0 ≤ (Int32.toInt 1) ∧ (Int32.toInt 1) ≤ 1 from ⟨(by ((repeat' apply And.intro) <;> first | trivial | rfl | assumption | omega | decide | exact Or.inl rfl | exact Or.inr (Or.inl rfl) | exact Or.inr (Or.inr rfl))), (by ((repeat' apply And.intro) <;> first | trivial | rfl | assumption | omega | decide | exact Or.inl rfl | exact Or.inr (Or.inl rfl) | exact Or.inr (Or.inr rfl)))⟩) [] (by decide) rfl (Nat.le_of_ble_eq_true rfl) (Nat.le_of_ble_eq_true rfl)
                                              · skip
                                                have k69 : ¬ ((Int32.toInt x0) = 23) := fun h_9 => c67 ((fa_eq x0 23).mpr h_9)
                                                refine r_tableOut 1 110 C dX0_mayTellWidth_1 (by omega) (by decide) ?_
                                                refine r_iconst 110 0 C dX0_mayTellWidth_110 (by decide) ?_
                                                exact r_zret 111 Rt dX0_mayTellWidth_111 (by decide) () (show 0 ≤ (Int32.toInt 0) ∧ (Int32.toInt 0) ≤ 1 from ⟨(by ((repeat' apply And.intro) <;> first | trivial | rfl | assumption | omega | decide | exact Or.inl rfl | exact Or.inr (Or.inl rfl) | exact Or.inr (Or.inr rfl))), (by ((repeat' apply And.intro) <;> first | trivial | rfl | assumption | omega | decide | exact Or.inl rfl | exact Or.inr (Or.inl rfl) | exact Or.inr (Or.inr rfl)))⟩) [] (by decide) rfl (Nat.le_of_ble_eq_true rfl) (Nat.le_of_ble_eq_true rfl)
set_option maxHeartbeats 4000000 in
set_option maxRecDepth 100000 in
theorem c275_X0_lines (l : Launch) (g : GD) (h0 : Nat) (h1 : Nat) (h2 : Nat) (h3 : Nat) (h4 : Nat) (h5 : Nat) (x0 : Int32) (x1 : Int32) (h6 : Nat) (x2 : Int32) (x3 : Int32) (y0 : Int64) (x4 : Int32) (x5 : Int32) (x6 : Int32) (x7 : Int32) (h7 : Nat) (h8 : Nat) (h9 : Nat) (x8 : Int32) (x9 : Int32) (h10 : Nat) (x10 : Int32) (x11 : Int32) (x12 : Int32) (x13 : Int32) (y1 : Int64) (y2 : Int64) (x14 : Int32) (fm0 : Nat → Int64) (fn0 : Nat → Int32) (fm1 : Nat → Int64) (i_x0 : (0 ≤ (Int32.toInt x0) ∧ (Int32.toInt x0) ≤ 48)) (i_x1 : (0 ≤ (Int32.toInt x1) ∧ (Int32.toInt x1) ≤ 48)) (i_x7 : (0 ≤ (Int32.toInt x7) ∧ (Int32.toInt x7) ≤ 1)) (i_x8 : (0 ≤ (Int32.toInt x8) ∧ (Int32.toInt x8) ≤ 10)) (i_x9 : (0 ≤ (Int32.toInt x9) ∧ (Int32.toInt x9) ≤ 1)) (i_x10 : (0 ≤ (Int32.toInt x10) ∧ (Int32.toInt x10) ≤ 48)) (i_x11 : (0 ≤ (Int32.toInt x11) ∧ (Int32.toInt x11) ≤ 48)) (i_x12 : (0 ≤ (Int32.toInt x12) ∧ (Int32.toInt x12) ≤ 400)) (i_x13 : (0 ≤ (Int32.toInt x13) ∧ (Int32.toInt x13) ≤ 400)) (i_x14 : (0 ≤ (Int32.toInt x14) ∧ (Int32.toInt x14) ≤ 1)) (sz : Nat) : Met l yX0_lines wsX0_lines ({ frames := 2, cells := 0, slots := 0, locals := 45 }) (va_Pc [.ref h0, .int x0, .int x1] (PW g [(h0, .inr (0, [.ref h1, .ref h2, .ref h6, .int x2, .int x3, .long y0, .int x4, .int x5, .int x6, .int x7, .ref h7, .ref h8, .ref h9, .int x8, .int x9])), (h1, .inr (6, [.ref h3, .ref h10, .int x10, .int x11])), (h2, .inr (5, [.ref h4, .ref h5, .int x12, .int x13, .long y1, .long y2, .int x14])), (h3, .inl (gJ g, 48, .inr (.inl fm0))), (h4, .inl (gB g, 400, .inl fn0)), (h5, .inl (gJ g, 2400, .inr (.inl fm1)))] sz)) (va_Qi (fun (r : Int32) (u : (Int32) × (Int64) × (Int64) × (Int32) × (Nat → Int32) × (Nat → Int64)) => 0 ≤ (Int32.toInt r) ∧ (Int32.toInt r) ≤ 6 ∧ 0 ≤ (Int32.toInt (u.1)) ∧ (Int32.toInt (u.1)) ≤ 400 ∧ 0 ≤ (Int32.toInt (u.2.2.2.1)) ∧ (Int32.toInt (u.2.2.2.1)) ≤ 1) (BW g (va_A [(h0, .inr (0, [.ref h1, .ref h2, .ref h6, .int x2, .int x3, .long y0, .int x4, .int x5, .int x6, .int x7, .ref h7, .ref h8, .ref h9, .int x8, .int x9])), (h1, .inr (6, [.ref h3, .ref h10, .int x10, .int x11])), (h2, .inr (5, [.ref h4, .ref h5, .int x12, .int x13, .long y1, .long y2, .int x14])), (h3, .inl (gJ g, 48, .inr (.inl fm0))), (h4, .inl (gB g, 400, .inl fn0)), (h5, .inl (gJ g, 2400, .inr (.inl fm1)))] sz) (fun u : (Int32) × (Int64) × (Int64) × (Int32) × (Nat → Int32) × (Nat → Int64) => [(h0, .inr (0, [.ref h1, .ref h2, .ref h6, .int x2, .int x3, .long y0, .int x4, .int x5, .int x6, .int x7, .ref h7, .ref h8, .ref h9, .int x8, .int x9])), (h1, .inr (6, [.ref h3, .ref h10, .int x10, .int x11])), (h2, .inr (5, [.ref h4, .ref h5, .int u.1, .int x13, .long u.2.1, .long u.2.2.1, .int u.2.2.2.1])), (h3, .inl (gJ g, 48, .inr (.inl fm0))), (h4, .inl (gB g, 400, .inl u.2.2.2.2.1)), (h5, .inl (gJ g, 2400, .inr (.inl u.2.2.2.2.2)))])) (va_A [(h0, .inr (0, [.ref h1, .ref h2, .ref h6, .int x2, .int x3, .long y0, .int x4, .int x5, .int x6, .int x7, .ref h7, .ref h8, .ref h9, .int x8, .int x9])), (h1, .inr (6, [.ref h3, .ref h10, .int x10, .int x11])), (h2, .inr (5, [.ref h4, .ref h5, .int x12, .int x13, .long y1, .long y2, .int x14])), (h3, .inl (gJ g, 48, .inr (.inl fm0))), (h4, .inl (gB g, 400, .inl fn0)), (h5, .inl (gJ g, 2400, .inr (.inl fm1)))] sz)) 0 0 (va_A [(h0, .inr (0, [.ref h1, .ref h2, .ref h6, .int x2, .int x3, .long y0, .int x4, .int x5, .int x6, .int x7, .ref h7, .ref h8, .ref h9, .int x8, .int x9])), (h1, .inr (6, [.ref h3, .ref h10, .int x10, .int x11])), (h2, .inr (5, [.ref h4, .ref h5, .int x12, .int x13, .long y1, .long y2, .int x14])), (h3, .inl (gJ g, 48, .inr (.inl fm0))), (h4, .inl (gB g, 400, .inl fn0)), (h5, .inl (gJ g, 2400, .inr (.inl fm1)))] sz) := by
  refine met_i RX0 (by decide) rfl rfl (Nat.le_of_ble_eq_true rfl) [(0, .ref h0), (1, .int x0), (2, .int x1)] rfl ?_
  intro p e s m args below meth c A Q C hnm Rt
  have hiX0 : ∀ w ∈ wsX00, w ∈ wsX0_lines := fun w h => List.mem_cons_of_mem _ (List.mem_append_left _ (List.mem_append_left _ (List.mem_append_left _ (List.mem_append_right _ (h)))))
  refine r_iconst 0 0 C dX0_lines_0 (by decide) ?_
  refine r_istore_n 1 C dX0_lines_1 [(3, .int 0), (0, .ref h0), (1, .int x0), (2, .int x1)] (by decide) rfl ?_
  refine r_iload_n 2 2 C dX0_lines_2 rfl ?_
  refine r_istore 3 C dX0_lines_3 [(4, .int x0), (3, .int 0), (0, .ref h0), (1, .int x0), (2, .int x1)] (by decide) rfl ?_
  have lp10 : ∀ (n9 : Nat) (z1 : Int32) (z2 : Int32) (z3 : Int32) (z4 : Int64) (z5 : Int64) (z6 : Int32) (f7 : Nat → Int32) (f8 : Nat → Int64), (0 ≤ (Int32.toInt z1) ∧ (Int32.toInt z1) ≤ 48) → (0 ≤ (Int32.toInt z2) ∧ (Int32.toInt z2) ≤ 6) → (0 ≤ (Int32.toInt z3) ∧ (Int32.toInt z3) ≤ 400) → (0 ≤ (Int32.toInt z6) ∧ (Int32.toInt z6) ≤ 1) → Int.toNat (48 - (Int32.toInt z1)) < n9 → WW p l e ({ frames := 2, cells := 0, slots := 0, locals := 45 } : Room) s m args below meth c A Q g 5 0 0 [(h0, .inr (0, [.ref h1, .ref h2, .ref h6, .int x2, .int x3, .long y0, .int x4, .int x5, .int x6, .int x7, .ref h7, .ref h8, .ref h9, .int x8, .int x9])), (h1, .inr (6, [.ref h3, .ref h10, .int x10, .int x11])), (h2, .inr (5, [.ref h4, .ref h5, .int z3, .int x13, .long z4, .long z5, .int z6])), (h3, .inl (gJ g, 48, .inr (.inl fm0))), (h4, .inl (gB g, 400, .inl f7)), (h5, .inl (gJ g, 2400, .inr (.inl f8)))] 5 [(4, .int z1), (3, .int z2), (0, .ref h0), (1, .int x0), (2, .int x1)] [] := by
    intro n9
    induction n9 with
    | zero => intro z1 z2 z3 z4 z5 z6 f7 f8 i13 i14 i15 i16 hm12; exact absurd hm12 (Nat.not_lt_zero _)
    | succ n9 ih11 =>
      intro z1 z2 z3 z4 z5 z6 f7 f8 i13 i14 i15 i16 hm12
      obtain ⟨i13a, i13b⟩ := i13
      obtain ⟨i14a, i14b⟩ := i14
      obtain ⟨i15a, i15b⟩ := i15
      obtain ⟨i16a, i16b⟩ := i16
      have gz4 := fb_rngL z4
      have gz5 := fb_rngL z5
      refine r_iload 5 0 C dX0_lines_5 rfl ?_
      refine r_iconst 7 2 C dX0_lines_7 (by decide) ?_
      obtain ⟨z17, ez17⟩ : ∃ z_9, z1 + 2 = z_9 := ⟨_, rfl⟩
      have tz17 : (Int32.toInt z17) = (Int32.toInt z1) + 2 := by rw [← ez17]; exact fb_addIv (a := 0) (b := 48) (c := 2) (d := 2) ⟨i13a, i13b⟩ ⟨by decide, by decide⟩ (by decide) (by decide)
      refine r_iadd 8 z17 C dX0_lines_8 ez17 ?_
      refine r_iload_n 9 4 C dX0_lines_9 rfl ?_
      refine r_icmp_gt 10 51 C dX0_lines_10 (by decide) (fun c18 => ?_) (fun c18 => ?_)
      · skip
        have k19 : (Int32.toInt x1) < (Int32.toInt z17) := (fa_lt x1 z17).mp c18
        refine r_iload_n 51 1 C dX0_lines_51 rfl ?_
        exact r_iret 52 Rt dX0_lines_52 (z3, z4, z5, z6, f7, f8) (show 0 ≤ (Int32.toInt z2) ∧ (Int32.toInt z2) ≤ 6 ∧ 0 ≤ (Int32.toInt z3) ∧ (Int32.toInt z3) ≤ 400 ∧ 0 ≤ (Int32.toInt z6) ∧ (Int32.toInt z6) ≤ 1 from ⟨(show _ ∧ _ from ⟨i14a, i14b⟩).1, (show _ ∧ _ from ⟨i14a, i14b⟩).2, (show _ ∧ _ from ⟨i15a, i15b⟩).1, (show _ ∧ _ from ⟨i15a, i15b⟩).2, (show _ ∧ _ from ⟨i16a, i16b⟩).1, (show _ ∧ _ from ⟨i16a, i16b⟩).2⟩) [0, 1, 2, 3, 4, 5] (by decide) rfl (Nat.le_of_ble_eq_true rfl) (Nat.le_of_ble_eq_true rfl)
      · skip
        have k20 : ¬ ((Int32.toInt x1) < (Int32.toInt z17)) := fun h_9 => c18 ((fa_lt x1 z17).mpr h_9)
        refine r_iload_n 13 1 C dX0_lines_13 rfl ?_
        refine r_if_ne 14 51 C dX0_lines_14 (by decide) (fun c21 => ?_) (fun c21 => ?_)
        · skip
          have k22 : ¬ ((Int32.toInt z2) = 0) := fun h_9 => c21 ((fa_eq z2 0).mpr h_9)
          refine r_iload_n 51 1 C dX0_lines_51 rfl ?_
          exact r_iret 52 Rt dX0_lines_52 (z3, z4, z5, z6, f7, f8) (show 0 ≤ (Int32.toInt z2) ∧ (Int32.toInt z2) ≤ 6 ∧ 0 ≤ (Int32.toInt z3) ∧ (Int32.toInt z3) ≤ 400 ∧ 0 ≤ (Int32.toInt z6) ∧ (Int32.toInt z6) ≤ 1 from ⟨(show _ ∧ _ from ⟨i14a, i14b⟩).1, (show _ ∧ _ from ⟨i14a, i14b⟩).2, (show _ ∧ _ from ⟨i15a, i15b⟩).1, (show _ ∧ _ from ⟨i15a, i15b⟩).2, (show _ ∧ _ from ⟨i16a, i16b⟩).1, (show _ ∧ _ from ⟨i16a, i16b⟩).2⟩) [0, 1, 2, 3, 4, 5] (by decide) rfl (Nat.le_of_ble_eq_true rfl) (Nat.le_of_ble_eq_true rfl)
        · skip
          have k23 : (Int32.toInt z2) = 0 := (fa_eq z2 0).mp c21
          refine r_aload_n 17 2 C dX0_lines_17 rfl ?_
          refine r_get 18 C dX0_lines_18 (k := 1) 0 rfl rfl hiX0 (by decide) rfl (mg 1 rfl) (Or.inr (mg 2 rfl)) rfl ?_
          refine r_aload_n 21 2 C dX0_lines_21 rfl ?_
          refine r_get 22 C dX0_lines_22 (k := 0) 0 rfl rfl hiX0 (by decide) rfl (mg 3 rfl) (Or.inr (mg 4 rfl)) rfl ?_
          refine r_iload 25 0 C dX0_lines_25 rfl ?_
          refine r_callVl 27 C dX0_lines_27 [.ref h2] [(h1, .inr (6, [.ref h3, .ref h10, .int x10, .int x11])), (h3, .inl (gJ g, 48, .inr (.inl fm0)))] [(h0, .inr (0, [.ref h1, .ref h2, .ref h6, .int x2, .int x3, .long y0, .int x4, .int x5, .int x6, .int x7, .ref h7, .ref h8, .ref h9, .int x8, .int x9])), (h2, .inr (5, [.ref h4, .ref h5, .int z3, .int x13, .long z4, .long z5, .int z6])), (h4, .inl (gB g, 400, .inl f7)), (h5, .inl (gJ g, 2400, .inr (.inl f8)))] (fun sz => c232_X7_get l g h1 h3 z1 h10 x10 x11 fm0 i_x10 i_x11 sz) gX0_lines_X7_get rfl ⟨rfl, rfl⟩ 1 (by decide) ⟨Nat.le_of_ble_eq_true rfl, Nat.le_of_ble_eq_true rfl⟩ 1 rfl rfl [1, 3] [0, 2, 4, 5] rfl rfl (by decide) (by decide) (by decide) rfl rfl (Nat.le_of_ble_eq_true rfl) ⟨Nat.le_of_ble_eq_true rfl, Nat.le_of_ble_eq_true rfl⟩ (fun r24 _ w25 => ?_)
          refine r_ws [(h0, .inr (0, [.ref h1, .ref h2, .ref h6, .int x2, .int x3, .long y0, .int x4, .int x5, .int x6, .int x7, .ref h7, .ref h8, .ref h9, .int x8, .int x9])), (h2, .inr (5, [.ref h4, .ref h5, .int z3, .int x13, .long z4, .long z5, .int z6])), (h4, .inl (gB g, 400, .inl f7)), (h5, .inl (gJ g, 2400, .inr (.inl f8))), (h1, .inr (6, [.ref h3, .ref h10, .int x10, .int x11])), (h3, .inl (gJ g, 48, .inr (.inl fm0)))] rfl ?_
          have gr24 := fb_rngL r24
          refine r_aload_n 30 2 C dX0_lines_30 rfl ?_
          refine r_get 31 C dX0_lines_31 (k := 0) 0 rfl rfl hiX0 (by decide) rfl (mg 3 rfl) (Or.inr (mg 4 rfl)) rfl ?_
          refine r_iload 34 0 C dX0_lines_34 rfl ?_
          refine r_iconst 36 1 C dX0_lines_36 (by decide) ?_
          obtain ⟨z26, ez26⟩ : ∃ z_9, z1 + 1 = z_9 := ⟨_, rfl⟩
          have tz26 : (Int32.toInt z26) = (Int32.toInt z1) + 1 := by rw [← ez26]; exact fb_addIv (a := 0) (b := 48) (c := 1) (d := 1) ⟨i13a, i13b⟩ ⟨by decide, by decide⟩ (by decide) (by decide)
          refine r_iadd 37 z26 C dX0_lines_37 ez26 ?_
          refine r_callVl 38 C dX0_lines_38 [.long r24, .ref h2] [(h1, .inr (6, [.ref h3, .ref h10, .int x10, .int x11])), (h3, .inl (gJ g, 48, .inr (.inl fm0)))] [(h0, .inr (0, [.ref h1, .ref h2, .ref h6, .int x2, .int x3, .long y0, .int x4, .int x5, .int x6, .int x7, .ref h7, .ref h8, .ref h9, .int x8, .int x9])), (h2, .inr (5, [.ref h4, .ref h5, .int z3, .int x13, .long z4, .long z5, .int z6])), (h4, .inl (gB g, 400, .inl f7)), (h5, .inl (gJ g, 2400, .inr (.inl f8)))] (fun sz => c232_X7_get l g h1 h3 z26 h10 x10 x11 fm0 i_x10 i_x11 sz) gX0_lines_X7_get rfl ⟨rfl, rfl⟩ 1 (by decide) ⟨Nat.le_of_ble_eq_true rfl, Nat.le_of_ble_eq_true rfl⟩ 4 rfl rfl [4, 5] [0, 1, 2, 3] rfl rfl (by decide) (by decide) (by decide) rfl rfl (Nat.le_of_ble_eq_true rfl) ⟨Nat.le_of_ble_eq_true rfl, Nat.le_of_ble_eq_true rfl⟩ (fun r27 _ w28 => ?_)
          refine r_ws [(h0, .inr (0, [.ref h1, .ref h2, .ref h6, .int x2, .int x3, .long y0, .int x4, .int x5, .int x6, .int x7, .ref h7, .ref h8, .ref h9, .int x8, .int x9])), (h2, .inr (5, [.ref h4, .ref h5, .int z3, .int x13, .long z4, .long z5, .int z6])), (h4, .inl (gB g, 400, .inl f7)), (h5, .inl (gJ g, 2400, .inr (.inl f8))), (h1, .inr (6, [.ref h3, .ref h10, .int x10, .int x11])), (h3, .inl (gJ g, 48, .inr (.inl fm0)))] rfl ?_
          have gr27 := fb_rngL r27
          refine r_callVi 41 C dX0_lines_41 [] [(h2, .inr (5, [.ref h4, .ref h5, .int z3, .int x13, .long z4, .long z5, .int z6])), (h4, .inl (gB g, 400, .inl f7)), (h5, .inl (gJ g, 2400, .inr (.inl f8)))] [(h0, .inr (0, [.ref h1, .ref h2, .ref h6, .int x2, .int x3, .long y0, .int x4, .int x5, .int x6, .int x7, .ref h7, .ref h8, .ref h9, .int x8, .int x9])), (h1, .inr (6, [.ref h3, .ref h10, .int x10, .int x11])), (h3, .inl (gJ g, 48, .inr (.inl fm0)))] (fun sz => c254_X6_lineBy l g h2 h4 h5 r24 r27 z3 x13 z4 z5 z6 f7 f8 ⟨i15a, i15b⟩ i_x13 ⟨i16a, i16b⟩ sz) gX0_lines_X6_lineBy rfl ⟨rfl, rfl⟩ 2 (by decide) ⟨Nat.le_of_ble_eq_true rfl, Nat.le_of_ble_eq_true rfl⟩ 1 rfl rfl [1, 2, 3] [0, 4, 5] rfl rfl (by decide) (by decide) (by decide) rfl rfl (Nat.le_of_ble_eq_true rfl) ⟨Nat.le_of_ble_eq_true rfl, Nat.le_of_ble_eq_true rfl⟩ (fun r34 u36 w35 => ?_)
          obtain ⟨z29, z30, z31, f32, f33⟩ := u36
          refine r_ws [(h0, .inr (0, [.ref h1, .ref h2, .ref h6, .int x2, .int x3, .long y0, .int x4, .int x5, .int x6, .int x7, .ref h7, .ref h8, .ref h9, .int x8, .int x9])), (h1, .inr (6, [.ref h3, .ref h10, .int x10, .int x11])), (h3, .inl (gJ g, 48, .inr (.inl fm0))), (h2, .inr (5, [.ref h4, .ref h5, .int z29, .int x13, .long z30, .long z31, .int 1])), (h4, .inl (gB g, 400, .inl f32)), (h5, .inl (gJ g, 2400, .inr (.inl f33)))] rfl ?_
          have gz30 := fb_rngL z30
          have gz31 := fb_rngL z31
          have p37 : 0 ≤ (Int32.toInt r34) := w35.1
          have p38 : (Int32.toInt r34) ≤ 6 := w35.2.1
          have p39 : 0 ≤ (Int32.toInt z29) := w35.2.2.1
          have p40 : (Int32.toInt z29) ≤ 400 := w35.2.2.2
          refine r_istore_n 44 C dX0_lines_44 [(3, .int r34), (4, .int z1), (0, .ref h0), (1, .int x0), (2, .int x1)] (by decide) rfl ?_
          obtain ⟨z41, ez41⟩ : ∃ z_9, z1 + Int32.ofInt 2 = z_9 := ⟨_, rfl⟩
          have tz41 : (Int32.toInt z41) = (Int32.toInt z1) + 2 := by rw [← ez41]; exact fb_addIv (a := 0) (b := 48) (c := 2) (d := 2) ⟨i13a, i13b⟩ ⟨by decide, by decide⟩ (by decide) (by decide)
          refine r_iinc 45 1 z41 C dX0_lines_45 rfl ez41 [(4, .int z41), (3, .int r34), (0, .ref h0), (1, .int x0), (2, .int x1)] (by decide) rfl ?_
          refine r_goto 48 5 C dX0_lines_48 (by decide) ?_
          refine r_pick [(h0, .inr (0, [.ref h1, .ref h2, .ref h6, .int x2, .int x3, .long y0, .int x4, .int x5, .int x6, .int x7, .ref h7, .ref h8, .ref h9, .int x8, .int x9])), (h1, .inr (6, [.ref h3, .ref h10, .int x10, .int x11])), (h2, .inr (5, [.ref h4, .ref h5, .int z29, .int x13, .long z30, .long z31, .int 1])), (h3, .inl (gJ g, 48, .inr (.inl fm0))), (h4, .inl (gB g, 400, .inl f32)), (h5, .inl (gJ g, 2400, .inr (.inl f33)))] [0, 1, 3, 2, 4, 5] (by decide) rfl ?_
          exact ih11 z41 r34 z29 z30 z31 1 f32 f33 ⟨by omega, by omega⟩ ⟨p37, p38⟩ ⟨p39, p40⟩ (by decide) (by omega)
  exact lp10 _ x0 0 x12 y1 y2 x14 fn0 fm1 i_x0 (by decide) i_x12 i_x14 (Nat.lt_succ_self _)
set_option maxHeartbeats 4000000 in
set_option maxRecDepth 100000 in
theorem c276_X4_curves (l : Launch) (g : GD) (h0 : Nat) (h1 : Nat) (h2 : Nat) (h3 : Nat) (h4 : Nat) (h5 : Nat) (x0 : Int32) (x1 : Int32) (h6 : Nat) (x2 : Int32) (x3 : Int32) (y0 : Int64) (x4 : Int32) (x5 : Int32) (x6 : Int32) (x7 : Int32) (h7 : Nat) (h8 : Nat) (h9 : Nat) (x8 : Int32) (x9 : Int32) (h10 : Nat) (x10 : Int32) (x11 : Int32) (x12 : Int32) (x13 : Int32) (y1 : Int64) (y2 : Int64) (x14 : Int32) (fm0 : Nat → Int64) (fn0 : Nat → Int32) (fm1 : Nat → Int64) (i_x0 : (0 ≤ (Int32.toInt x0) ∧ (Int32.toInt x0) ≤ 48)) (i_x1 : (0 ≤ (Int32.toInt x1) ∧ (Int32.toInt x1) ≤ 48)) (i_x7 : (0 ≤ (Int32.toInt x7) ∧ (Int32.toInt x7) ≤ 1)) (i_x8 : (0 ≤ (Int32.toInt x8) ∧ (Int32.toInt x8) ≤ 10)) (i_x9 : (0 ≤ (Int32.toInt x9) ∧ (Int32.toInt x9) ≤ 1)) (i_x10 : (0 ≤ (Int32.toInt x10) ∧ (Int32.toInt x10) ≤ 48)) (i_x11 : (0 ≤ (Int32.toInt x11) ∧ (Int32.toInt x11) ≤ 48)) (i_x12 : (0 ≤ (Int32.toInt x12) ∧ (Int32.toInt x12) ≤ 400)) (i_x13 : (0 ≤ (Int32.toInt x13) ∧ (Int32.toInt x13) ≤ 400)) (i_x14 : (0 ≤ (Int32.toInt x14) ∧ (Int32.toInt x14) ≤ 1)) (sz : Nat) : Met l yX4_curves wsX4_curves ({ frames := 2, cells := 0, slots := 0, locals := 55 }) (va_Pc [.ref h0, .int x0, .int x1] (PW g [(h0, .inr (0, [.ref h1, .ref h2, .ref h6, .int x2, .int x3, .long y0, .int x4, .int x5, .int x6, .int x7, .ref h7, .ref h8, .ref h9, .int x8, .int x9])), (h1, .inr (6, [.ref h3, .ref h10, .int x10, .int x11])), (h2, .inr (5, [.ref h4, .ref h5, .int x12, .int x13, .long y1, .long y2, .int x14])), (h3, .inl (gJ g, 48, .inr (.inl fm0))), (h4, .inl (gB g, 400, .inl fn0)), (h5, .inl (gJ g, 2400, .inr (.inl fm1)))] sz)) (va_Qi (fun (r : Int32) (u : (Int32) × (Int64) × (Int64) × (Int32) × (Nat → Int32) × (Nat → Int64)) => 0 ≤ (Int32.toInt r) ∧ (Int32.toInt r) ≤ 6 ∧ 0 ≤ (Int32.toInt (u.1)) ∧ (Int32.toInt (u.1)) ≤ 400 ∧ 0 ≤ (Int32.toInt (u.2.2.2.1)) ∧ (Int32.toInt (u.2.2.2.1)) ≤ 1) (BW g (va_A [(h0, .inr (0, [.ref h1, .ref h2, .ref h6, .int x2, .int x3, .long y0, .int x4, .int x5, .int x6, .int x7, .ref h7, .ref h8, .ref h9, .int x8, .int x9])), (h1, .inr (6, [.ref h3, .ref h10, .int x10, .int x11])), (h2, .inr (5, [.ref h4, .ref h5, .int x12, .int x13, .long y1, .long y2, .int x14])), (h3, .inl (gJ g, 48, .inr (.inl fm0))), (h4, .inl (gB g, 400, .inl fn0)), (h5, .inl (gJ g, 2400, .inr (.inl fm1)))] sz) (fun u : (Int32) × (Int64) × (Int64) × (Int32) × (Nat → Int32) × (Nat → Int64) => [(h0, .inr (0, [.ref h1, .ref h2, .ref h6, .int x2, .int x3, .long y0, .int x4, .int x5, .int x6, .int x7, .ref h7, .ref h8, .ref h9, .int x8, .int x9])), (h1, .inr (6, [.ref h3, .ref h10, .int x10, .int x11])), (h2, .inr (5, [.ref h4, .ref h5, .int u.1, .int x13, .long u.2.1, .long u.2.2.1, .int u.2.2.2.1])), (h3, .inl (gJ g, 48, .inr (.inl fm0))), (h4, .inl (gB g, 400, .inl u.2.2.2.2.1)), (h5, .inl (gJ g, 2400, .inr (.inl u.2.2.2.2.2)))])) (va_A [(h0, .inr (0, [.ref h1, .ref h2, .ref h6, .int x2, .int x3, .long y0, .int x4, .int x5, .int x6, .int x7, .ref h7, .ref h8, .ref h9, .int x8, .int x9])), (h1, .inr (6, [.ref h3, .ref h10, .int x10, .int x11])), (h2, .inr (5, [.ref h4, .ref h5, .int x12, .int x13, .long y1, .long y2, .int x14])), (h3, .inl (gJ g, 48, .inr (.inl fm0))), (h4, .inl (gB g, 400, .inl fn0)), (h5, .inl (gJ g, 2400, .inr (.inl fm1)))] sz)) 0 0 (va_A [(h0, .inr (0, [.ref h1, .ref h2, .ref h6, .int x2, .int x3, .long y0, .int x4, .int x5, .int x6, .int x7, .ref h7, .ref h8, .ref h9, .int x8, .int x9])), (h1, .inr (6, [.ref h3, .ref h10, .int x10, .int x11])), (h2, .inr (5, [.ref h4, .ref h5, .int x12, .int x13, .long y1, .long y2, .int x14])), (h3, .inl (gJ g, 48, .inr (.inl fm0))), (h4, .inl (gB g, 400, .inl fn0)), (h5, .inl (gJ g, 2400, .inr (.inl fm1)))] sz) := by
  refine met_i RX4 (by decide) rfl rfl (Nat.le_of_ble_eq_true rfl) [(0, .ref h0), (1, .int x0), (2, .int x1)] rfl ?_
  intro p e s m args below meth c A Q C hnm Rt
  have hiX0 : ∀ w ∈ wsX00, w ∈ wsX4_curves := fun w h => List.mem_cons_of_mem _ (List.mem_append_left _ (List.mem_append_left _ (List.mem_append_left _ (List.mem_append_right _ (h)))))
  refine r_iconst 0 0 C dX4_curves_0 (by decide) ?_
  refine r_istore_n 1 C dX4_curves_1 [(3, .int 0), (0, .ref h0), (1, .int x0), (2, .int x1)] (by decide) rfl ?_
  refine r_iload_n 2 2 C dX4_curves_2 rfl ?_
  refine r_istore 3 C dX4_curves_3 [(4, .int x0), (3, .int 0), (0, .ref h0), (1, .int x0), (2, .int x1)] (by decide) rfl ?_
  have lp10 : ∀ (n9 : Nat) (z1 : Int32) (z2 : Int32) (z3 : Int32) (z4 : Int64) (z5 : Int64) (z6 : Int32) (f7 : Nat → Int32) (f8 : Nat → Int64), (0 ≤ (Int32.toInt z1) ∧ (Int32.toInt z1) ≤ 48) → (0 ≤ (Int32.toInt z2) ∧ (Int32.toInt z2) ≤ 6) → (0 ≤ (Int32.toInt z3) ∧ (Int32.toInt z3) ≤ 400) → (0 ≤ (Int32.toInt z6) ∧ (Int32.toInt z6) ≤ 1) → Int.toNat (48 - (Int32.toInt z1)) < n9 → WW p l e ({ frames := 2, cells := 0, slots := 0, locals := 55 } : Room) s m args below meth c A Q g 5 0 0 [(h0, .inr (0, [.ref h1, .ref h2, .ref h6, .int x2, .int x3, .long y0, .int x4, .int x5, .int x6, .int x7, .ref h7, .ref h8, .ref h9, .int x8, .int x9])), (h1, .inr (6, [.ref h3, .ref h10, .int x10, .int x11])), (h2, .inr (5, [.ref h4, .ref h5, .int z3, .int x13, .long z4, .long z5, .int z6])), (h3, .inl (gJ g, 48, .inr (.inl fm0))), (h4, .inl (gB g, 400, .inl f7)), (h5, .inl (gJ g, 2400, .inr (.inl f8)))] 5 [(4, .int z1), (3, .int z2), (0, .ref h0), (1, .int x0), (2, .int x1)] [] := by
    intro n9
    induction n9 with
    | zero => intro z1 z2 z3 z4 z5 z6 f7 f8 i13 i14 i15 i16 hm12; exact absurd hm12 (Nat.not_lt_zero _)
    | succ n9 ih11 =>
      intro z1 z2 z3 z4 z5 z6 f7 f8 i13 i14 i15 i16 hm12
      obtain ⟨i13a, i13b⟩ := i13
      obtain ⟨i14a, i14b⟩ := i14
      obtain ⟨i15a, i15b⟩ := i15
      obtain ⟨i16a, i16b⟩ := i16
      have gz4 := fb_rngL z4
      have gz5 := fb_rngL z5
      refine r_iload 5 0 C dX4_curves_5 rfl ?_
      refine r_bipush 7 6 C dX4_curves_7 (by decide) ?_
      obtain ⟨z17, ez17⟩ : ∃ z_9, z1 + 6 = z_9 := ⟨_, rfl⟩
      have tz17 : (Int32.toInt z17) = (Int32.toInt z1) + 6 := by rw [← ez17]; exact fb_addIv (a := 0) (b := 48) (c := 6) (d := 6) ⟨i13a, i13b⟩ ⟨by decide, by decide⟩ (by decide) (by decide)
      refine r_iadd 9 z17 C dX4_curves_9 ez17 ?_
      refine r_iload_n 10 4 C dX4_curves_10 rfl ?_
      refine r_icmp_gt 11 96 C dX4_curves_11 (by decide) (fun c18 => ?_) (fun c18 => ?_)
      · skip
        have k19 : (Int32.toInt x1) < (Int32.toInt z17) := (fa_lt x1 z17).mp c18
        refine r_iload_n 96 1 C dX4_curves_96 rfl ?_
        exact r_iret 97 Rt dX4_curves_97 (z3, z4, z5, z6, f7, f8) (show 0 ≤ (Int32.toInt z2) ∧ (Int32.toInt z2) ≤ 6 ∧ 0 ≤ (Int32.toInt z3) ∧ (Int32.toInt z3) ≤ 400 ∧ 0 ≤ (Int32.toInt z6) ∧ (Int32.toInt z6) ≤ 1 from ⟨(show _ ∧ _ from ⟨i14a, i14b⟩).1, (show _ ∧ _ from ⟨i14a, i14b⟩).2, (show _ ∧ _ from ⟨i15a, i15b⟩).1, (show _ ∧ _ from ⟨i15a, i15b⟩).2, (show _ ∧ _ from ⟨i16a, i16b⟩).1, (show _ ∧ _ from ⟨i16a, i16b⟩).2⟩) [0, 1, 2, 3, 4, 5] (by decide) rfl (Nat.le_of_ble_eq_true rfl) (Nat.le_of_ble_eq_true rfl)
      · skip
        have k20 : ¬ ((Int32.toInt x1) < (Int32.toInt z17)) := fun h_9 => c18 ((fa_lt x1 z17).mpr h_9)
        refine r_iload_n 14 1 C dX4_curves_14 rfl ?_
        refine r_if_ne 15 96 C dX4_curves_15 (by decide) (fun c21 => ?_) (fun c21 => ?_)
        · skip
          have k22 : ¬ ((Int32.toInt z2) = 0) := fun h_9 => c21 ((fa_eq z2 0).mpr h_9)
          refine r_iload_n 96 1 C dX4_curves_96 rfl ?_
          exact r_iret 97 Rt dX4_curves_97 (z3, z4, z5, z6, f7, f8) (show 0 ≤ (Int32.toInt z2) ∧ (Int32.toInt z2) ≤ 6 ∧ 0 ≤ (Int32.toInt z3) ∧ (Int32.toInt z3) ≤ 400 ∧ 0 ≤ (Int32.toInt z6) ∧ (Int32.toInt z6) ≤ 1 from ⟨(show _ ∧ _ from ⟨i14a, i14b⟩).1, (show _ ∧ _ from ⟨i14a, i14b⟩).2, (show _ ∧ _ from ⟨i15a, i15b⟩).1, (show _ ∧ _ from ⟨i15a, i15b⟩).2, (show _ ∧ _ from ⟨i16a, i16b⟩).1, (show _ ∧ _ from ⟨i16a, i16b⟩).2⟩) [0, 1, 2, 3, 4, 5] (by decide) rfl (Nat.le_of_ble_eq_true rfl) (Nat.le_of_ble_eq_true rfl)
        · skip
          have k23 : (Int32.toInt z2) = 0 := (fa_eq z2 0).mp c21
          refine r_aload_n 18 2 C dX4_curves_18 rfl ?_
          refine r_get 19 C dX4_curves_19 (k := 1) 0 rfl rfl hiX0 (by decide) rfl (mg 1 rfl) (Or.inl rfl) rfl ?_
          refine r_aload_n 22 2 C dX4_curves_22 rfl ?_
          refine r_get 23 C dX4_curves_23 (k := 0) 0 rfl rfl hiX0 (by decide) rfl (mg 2 rfl) (Or.inl rfl) rfl ?_
          refine r_iload 26 0 C dX4_curves_26 rfl ?_
          refine r_callVl 28 C dX4_curves_28 [.ref h2] [(h1, .inr (6, [.ref h3, .ref h10, .int x10, .int x11])), (h3, .inl (gJ g, 48, .inr (.inl fm0)))] [(h0, .inr (0, [.ref h1, .ref h2, .ref h6, .int x2, .int x3, .long y0, .int x4, .int x5, .int x6, .int x7, .ref h7, .ref h8, .ref h9, .int x8, .int x9])), (h2, .inr (5, [.ref h4, .ref h5, .int z3, .int x13, .long z4, .long z5, .int z6])), (h4, .inl (gB g, 400, .inl f7)), (h5, .inl (gJ g, 2400, .inr (.inl f8)))] (fun sz => c232_X7_get l g h1 h3 z1 h10 x10 x11 fm0 i_x10 i_x11 sz) gX4_curves_X7_get rfl ⟨rfl, rfl⟩ 1 (by decide) ⟨Nat.le_of_ble_eq_true rfl, Nat.le_of_ble_eq_true rfl⟩ 1 rfl rfl [1, 3] [0, 2, 4, 5] rfl rfl (by decide) (by decide) (by decide) rfl rfl (Nat.le_of_ble_eq_true rfl) ⟨Nat.le_of_ble_eq_true rfl, Nat.le_of_ble_eq_true rfl⟩ (fun r24 _ w25 => ?_)
          refine r_ws [(h0, .inr (0, [.ref h1, .ref h2, .ref h6, .int x2, .int x3, .long y0, .int x4, .int x5, .int x6, .int x7, .ref h7, .ref h8, .ref h9, .int x8, .int x9])), (h2, .inr (5, [.ref h4, .ref h5, .int z3, .int x13, .long z4, .long z5, .int z6])), (h4, .inl (gB g, 400, .inl f7)), (h5, .inl (gJ g, 2400, .inr (.inl f8))), (h1, .inr (6, [.ref h3, .ref h10, .int x10, .int x11])), (h3, .inl (gJ g, 48, .inr (.inl fm0)))] rfl ?_
          have gr24 := fb_rngL r24
          refine r_aload_n 31 2 C dX4_curves_31 rfl ?_
          refine r_get 32 C dX4_curves_32 (k := 0) 0 rfl rfl hiX0 (by decide) rfl (mg 2 rfl) (Or.inl rfl) rfl ?_
          refine r_iload 35 0 C dX4_curves_35 rfl ?_
          refine r_iconst 37 1 C dX4_curves_37 (by decide) ?_
          obtain ⟨z26, ez26⟩ : ∃ z_9, z1 + 1 = z_9 := ⟨_, rfl⟩
          have tz26 : (Int32.toInt z26) = (Int32.toInt z1) + 1 := by rw [← ez26]; exact fb_addIv (a := 0) (b := 48) (c := 1) (d := 1) ⟨i13a, i13b⟩ ⟨by decide, by decide⟩ (by decide) (by decide)
          refine r_iadd 38 z26 C dX4_curves_38 ez26 ?_
          refine r_callVl 39 C dX4_curves_39 [.long r24, .ref h2] [(h1, .inr (6, [.ref h3, .ref h10, .int x10, .int x11])), (h3, .inl (gJ g, 48, .inr (.inl fm0)))] [(h0, .inr (0, [.ref h1, .ref h2, .ref h6, .int x2, .int x3, .long y0, .int x4, .int x5, .int x6, .int x7, .ref h7, .ref h8, .ref h9, .int x8, .int x9])), (h2, .inr (5, [.ref h4, .ref h5, .int z3, .int x13, .long z4, .long z5, .int z6])), (h4, .inl (gB g, 400, .inl f7)), (h5, .inl (gJ g, 2400, .inr (.inl f8)))] (fun sz => c232_X7_get l g h1 h3 z26 h10 x10 x11 fm0 i_x10 i_x11 sz) gX4_curves_X7_get rfl ⟨rfl, rfl⟩ 1 (by decide) ⟨Nat.le_of_ble_eq_true rfl, Nat.le_of_ble_eq_true rfl⟩ 4 rfl rfl [4, 5] [0, 1, 2, 3] rfl rfl (by decide) (by decide) (by decide) rfl rfl (Nat.le_of_ble_eq_true rfl) ⟨Nat.le_of_ble_eq_true rfl, Nat.le_of_ble_eq_true rfl⟩ (fun r27 _ w28 => ?_)
          refine r_ws [(h0, .inr (0, [.ref h1, .ref h2, .ref h6, .int x2, .int x3, .long y0, .int x4, .int x5, .int x6, .int x7, .ref h7, .ref h8, .ref h9, .int x8, .int x9])), (h2, .inr (5, [.ref h4, .ref h5, .int z3, .int x13, .long z4, .long z5, .int z6])), (h4, .inl (gB g, 400, .inl f7)), (h5, .inl (gJ g, 2400, .inr (.inl f8))), (h1, .inr (6, [.ref h3, .ref h10, .int x10, .int x11])), (h3, .inl (gJ g, 48, .inr (.inl fm0)))] rfl ?_
          have gr27 := fb_rngL r27
          refine r_aload_n 42 2 C dX4_curves_42 rfl ?_
          refine r_get 43 C dX4_curves_43 (k := 0) 0 rfl rfl hiX0 (by decide) rfl (mg 2 rfl) (Or.inl rfl) rfl ?_
          refine r_iload 46 0 C dX4_curves_46 rfl ?_
          refine r_iconst 48 2 C dX4_curves_48 (by decide) ?_
          obtain ⟨z29, ez29⟩ : ∃ z_9, z1 + 2 = z_9 := ⟨_, rfl⟩
          have tz29 : (Int32.toInt z29) = (Int32.toInt z1) + 2 := by rw [← ez29]; exact fb_addIv (a := 0) (b := 48) (c := 2) (d := 2) ⟨i13a, i13b⟩ ⟨by decide, by decide⟩ (by decide) (by decide)
          refine r_iadd 49 z29 C dX4_curves_49 ez29 ?_
          refine r_callVl 50 C dX4_curves_50 [.long r27, .long r24, .ref h2] [(h1, .inr (6, [.ref h3, .ref h10, .int x10, .int x11])), (h3, .inl (gJ g, 48, .inr (.inl fm0)))] [(h0, .inr (0, [.ref h1, .ref h2, .ref h6, .int x2, .int x3, .long y0, .int x4, .int x5, .int x6, .int x7, .ref h7, .ref h8, .ref h9, .int x8, .int x9])), (h2, .inr (5, [.ref h4, .ref h5, .int z3, .int x13, .long z4, .long z5, .int z6])), (h4, .inl (gB g, 400, .inl f7)), (h5, .inl (gJ g, 2400, .inr (.inl f8)))] (fun sz => c232_X7_get l g h1 h3 z29 h10 x10 x11 fm0 i_x10 i_x11 sz) gX4_curves_X7_get rfl ⟨rfl, rfl⟩ 1 (by decide) ⟨Nat.le_of_ble_eq_true rfl, Nat.le_of_ble_eq_true rfl⟩ 4 rfl rfl [4, 5] [0, 1, 2, 3] rfl rfl (by decide) (by decide) (by decide) rfl rfl (Nat.le_of_ble_eq_true rfl) ⟨Nat.le_of_ble_eq_true rfl, Nat.le_of_ble_eq_true rfl⟩ (fun r30 _ w31 => ?_)
          refine r_ws [(h0, .inr (0, [.ref h1, .ref h2, .ref h6, .int x2, .int x3, .long y0, .int x4, .int x5, .int x6, .int x7, .ref h7, .ref h8, .ref h9, .int x8, .int x9])), (h2, .inr (5, [.ref h4, .ref h5, .int z3, .int x13, .long z4, .long z5, .int z6])), (h4, .inl (gB g, 400, .inl f7)), (h5, .inl (gJ g, 2400, .inr (.inl f8))), (h1, .inr (6, [.ref h3, .ref h10, .int x10, .int x11])), (h3, .inl (gJ g, 48, .inr (.inl fm0)))] rfl ?_
          have gr30 := fb_rngL r30
          refine r_aload_n 53 2 C dX4_curves_53 rfl ?_
          refine r_get 54 C dX4_curves_54 (k := 0) 0 rfl rfl hiX0 (by decide) rfl (mg 2 rfl) (Or.inl rfl) rfl ?_
          refine r_iload 57 0 C dX4_curves_57 rfl ?_
          refine r_iconst 59 3 C dX4_curves_59 (by decide) ?_
          obtain ⟨z32, ez32⟩ : ∃ z_9, z1 + 3 = z_9 := ⟨_, rfl⟩
          have tz32 : (Int32.toInt z32) = (Int32.toInt z1) + 3 := by rw [← ez32]; exact fb_addIv (a := 0) (b := 48) (c := 3) (d := 3) ⟨i13a, i13b⟩ ⟨by decide, by decide⟩ (by decide) (by decide)
          refine r_iadd 60 z32 C dX4_curves_60 ez32 ?_
          refine r_callVl 61 C dX4_curves_61 [.long r30, .long r27, .long r24, .ref h2] [(h1, .inr (6, [.ref h3, .ref h10, .int x10, .int x11])), (h3, .inl (gJ g, 48, .inr (.inl fm0)))] [(h0, .inr (0, [.ref h1, .ref h2, .ref h6, .int x2, .int x3, .long y0, .int x4, .int x5, .int x6, .int x7, .ref h7, .ref h8, .ref h9, .int x8, .int x9])), (h2, .inr (5, [.ref h4, .ref h5, .int z3, .int x13, .long z4, .long z5, .int z6])), (h4, .inl (gB g, 400, .inl f7)), (h5, .inl (gJ g, 2400, .inr (.inl f8)))] (fun sz => c232_X7_get l g h1 h3 z32 h10 x10 x11 fm0 i_x10 i_x11 sz) gX4_curves_X7_get rfl ⟨rfl, rfl⟩ 1 (by decide) ⟨Nat.le_of_ble_eq_true rfl, Nat.le_of_ble_eq_true rfl⟩ 4 rfl rfl [4, 5] [0, 1, 2, 3] rfl rfl (by decide) (by decide) (by decide) rfl rfl (Nat.le_of_ble_eq_true rfl) ⟨Nat.le_of_ble_eq_true rfl, Nat.le_of_ble_eq_true rfl⟩ (fun r33 _ w34 => ?_)
          refine r_ws [(h0, .inr (0, [.ref h1, .ref h2, .ref h6, .int x2, .int x3, .long y0, .int x4, .int x5, .int x6, .int x7, .ref h7, .ref h8, .ref h9, .int x8, .int x9])), (h2, .inr (5, [.ref h4, .ref h5, .int z3, .int x13, .long z4, .long z5, .int z6])), (h4, .inl (gB g, 400, .inl f7)), (h5, .inl (gJ g, 2400, .inr (.inl f8))), (h1, .inr (6, [.ref h3, .ref h10, .int x10, .int x11])), (h3, .inl (gJ g, 48, .inr (.inl fm0)))] rfl ?_
          have gr33 := fb_rngL r33
          refine r_aload_n 64 2 C dX4_curves_64 rfl ?_
          refine r_get 65 C dX4_curves_65 (k := 0) 0 rfl rfl hiX0 (by decide) rfl (mg 2 rfl) (Or.inl rfl) rfl ?_
          refine r_iload 68 0 C dX4_curves_68 rfl ?_
          refine r_iconst 70 4 C dX4_curves_70 (by decide) ?_
          obtain ⟨z35, ez35⟩ : ∃ z_9, z1 + 4 = z_9 := ⟨_, rfl⟩
          have tz35 : (Int32.toInt z35) = (Int32.toInt z1) + 4 := by rw [← ez35]; exact fb_addIv (a := 0) (b := 48) (c := 4) (d := 4) ⟨i13a, i13b⟩ ⟨by decide, by decide⟩ (by decide) (by decide)
          refine r_iadd 71 z35 C dX4_curves_71 ez35 ?_
          refine r_callVlX 72 C dX4_curves_72 [.long r33, .long r30, .long r27, .long r24, .ref h2] [(h1, .inr (6, [.ref h3, .ref h10, .int x10, .int x11])), (h3, .inl (gJ g, 48, .inr (.inl fm0)))] [(h0, .inr (0, [.ref h1, .ref h2, .ref h6, .int x2, .int x3, .long y0, .int x4, .int x5, .int x6, .int x7, .ref h7, .ref h8, .ref h9, .int x8, .int x9])), (h2, .inr (5, [.ref h4, .ref h5, .int z3, .int x13, .long z4, .long z5, .int z6])), (h4, .inl (gB g, 400, .inl f7)), (h5, .inl (gJ g, 2400, .inr (.inl f8)))] (fun sz => c232_X7_get l g h1 h3 z35 h10 x10 x11 fm0 i_x10 i_x11 sz) gX4_curves_X7_get rfl ⟨rfl, rfl⟩ 1 (by decide) ⟨Nat.le_of_ble_eq_true rfl, Nat.le_of_ble_eq_true rfl⟩ 4 rfl rfl [4, 5] [0, 1, 2, 3] rfl rfl (by decide) (by decide) (by decide) rfl rfl (Nat.le_of_ble_eq_true rfl) ⟨Nat.le_of_ble_eq_true rfl, Nat.le_of_ble_eq_true rfl⟩ (fun r36 _ w37 => ?_)
          refine r_ws [(h0, .inr (0, [.ref h1, .ref h2, .ref h6, .int x2, .int x3, .long y0, .int x4, .int x5, .int x6, .int x7, .ref h7, .ref h8, .ref h9, .int x8, .int x9])), (h2, .inr (5, [.ref h4, .ref h5, .int z3, .int x13, .long z4, .long z5, .int z6])), (h4, .inl (gB g, 400, .inl f7)), (h5, .inl (gJ g, 2400, .inr (.inl f8))), (h1, .inr (6, [.ref h3, .ref h10, .int x10, .int x11])), (h3, .inl (gJ g, 48, .inr (.inl fm0)))] rfl ?_
          have gr36 := fb_rngL r36
          refine r_aload_n 75 2 C dX4_curves_75 rfl ?_
          refine r_get 76 C dX4_curves_76 (k := 0) 0 rfl rfl hiX0 (by decide) rfl (mg 2 rfl) (Or.inl rfl) rfl ?_
          refine r_iload 79 0 C dX4_curves_79 rfl ?_
          refine r_iconst 81 5 C dX4_curves_81 (by decide) ?_
          obtain ⟨z38, ez38⟩ : ∃ z_9, z1 + 5 = z_9 := ⟨_, rfl⟩
          have tz38 : (Int32.toInt z38) = (Int32.toInt z1) + 5 := by rw [← ez38]; exact fb_addIv (a := 0) (b := 48) (c := 5) (d := 5) ⟨i13a, i13b⟩ ⟨by decide, by decide⟩ (by decide) (by decide)
          refine r_iadd 82 z38 C dX4_curves_82 ez38 ?_
          refine r_callVlX 83 C dX4_curves_83 [.long r36, .long r33, .long r30, .long r27, .long r24, .ref h2] [(h1, .inr (6, [.ref h3, .ref h10, .int x10, .int x11])), (h3, .inl (gJ g, 48, .inr (.inl fm0)))] [(h0, .inr (0, [.ref h1, .ref h2, .ref h6, .int x2, .int x3, .long y0, .int x4, .int x5, .int x6, .int x7, .ref h7, .ref h8, .ref h9, .int x8, .int x9])), (h2, .inr (5, [.ref h4, .ref h5, .int z3, .int x13, .long z4, .long z5, .int z6])), (h4, .inl (gB g, 400, .inl f7)), (h5, .inl (gJ g, 2400, .inr (.inl f8)))] (fun sz => c232_X7_get l g h1 h3 z38 h10 x10 x11 fm0 i_x10 i_x11 sz) gX4_curves_X7_get rfl ⟨rfl, rfl⟩ 1 (by decide) ⟨Nat.le_of_ble_eq_true rfl, Nat.le_of_ble_eq_true rfl⟩ 4 rfl rfl [4, 5] [0, 1, 2, 3] rfl rfl (by decide) (by decide) (by decide) rfl rfl (Nat.le_of_ble_eq_true rfl) ⟨Nat.le_of_ble_eq_true rfl, Nat.le_of_ble_eq_true rfl⟩ (fun r39 _ w40 => ?_)
          refine r_ws [(h0, .inr (0, [.ref h1, .ref h2, .ref h6, .int x2, .int x3, .long y0, .int x4, .int x5, .int x6, .int x7, .ref h7, .ref h8, .ref h9, .int x8, .int x9])), (h2, .inr (5, [.ref h4, .ref h5, .int z3, .int x13, .long z4, .long z5, .int z6])), (h4, .inl (gB g, 400, .inl f7)), (h5, .inl (gJ g, 2400, .inr (.inl f8))), (h1, .inr (6, [.ref h3, .ref h10, .int x10, .int x11])), (h3, .inl (gJ g, 48, .inr (.inl fm0)))] rfl ?_
          have gr39 := fb_rngL r39
          refine r_callVi 86 C dX4_curves_86 [] [(h2, .inr (5, [.ref h4, .ref h5, .int z3, .int x13, .long z4, .long z5, .int z6])), (h4, .inl (gB g, 400, .inl f7)), (h5, .inl (gJ g, 2400, .inr (.inl f8)))] [(h0, .inr (0, [.ref h1, .ref h2, .ref h6, .int x2, .int x3, .long y0, .int x4, .int x5, .int x6, .int x7, .ref h7, .ref h8, .ref h9, .int x8, .int x9])), (h1, .inr (6, [.ref h3, .ref h10, .int x10, .int x11])), (h3, .inl (gJ g, 48, .inr (.inl fm0)))] (fun sz => c246_X6_curveBy l g h2 h4 h5 r24 r27 r30 r33 r36 r39 z3 x13 z4 z5 z6 f7 f8 ⟨i15a, i15b⟩ i_x13 ⟨i16a, i16b⟩ sz) gX4_curves_X6_curveBy rfl ⟨rfl, rfl⟩ 6 (by decide) ⟨Nat.le_of_ble_eq_true rfl, Nat.le_of_ble_eq_true rfl⟩ 1 rfl rfl [1, 2, 3] [0, 4, 5] rfl rfl (by decide) (by decide) (by decide) rfl rfl (Nat.le_of_ble_eq_true rfl) ⟨Nat.le_of_ble_eq_true rfl, Nat.le_of_ble_eq_true rfl⟩ (fun r46 u48 w47 => ?_)
          obtain ⟨z41, z42, z43, f44, f45⟩ := u48
          refine r_ws [(h0, .inr (0, [.ref h1, .ref h2, .ref h6, .int x2, .int x3, .long y0, .int x4, .int x5, .int x6, .int x7, .ref h7, .ref h8, .ref h9, .int x8, .int x9])), (h1, .inr (6, [.ref h3, .ref h10, .int x10, .int x11])), (h3, .inl (gJ g, 48, .inr (.inl fm0))), (h2, .inr (5, [.ref h4, .ref h5, .int z41, .int x13, .long z42, .long z43, .int 1])), (h4, .inl (gB g, 400, .inl f44)), (h5, .inl (gJ g, 2400, .inr (.inl f45)))] rfl ?_
          have gz42 := fb_rngL z42
          have gz43 := fb_rngL z43
          have p49 : 0 ≤ (Int32.toInt r46) := w47.1
          have p50 : (Int32.toInt r46) ≤ 6 := w47.2.1
          have p51 : 0 ≤ (Int32.toInt z41) := w47.2.2.1
          have p52 : (Int32.toInt z41) ≤ 400 := w47.2.2.2
          refine r_istore_n 89 C dX4_curves_89 [(3, .int r46), (4, .int z1), (0, .ref h0), (1, .int x0), (2, .int x1)] (by decide) rfl ?_
          obtain ⟨z53, ez53⟩ : ∃ z_9, z1 + Int32.ofInt 6 = z_9 := ⟨_, rfl⟩
          have tz53 : (Int32.toInt z53) = (Int32.toInt z1) + 6 := by rw [← ez53]; exact fb_addIv (a := 0) (b := 48) (c := 6) (d := 6) ⟨i13a, i13b⟩ ⟨by decide, by decide⟩ (by decide) (by decide)
          refine r_iinc 90 1 z53 C dX4_curves_90 rfl ez53 [(4, .int z53), (3, .int r46), (0, .ref h0), (1, .int x0), (2, .int x1)] (by decide) rfl ?_
          refine r_goto 93 5 C dX4_curves_93 (by decide) ?_
          refine r_pick [(h0, .inr (0, [.ref h1, .ref h2, .ref h6, .int x2, .int x3, .long y0, .int x4, .int x5, .int x6, .int x7, .ref h7, .ref h8, .ref h9, .int x8, .int x9])), (h1, .inr (6, [.ref h3, .ref h10, .int x10, .int x11])), (h2, .inr (5, [.ref h4, .ref h5, .int z41, .int x13, .long z42, .long z43, .int 1])), (h3, .inl (gJ g, 48, .inr (.inl fm0))), (h4, .inl (gB g, 400, .inl f44)), (h5, .inl (gJ g, 2400, .inr (.inl f45)))] [0, 1, 3, 2, 4, 5] (by decide) rfl ?_
          exact ih11 z53 r46 z41 z42 z43 1 f44 f45 ⟨by omega, by omega⟩ ⟨p49, p50⟩ ⟨p51, p52⟩ (by decide) (by omega)
  exact lp10 _ x0 0 x12 y1 y2 x14 fn0 fm1 i_x0 (by decide) i_x12 i_x14 (Nat.lt_succ_self _)
set_option maxHeartbeats 4000000 in
set_option maxRecDepth 100000 in
theorem c277_X0_pairsThenSixes (l : Launch) (g : GD) (h0 : Nat) (h1 : Nat) (h2 : Nat) (h3 : Nat) (h4 : Nat) (h5 : Nat) (h6 : Nat) (x0 : Int32) (x1 : Int32) (y0 : Int64) (x2 : Int32) (x3 : Int32) (x4 : Int32) (x5 : Int32) (h7 : Nat) (h8 : Nat) (h9 : Nat) (x6 : Int32) (x7 : Int32) (h10 : Nat) (x8 : Int32) (x9 : Int32) (x10 : Int32) (x11 : Int32) (y1 : Int64) (y2 : Int64) (x12 : Int32) (fm0 : Nat → Int64) (fn0 : Nat → Int32) (fm1 : Nat → Int64) (i_x5 : (0 ≤ (Int32.toInt x5) ∧ (Int32.toInt x5) ≤ 1)) (i_x6 : (0 ≤ (Int32.toInt x6) ∧ (Int32.toInt x6) ≤ 10)) (i_x7 : (0 ≤ (Int32.toInt x7) ∧ (Int32.toInt x7) ≤ 1)) (i_x8 : (0 ≤ (Int32.toInt x8) ∧ (Int32.toInt x8) ≤ 48)) (i_x9 : (0 ≤ (Int32.toInt x9) ∧ (Int32.toInt x9) ≤ 48)) (i_x10 : (0 ≤ (Int32.toInt x10) ∧ (Int32.toInt x10) ≤ 400)) (i_x11 : (0 ≤ (Int32.toInt x11) ∧ (Int32.toInt x11) ≤ 400)) (i_x12 : (0 ≤ (Int32.toInt x12) ∧ (Int32.toInt x12) ≤ 1)) (sz : Nat) : Met l yX0_pairsThenSixes wsX0_pairsThenSixes ({ frames := 3, cells := 0, slots := 0, locals := 79 }) (va_Pc [.ref h0, .int 0] (PW g [(h0, .inr (0, [.ref h1, .ref h2, .ref h6, .int x0, .int x1, .long y0, .int x2, .int x3, .int x4, .int x5, .ref h7, .ref h8, .ref h9, .int x6, .int x7])), (h1, .inr (6, [.ref h3, .ref h10, .int x8, .int x9])), (h2, .inr (5, [.ref h4, .ref h5, .int x10, .int x11, .long y1, .long y2, .int x12])), (h3, .inl (gJ g, 48, .inr (.inl fm0))), (h4, .inl (gB g, 400, .inl fn0)), (h5, .inl (gJ g, 2400, .inr (.inl fm1)))] sz)) (va_Qi (fun (r : Int32) (u : (Int32) × (Int64) × (Int64) × (Int32) × (Nat → Int32) × (Nat → Int64)) => 0 ≤ (Int32.toInt r) ∧ (Int32.toInt r) ≤ 6 ∧ 0 ≤ (Int32.toInt (u.1)) ∧ (Int32.toInt (u.1)) ≤ 400 ∧ 0 ≤ (Int32.toInt (u.2.2.2.1)) ∧ (Int32.toInt (u.2.2.2.1)) ≤ 1) (BW g (va_A [(h0, .inr (0, [.ref h1, .ref h2, .ref h6, .int x0, .int x1, .long y0, .int x2, .int x3, .int x4, .int x5, .ref h7, .ref h8, .ref h9, .int x6, .int x7])), (h1, .inr (6, [.ref h3, .ref h10, .int x8, .int x9])), (h2, .inr (5, [.ref h4, .ref h5, .int x10, .int x11, .long y1, .long y2, .int x12])), (h3, .inl (gJ g, 48, .inr (.inl fm0))), (h4, .inl (gB g, 400, .inl fn0)), (h5, .inl (gJ g, 2400, .inr (.inl fm1)))] sz) (fun u : (Int32) × (Int64) × (Int64) × (Int32) × (Nat → Int32) × (Nat → Int64) => [(h0, .inr (0, [.ref h1, .ref h2, .ref h6, .int x0, .int x1, .long y0, .int x2, .int x3, .int x4, .int x5, .ref h7, .ref h8, .ref h9, .int x6, .int x7])), (h1, .inr (6, [.ref h3, .ref h10, .int x8, .int x9])), (h2, .inr (5, [.ref h4, .ref h5, .int u.1, .int x11, .long u.2.1, .long u.2.2.1, .int u.2.2.2.1])), (h3, .inl (gJ g, 48, .inr (.inl fm0))), (h4, .inl (gB g, 400, .inl u.2.2.2.2.1)), (h5, .inl (gJ g, 2400, .inr (.inl u.2.2.2.2.2)))])) (va_A [(h0, .inr (0, [.ref h1, .ref h2, .ref h6, .int x0, .int x1, .long y0, .int x2, .int x3, .int x4, .int x5, .ref h7, .ref h8, .ref h9, .int x6, .int x7])), (h1, .inr (6, [.ref h3, .ref h10, .int x8, .int x9])), (h2, .inr (5, [.ref h4, .ref h5, .int x10, .int x11, .long y1, .long y2, .int x12])), (h3, .inl (gJ g, 48, .inr (.inl fm0))), (h4, .inl (gB g, 400, .inl fn0)), (h5, .inl (gJ g, 2400, .inr (.inl fm1)))] sz)) 0 0 (va_A [(h0, .inr (0, [.ref h1, .ref h2, .ref h6, .int x0, .int x1, .long y0, .int x2, .int x3, .int x4, .int x5, .ref h7, .ref h8, .ref h9, .int x6, .int x7])), (h1, .inr (6, [.ref h3, .ref h10, .int x8, .int x9])), (h2, .inr (5, [.ref h4, .ref h5, .int x10, .int x11, .long y1, .long y2, .int x12])), (h3, .inl (gJ g, 48, .inr (.inl fm0))), (h4, .inl (gB g, 400, .inl fn0)), (h5, .inl (gJ g, 2400, .inr (.inl fm1)))] sz) := by
  refine met_i RX0 (by decide) rfl rfl (Nat.le_of_ble_eq_true rfl) [(0, .ref h0), (1, .int 0)] rfl ?_
  intro p e s m args below meth c A Q C hnm Rt
  have hiX0 : ∀ w ∈ wsX00, w ∈ wsX0_pairsThenSixes := fun w h => List.mem_cons_of_mem _ (List.mem_append_left _ (List.mem_append_left _ (List.mem_append_left _ (List.mem_append_right _ (h)))))
  refine r_aload_n 0 0 C dX0_pairsThenSixes_0 rfl ?_
  refine r_get 1 C dX0_pairsThenSixes_1 (k := 0) 0 rfl rfl hiX0 (by decide) rfl (mg 1 rfl) (Or.inr (mg 2 rfl)) rfl ?_
  refine r_callVi 4 C dX0_pairsThenSixes_4 [] [(h1, .inr (6, [.ref h3, .ref h10, .int x8, .int x9]))] [(h0, .inr (0, [.ref h1, .ref h2, .ref h6, .int x0, .int x1, .long y0, .int x2, .int x3, .int x4, .int x5, .ref h7, .ref h8, .ref h9, .int x6, .int x7])), (h2, .inr (5, [.ref h4, .ref h5, .int x10, .int x11, .long y1, .long y2, .int x12])), (h3, .inl (gJ g, 48, .inr (.inl fm0))), (h4, .inl (gB g, 400, .inl fn0)), (h5, .inl (gJ g, 2400, .inr (.inl fm1)))] (fun sz => c231_X7_size l g h1 h3 h10 x8 x9 i_x8 i_x9 sz) gX0_pairsThenSixes_X7_size rfl ⟨rfl, rfl⟩ 0 (by decide) ⟨Nat.le_of_ble_eq_true rfl, Nat.le_of_ble_eq_true rfl⟩ 1 rfl rfl [1] [0, 2, 3, 4, 5] rfl rfl (by decide) (by decide) (by decide) rfl rfl (Nat.le_of_ble_eq_true rfl) ⟨Nat.le_of_ble_eq_true rfl, Nat.le_of_ble_eq_true rfl⟩ (fun r1 _ w2 => ?_)
  refine r_ws [(h0, .inr (0, [.ref h1, .ref h2, .ref h6, .int x0, .int x1, .long y0, .int x2, .int x3, .int x4, .int x5, .ref h7, .ref h8, .ref h9, .int x6, .int x7])), (h2, .inr (5, [.ref h4, .ref h5, .int x10, .int x11, .long y1, .long y2, .int x12])), (h3, .inl (gJ g, 48, .inr (.inl fm0))), (h4, .inl (gB g, 400, .inl fn0)), (h5, .inl (gJ g, 2400, .inr (.inl fm1))), (h1, .inr (6, [.ref h3, .ref h10, .int x8, .int x9]))] rfl ?_
  have p3 : x8 = r1 := (w2).symm
  subst p3
  refine r_iload_n 7 1 C dX0_pairsThenSixes_7 rfl ?_
  obtain ⟨z4, ez4⟩ : ∃ z_9, x8 - 0 = z_9 := ⟨_, rfl⟩
  have tz4 : (Int32.toInt z4) = (Int32.toInt x8) - 0 := by rw [← ez4]; exact fb_subIv (a := 0) (b := 48) (c := 0) (d := 0) i_x8 ⟨by decide, by decide⟩ (by decide) (by decide)
  refine r_isub 8 z4 C dX0_pairsThenSixes_8 ez4 ?_
  refine r_istore_n 9 C dX0_pairsThenSixes_9 [(2, .int z4), (0, .ref h0), (1, .int 0)] (by decide) rfl ?_
  refine r_iload_n 10 0 C dX0_pairsThenSixes_10 rfl ?_
  refine r_iconst 11 2 C dX0_pairsThenSixes_11 (by decide) ?_
  refine r_icmp_lt 12 22 C dX0_pairsThenSixes_12 (by decide) (fun c5 => ?_) (fun c5 => ?_)
  · skip
    have k6 : (Int32.toInt z4) < 2 := (fa_lt z4 2).mp c5
    refine r_iconst 22 2 C dX0_pairsThenSixes_22 (by decide) ?_
    exact r_iret 23 Rt dX0_pairsThenSixes_23 (x10, y1, y2, x12, fn0, fm1) (show 0 ≤ (Int32.toInt 2) ∧ (Int32.toInt 2) ≤ 6 ∧ 0 ≤ (Int32.toInt x10) ∧ (Int32.toInt x10) ≤ 400 ∧ 0 ≤ (Int32.toInt x12) ∧ (Int32.toInt x12) ≤ 1 from ⟨(by ((repeat' apply And.intro) <;> first | trivial | rfl | assumption | omega | decide | exact Or.inl rfl | exact Or.inr (Or.inl rfl) | exact Or.inr (Or.inr rfl))), (by ((repeat' apply And.intro) <;> first | trivial | rfl | assumption | omega | decide | exact Or.inl rfl | exact Or.inr (Or.inl rfl) | exact Or.inr (Or.inr rfl))), i_x10.1, i_x10.2, i_x12.1, i_x12.2⟩) [0, 5, 1, 2, 3, 4] (by decide) rfl (Nat.le_of_ble_eq_true rfl) (Nat.le_of_ble_eq_true rfl)
  · skip
    have k7 : ¬ ((Int32.toInt z4) < 2) := fun h_9 => c5 ((fa_lt z4 2).mpr h_9)
    refine r_iload_n 15 0 C dX0_pairsThenSixes_15 rfl ?_
    refine r_iconst 16 2 C dX0_pairsThenSixes_16 (by decide) ?_
    obtain ⟨z8, ez8⟩ : ∃ z_9, z4 - z4 / 2 * 2 = z_9 := ⟨_, rfl⟩
    have tz8 : (Int32.toInt z8) = (Int32.toInt z4) % 2 := by rw [← ez8]; exact rem_nn (by omega) (n := 2) (by decide) (by decide)
    refine r_irem 17 z8 C dX0_pairsThenSixes_17 (by decide) ez8 ?_
    refine r_iconst 18 1 C dX0_pairsThenSixes_18 (by decide) ?_
    refine r_icmp_ne 19 24 C dX0_pairsThenSixes_19 (by decide) (fun c9 => ?_) (fun c9 => ?_)
    · skip
      have k10 : ¬ ((Int32.toInt z8) = 1) := fun h_9 => c9 ((fa_eq z8 1).mpr h_9)
      refine r_aload_n 24 1 C dX0_pairsThenSixes_24 rfl ?_
      refine r_iconst 25 0 C dX0_pairsThenSixes_25 (by decide) ?_
      refine r_iload_n 26 0 C dX0_pairsThenSixes_26 rfl ?_
      refine r_callVi 27 C dX0_pairsThenSixes_27 [] [(h0, .inr (0, [.ref h1, .ref h2, .ref h6, .int x0, .int x1, .long y0, .int x2, .int x3, .int x4, .int x5, .ref h7, .ref h8, .ref h9, .int x6, .int x7])), (h1, .inr (6, [.ref h3, .ref h10, .int x8, .int x9])), (h2, .inr (5, [.ref h4, .ref h5, .int x10, .int x11, .long y1, .long y2, .int x12])), (h3, .inl (gJ g, 48, .inr (.inl fm0))), (h4, .inl (gB g, 400, .inl fn0)), (h5, .inl (gJ g, 2400, .inr (.inl fm1)))] [] (fun sz => c275_X0_lines l g h0 h1 h2 h3 h4 h5 0 z4 h6 x0 x1 y0 x2 x3 x4 x5 h7 h8 h9 x6 x7 h10 x8 x9 x10 x11 y1 y2 x12 fm0 fn0 fm1 (by decide) (iv_sub (a := 0) (b := 48) (c := 0) (d := 0) i_x8 ⟨by decide, by decide⟩ tz4) i_x5 i_x6 i_x7 i_x8 i_x9 i_x10 i_x11 i_x12 sz) gX0_pairsThenSixes_X0_lines rfl ⟨rfl, rfl⟩ 2 (by decide) ⟨Nat.le_of_ble_eq_true rfl, Nat.le_of_ble_eq_true rfl⟩ 0 rfl rfl [0, 5, 1, 2, 3, 4] [] rfl rfl (by decide) (by decide) (by decide) rfl rfl (Nat.le_of_ble_eq_true rfl) ⟨Nat.le_of_ble_eq_true rfl, Nat.le_of_ble_eq_true rfl⟩ (fun r17 u19 w18 => ?_)
      obtain ⟨z11, z12, z13, z14, f15, f16⟩ := u19
      refine r_ws [(h0, .inr (0, [.ref h1, .ref h2, .ref h6, .int x0, .int x1, .long y0, .int x2, .int x3, .int x4, .int x5, .ref h7, .ref h8, .ref h9, .int x6, .int x7])), (h1, .inr (6, [.ref h3, .ref h10, .int x8, .int x9])), (h2, .inr (5, [.ref h4, .ref h5, .int z11, .int x11, .long z12, .long z13, .int z14])), (h3, .inl (gJ g, 48, .inr (.inl fm0))), (h4, .inl (gB g, 400, .inl f15)), (h5, .inl (gJ g, 2400, .inr (.inl f16)))] rfl ?_
      have gz12 := fb_rngL z12
      have gz13 := fb_rngL z13
      have p20 : 0 ≤ (Int32.toInt r17) := w18.1
      have p21 : (Int32.toInt r17) ≤ 6 := w18.2.1
      have p22 : 0 ≤ (Int32.toInt z11) := w18.2.2.1
      have p23 : (Int32.toInt z11) ≤ 400 := w18.2.2.2.1
      have p24 : 0 ≤ (Int32.toInt z14) := w18.2.2.2.2.1
      have p25 : (Int32.toInt z14) ≤ 1 := w18.2.2.2.2.2
      refine r_istore_n 30 C dX0_pairsThenSixes_30 [(3, .int r17), (2, .int z4), (0, .ref h0), (1, .int 0)] (by decide) rfl ?_
      refine r_iload_n 31 0 C dX0_pairsThenSixes_31 rfl ?_
      refine r_if_ne 32 50 C dX0_pairsThenSixes_32 (by decide) (fun c26 => ?_) (fun c26 => ?_)
      · skip
        have k27 : ¬ ((Int32.toInt r17) = 0) := fun h_9 => c26 ((fa_eq r17 0).mpr h_9)
        refine r_iload_n 50 0 C dX0_pairsThenSixes_50 rfl ?_
        exact r_iret 51 Rt dX0_pairsThenSixes_51 (z11, z12, z13, z14, f15, f16) (show 0 ≤ (Int32.toInt r17) ∧ (Int32.toInt r17) ≤ 6 ∧ 0 ≤ (Int32.toInt z11) ∧ (Int32.toInt z11) ≤ 400 ∧ 0 ≤ (Int32.toInt z14) ∧ (Int32.toInt z14) ≤ 1 from ⟨(show _ ∧ _ from ⟨p20, p21⟩).1, (show _ ∧ _ from ⟨p20, p21⟩).2, (show _ ∧ _ from ⟨p22, p23⟩).1, (show _ ∧ _ from ⟨p22, p23⟩).2, (show _ ∧ _ from ⟨p24, p25⟩).1, (show _ ∧ _ from ⟨p24, p25⟩).2⟩) [0, 1, 2, 3, 4, 5] (by decide) rfl (Nat.le_of_ble_eq_true rfl) (Nat.le_of_ble_eq_true rfl)
      · skip
        have k28 : (Int32.toInt r17) = 0 := (fa_eq r17 0).mp c26
        refine r_aload_n 35 2 C dX0_pairsThenSixes_35 rfl ?_
        refine r_iload_n 36 1 C dX0_pairsThenSixes_36 rfl ?_
        refine r_aload_n 37 2 C dX0_pairsThenSixes_37 rfl ?_
        refine r_get 38 C dX0_pairsThenSixes_38 (k := 0) 0 rfl rfl hiX0 (by decide) rfl (mg 1 rfl) (Or.inr (mg 2 rfl)) rfl ?_
        refine r_callVi 41 C dX0_pairsThenSixes_41 [.int z4, .ref h0] [(h1, .inr (6, [.ref h3, .ref h10, .int x8, .int x9]))] [(h0, .inr (0, [.ref h1, .ref h2, .ref h6, .int x0, .int x1, .long y0, .int x2, .int x3, .int x4, .int x5, .ref h7, .ref h8, .ref h9, .int x6, .int x7])), (h2, .inr (5, [.ref h4, .ref h5, .int z11, .int x11, .long z12, .long z13, .int z14])), (h3, .inl (gJ g, 48, .inr (.inl fm0))), (h4, .inl (gB g, 400, .inl f15)), (h5, .inl (gJ g, 2400, .inr (.inl f16)))] (fun sz => c231_X7_size l g h1 h3 h10 x8 x9 i_x8 i_x9 sz) gX0_pairsThenSixes_X7_size rfl ⟨rfl, rfl⟩ 0 (by decide) ⟨Nat.le_of_ble_eq_true rfl, Nat.le_of_ble_eq_true rfl⟩ 1 rfl rfl [1] [0, 2, 3, 4, 5] rfl rfl (by decide) (by decide) (by decide) rfl rfl (Nat.le_of_ble_eq_true rfl) ⟨Nat.le_of_ble_eq_true rfl, Nat.le_of_ble_eq_true rfl⟩ (fun r29 _ w30 => ?_)
        refine r_ws [(h0, .inr (0, [.ref h1, .ref h2, .ref h6, .int x0, .int x1, .long y0, .int x2, .int x3, .int x4, .int x5, .ref h7, .ref h8, .ref h9, .int x6, .int x7])), (h2, .inr (5, [.ref h4, .ref h5, .int z11, .int x11, .long z12, .long z13, .int z14])), (h3, .inl (gJ g, 48, .inr (.inl fm0))), (h4, .inl (gB g, 400, .inl f15)), (h5, .inl (gJ g, 2400, .inr (.inl f16))), (h1, .inr (6, [.ref h3, .ref h10, .int x8, .int x9]))] rfl ?_
        have p31 : x8 = r29 := (w30).symm
        subst p31
        refine r_callUi 44 C dX0_pairsThenSixes_44 [] [(h0, .inr (0, [.ref h1, .ref h2, .ref h6, .int x0, .int x1, .long y0, .int x2, .int x3, .int x4, .int x5, .ref h7, .ref h8, .ref h9, .int x6, .int x7])), (h1, .inr (6, [.ref h3, .ref h10, .int x8, .int x9])), (h2, .inr (5, [.ref h4, .ref h5, .int z11, .int x11, .long z12, .long z13, .int z14])), (h3, .inl (gJ g, 48, .inr (.inl fm0))), (h4, .inl (gB g, 400, .inl f15)), (h5, .inl (gJ g, 2400, .inr (.inl f16)))] [] (fun sz => c276_X4_curves l g h0 h1 h2 h3 h4 h5 z4 x8 h6 x0 x1 y0 x2 x3 x4 x5 h7 h8 h9 x6 x7 h10 x8 x9 z11 x11 z12 z13 z14 fm0 f15 f16 (iv_sub (a := 0) (b := 48) (c := 0) (d := 0) i_x8 ⟨by decide, by decide⟩ tz4) i_x8 i_x5 i_x6 i_x7 i_x8 i_x9 ⟨p22, p23⟩ i_x11 ⟨p24, p25⟩ sz) gX0_pairsThenSixes_X4_curves_u110X0 rfl ⟨rfl, rfl⟩ 2 rfl (by decide) ⟨Nat.le_of_ble_eq_true rfl, Nat.le_of_ble_eq_true rfl⟩ 0 rfl rfl [0, 5, 1, 2, 3, 4] [] rfl rfl (by decide) (by decide) (by decide) rfl rfl (Nat.le_of_ble_eq_true rfl) ⟨Nat.le_of_ble_eq_true rfl, Nat.le_of_ble_eq_true rfl⟩ (fun r38 u40 w39 => ?_)
        obtain ⟨z32, z33, z34, z35, f36, f37⟩ := u40
        refine r_ws [(h0, .inr (0, [.ref h1, .ref h2, .ref h6, .int x0, .int x1, .long y0, .int x2, .int x3, .int x4, .int x5, .ref h7, .ref h8, .ref h9, .int x6, .int x7])), (h1, .inr (6, [.ref h3, .ref h10, .int x8, .int x9])), (h2, .inr (5, [.ref h4, .ref h5, .int z32, .int x11, .long z33, .long z34, .int z35])), (h3, .inl (gJ g, 48, .inr (.inl fm0))), (h4, .inl (gB g, 400, .inl f36)), (h5, .inl (gJ g, 2400, .inr (.inl f37)))] rfl ?_
        have gz33 := fb_rngL z33
        have gz34 := fb_rngL z34
        have p41 : 0 ≤ (Int32.toInt r38) := w39.1
        have p42 : (Int32.toInt r38) ≤ 6 := w39.2.1
        have p43 : 0 ≤ (Int32.toInt z32) := w39.2.2.1
        have p44 : (Int32.toInt z32) ≤ 400 := w39.2.2.2.1
        have p45 : 0 ≤ (Int32.toInt z35) := w39.2.2.2.2.1
        have p46 : (Int32.toInt z35) ≤ 1 := w39.2.2.2.2.2
        refine r_goto 47 51 C dX0_pairsThenSixes_47 (by decide) ?_
        exact r_iret 51 Rt dX0_pairsThenSixes_51 (z32, z33, z34, z35, f36, f37) (show 0 ≤ (Int32.toInt r38) ∧ (Int32.toInt r38) ≤ 6 ∧ 0 ≤ (Int32.toInt z32) ∧ (Int32.toInt z32) ≤ 400 ∧ 0 ≤ (Int32.toInt z35) ∧ (Int32.toInt z35) ≤ 1 from ⟨(show _ ∧ _ from ⟨p41, p42⟩).1, (show _ ∧ _ from ⟨p41, p42⟩).2, (show _ ∧ _ from ⟨p43, p44⟩).1, (show _ ∧ _ from ⟨p43, p44⟩).2, (show _ ∧ _ from ⟨p45, p46⟩).1, (show _ ∧ _ from ⟨p45, p46⟩).2⟩) [0, 1, 2, 3, 4, 5] (by decide) rfl (Nat.le_of_ble_eq_true rfl) (Nat.le_of_ble_eq_true rfl)
    · skip
      have k47 : (Int32.toInt z8) = 1 := (fa_eq z8 1).mp c9
      refine r_iconst 22 2 C dX0_pairsThenSixes_22 (by decide) ?_
      exact r_iret 23 Rt dX0_pairsThenSixes_23 (x10, y1, y2, x12, fn0, fm1) (show 0 ≤ (Int32.toInt 2) ∧ (Int32.toInt 2) ≤ 6 ∧ 0 ≤ (Int32.toInt x10) ∧ (Int32.toInt x10) ≤ 400 ∧ 0 ≤ (Int32.toInt x12) ∧ (Int32.toInt x12) ≤ 1 from ⟨(by ((repeat' apply And.intro) <;> first | trivial | rfl | assumption | omega | decide | exact Or.inl rfl | exact Or.inr (Or.inl rfl) | exact Or.inr (Or.inr rfl))), (by ((repeat' apply And.intro) <;> first | trivial | rfl | assumption | omega | decide | exact Or.inl rfl | exact Or.inr (Or.inl rfl) | exact Or.inr (Or.inr rfl))), i_x10.1, i_x10.2, i_x12.1, i_x12.2⟩) [0, 5, 1, 2, 3, 4] (by decide) rfl (Nat.le_of_ble_eq_true rfl) (Nat.le_of_ble_eq_true rfl)
set_option maxHeartbeats 4000000 in
set_option maxRecDepth 100000 in
theorem c278_X0_turningLines (l : Launch) (g : GD) (h0 : Nat) (h1 : Nat) (h2 : Nat) (h3 : Nat) (h4 : Nat) (h5 : Nat) (x0 : Int32) (h6 : Nat) (x1 : Int32) (x2 : Int32) (y0 : Int64) (x3 : Int32) (x4 : Int32) (x5 : Int32) (x6 : Int32) (h7 : Nat) (h8 : Nat) (h9 : Nat) (x7 : Int32) (x8 : Int32) (h10 : Nat) (x9 : Int32) (x10 : Int32) (x11 : Int32) (x12 : Int32) (y1 : Int64) (y2 : Int64) (x13 : Int32) (fm0 : Nat → Int64) (fn0 : Nat → Int32) (fm1 : Nat → Int64) (i_x0 : (0 ≤ (Int32.toInt x0) ∧ (Int32.toInt x0) ≤ 1)) (i_x6 : (0 ≤ (Int32.toInt x6) ∧ (Int32.toInt x6) ≤ 1)) (i_x7 : (0 ≤ (Int32.toInt x7) ∧ (Int32.toInt x7) ≤ 10)) (i_x8 : (0 ≤ (Int32.toInt x8) ∧ (Int32.toInt x8) ≤ 1)) (i_x9 : (0 ≤ (Int32.toInt x9) ∧ (Int32.toInt x9) ≤ 48)) (i_x10 : (0 ≤ (Int32.toInt x10) ∧ (Int32.toInt x10) ≤ 48)) (i_x11 : (0 ≤ (Int32.toInt x11) ∧ (Int32.toInt x11) ≤ 400)) (i_x12 : (0 ≤ (Int32.toInt x12) ∧ (Int32.toInt x12) ≤ 400)) (i_x13 : (0 ≤ (Int32.toInt x13) ∧ (Int32.toInt x13) ≤ 1)) (sz : Nat) : Met l yX0_turningLines wsX0_turningLines ({ frames := 2, cells := 0, slots := 0, locals := 45 }) (va_Pc [.ref h0, .int x0] (PW g [(h0, .inr (0, [.ref h1, .ref h2, .ref h6, .int x1, .int x2, .long y0, .int x3, .int x4, .int x5, .int x6, .ref h7, .ref h8, .ref h9, .int x7, .int x8])), (h1, .inr (6, [.ref h3, .ref h10, .int x9, .int x10])), (h2, .inr (5, [.ref h4, .ref h5, .int x11, .int x12, .long y1, .long y2, .int x13])), (h3, .inl (gJ g, 48, .inr (.inl fm0))), (h4, .inl (gB g, 400, .inl fn0)), (h5, .inl (gJ g, 2400, .inr (.inl fm1)))] sz)) (va_Qi (fun (r : Int32) (u : (Int32) × (Int64) × (Int64) × (Int32) × (Nat → Int32) × (Nat → Int64)) => 0 ≤ (Int32.toInt r) ∧ (Int32.toInt r) ≤ 6 ∧ 0 ≤ (Int32.toInt (u.1)) ∧ (Int32.toInt (u.1)) ≤ 400 ∧ 0 ≤ (Int32.toInt (u.2.2.2.1)) ∧ (Int32.toInt (u.2.2.2.1)) ≤ 1) (BW g (va_A [(h0, .inr (0, [.ref h1, .ref h2, .ref h6, .int x1, .int x2, .long y0, .int x3, .int x4, .int x5, .int x6, .ref h7, .ref h8, .ref h9, .int x7, .int x8])), (h1, .inr (6, [.ref h3, .ref h10, .int x9, .int x10])), (h2, .inr (5, [.ref h4, .ref h5, .int x11, .int x12, .long y1, .long y2, .int x13])), (h3, .inl (gJ g, 48, .inr (.inl fm0))), (h4, .inl (gB g, 400, .inl fn0)), (h5, .inl (gJ g, 2400, .inr (.inl fm1)))] sz) (fun u : (Int32) × (Int64) × (Int64) × (Int32) × (Nat → Int32) × (Nat → Int64) => [(h0, .inr (0, [.ref h1, .ref h2, .ref h6, .int x1, .int x2, .long y0, .int x3, .int x4, .int x5, .int x6, .ref h7, .ref h8, .ref h9, .int x7, .int x8])), (h1, .inr (6, [.ref h3, .ref h10, .int x9, .int x10])), (h2, .inr (5, [.ref h4, .ref h5, .int u.1, .int x12, .long u.2.1, .long u.2.2.1, .int u.2.2.2.1])), (h3, .inl (gJ g, 48, .inr (.inl fm0))), (h4, .inl (gB g, 400, .inl u.2.2.2.2.1)), (h5, .inl (gJ g, 2400, .inr (.inl u.2.2.2.2.2)))])) (va_A [(h0, .inr (0, [.ref h1, .ref h2, .ref h6, .int x1, .int x2, .long y0, .int x3, .int x4, .int x5, .int x6, .ref h7, .ref h8, .ref h9, .int x7, .int x8])), (h1, .inr (6, [.ref h3, .ref h10, .int x9, .int x10])), (h2, .inr (5, [.ref h4, .ref h5, .int x11, .int x12, .long y1, .long y2, .int x13])), (h3, .inl (gJ g, 48, .inr (.inl fm0))), (h4, .inl (gB g, 400, .inl fn0)), (h5, .inl (gJ g, 2400, .inr (.inl fm1)))] sz)) 0 0 (va_A [(h0, .inr (0, [.ref h1, .ref h2, .ref h6, .int x1, .int x2, .long y0, .int x3, .int x4, .int x5, .int x6, .ref h7, .ref h8, .ref h9, .int x7, .int x8])), (h1, .inr (6, [.ref h3, .ref h10, .int x9, .int x10])), (h2, .inr (5, [.ref h4, .ref h5, .int x11, .int x12, .long y1, .long y2, .int x13])), (h3, .inl (gJ g, 48, .inr (.inl fm0))), (h4, .inl (gB g, 400, .inl fn0)), (h5, .inl (gJ g, 2400, .inr (.inl fm1)))] sz) := by
  refine met_i RX0 (by decide) rfl rfl (Nat.le_of_ble_eq_true rfl) [(0, .ref h0), (1, .int x0)] rfl ?_
  intro p e s m args below meth c A Q C hnm Rt
  have hiX0 : ∀ w ∈ wsX00, w ∈ wsX0_turningLines := fun w h => List.mem_cons_of_mem _ (List.mem_append_left _ (List.mem_append_left _ (List.mem_append_left _ (List.mem_append_right _ (h)))))
  refine r_aload_n 0 0 C dX0_turningLines_0 rfl ?_
  refine r_get 1 C dX0_turningLines_1 (k := 0) 0 rfl rfl hiX0 (by decide) rfl (mg 1 rfl) (Or.inr (mg 2 rfl)) rfl ?_
  refine r_callVi 4 C dX0_turningLines_4 [] [(h1, .inr (6, [.ref h3, .ref h10, .int x9, .int x10]))] [(h0, .inr (0, [.ref h1, .ref h2, .ref h6, .int x1, .int x2, .long y0, .int x3, .int x4, .int x5, .int x6, .ref h7, .ref h8, .ref h9, .int x7, .int x8])), (h2, .inr (5, [.ref h4, .ref h5, .int x11, .int x12, .long y1, .long y2, .int x13])), (h3, .inl (gJ g, 48, .inr (.inl fm0))), (h4, .inl (gB g, 400, .inl fn0)), (h5, .inl (gJ g, 2400, .inr (.inl fm1)))] (fun sz => c231_X7_size l g h1 h3 h10 x9 x10 i_x9 i_x10 sz) gX0_turningLines_X7_size rfl ⟨rfl, rfl⟩ 0 (by decide) ⟨Nat.le_of_ble_eq_true rfl, Nat.le_of_ble_eq_true rfl⟩ 1 rfl rfl [1] [0, 2, 3, 4, 5] rfl rfl (by decide) (by decide) (by decide) rfl rfl (Nat.le_of_ble_eq_true rfl) ⟨Nat.le_of_ble_eq_true rfl, Nat.le_of_ble_eq_true rfl⟩ (fun r1 _ w2 => ?_)
  refine r_ws [(h0, .inr (0, [.ref h1, .ref h2, .ref h6, .int x1, .int x2, .long y0, .int x3, .int x4, .int x5, .int x6, .ref h7, .ref h8, .ref h9, .int x7, .int x8])), (h2, .inr (5, [.ref h4, .ref h5, .int x11, .int x12, .long y1, .long y2, .int x13])), (h3, .inl (gJ g, 48, .inr (.inl fm0))), (h4, .inl (gB g, 400, .inl fn0)), (h5, .inl (gJ g, 2400, .inr (.inl fm1))), (h1, .inr (6, [.ref h3, .ref h10, .int x9, .int x10]))] rfl ?_
  have p3 : x9 = r1 := (w2).symm
  subst p3
  refine r_istore_n 7 C dX0_turningLines_7 [(2, .int x9), (0, .ref h0), (1, .int x0)] (by decide) rfl ?_
  refine r_iload_n 8 0 C dX0_turningLines_8 rfl ?_
  refine r_iconst 9 1 C dX0_turningLines_9 (by decide) ?_
  refine r_icmp_ge 10 15 C dX0_turningLines_10 (by decide) (fun c4 => ?_) (fun c4 => ?_)
  · skip
    have k5 : 1 ≤ (Int32.toInt x9) := (fa_le 1 x9).mp c4
    refine r_iload_n 15 2 C dX0_turningLines_15 rfl ?_
    refine r_istore_n 16 C dX0_turningLines_16 [(3, .int x0), (2, .int x9), (0, .ref h0), (1, .int x0)] (by decide) rfl ?_
    refine r_iconst 17 0 C dX0_turningLines_17 (by decide) ?_
    refine r_istore 18 C dX0_turningLines_18 [(4, .int 0), (3, .int x0), (2, .int x9), (0, .ref h0), (1, .int x0)] (by decide) rfl ?_
    refine r_iconst 20 0 C dX0_turningLines_20 (by decide) ?_
    refine r_istore 21 C dX0_turningLines_21 [(5, .int 0), (4, .int 0), (3, .int x0), (2, .int x9), (0, .ref h0), (1, .int x0)] (by decide) rfl ?_
    have lp16 : ∀ (n15 : Nat) (z6 : Int32) (z7 : Int32) (z8 : Int32) (z9 : Int32) (z10 : Int64) (z11 : Int64) (z12 : Int32) (f13 : Nat → Int32) (f14 : Nat → Int64), (0 ≤ (Int32.toInt z6) ∧ (Int32.toInt z6) ≤ 48) → (0 ≤ (Int32.toInt z7) ∧ (Int32.toInt z7) ≤ 6) → (0 ≤ (Int32.toInt z8) ∧ (Int32.toInt z8) ≤ 1) → (0 ≤ (Int32.toInt z9) ∧ (Int32.toInt z9) ≤ 400) → (0 ≤ (Int32.toInt z12) ∧ (Int32.toInt z12) ≤ 1) → Int.toNat (48 - (Int32.toInt z6)) < n15 → WW p l e ({ frames := 2, cells := 0, slots := 0, locals := 45 } : Room) s m args below meth c A Q g 6 0 0 [(h0, .inr (0, [.ref h1, .ref h2, .ref h6, .int x1, .int x2, .long y0, .int x3, .int x4, .int x5, .int x6, .ref h7, .ref h8, .ref h9, .int x7, .int x8])), (h2, .inr (5, [.ref h4, .ref h5, .int z9, .int x12, .long z10, .long z11, .int z12])), (h3, .inl (gJ g, 48, .inr (.inl fm0))), (h4, .inl (gB g, 400, .inl f13)), (h5, .inl (gJ g, 2400, .inr (.inl f14))), (h1, .inr (6, [.ref h3, .ref h10, .int x9, .int x10]))] 23 [(5, .int z6), (4, .int z7), (3, .int z8), (2, .int x9), (0, .ref h0), (1, .int x0)] [] := by
      intro n15
      induction n15 with
      | zero => intro z6 z7 z8 z9 z10 z11 z12 f13 f14 i19 i20 i21 i22 i23 hm18; exact absurd hm18 (Nat.not_lt_zero _)
      | succ n15 ih17 =>
        intro z6 z7 z8 z9 z10 z11 z12 f13 f14 i19 i20 i21 i22 i23 hm18
        obtain ⟨i19a, i19b⟩ := i19
        obtain ⟨i20a, i20b⟩ := i20
        obtain ⟨i21a, i21b⟩ := i21
        obtain ⟨i22a, i22b⟩ := i22
        obtain ⟨i23a, i23b⟩ := i23
        have gz10 := fb_rngL z10
        have gz11 := fb_rngL z11
        refine r_iload 23 0 C dX0_turningLines_23 rfl ?_
        refine r_iload_n 25 3 C dX0_turningLines_25 rfl ?_
        refine r_icmp_ge 26 93 C dX0_turningLines_26 (by decide) (fun c24 => ?_) (fun c24 => ?_)
        · skip
          have k25 : (Int32.toInt x9) ≤ (Int32.toInt z6) := (fa_le x9 z6).mp c24
          refine r_iload 93 1 C dX0_turningLines_93 rfl ?_
          exact r_iret 95 Rt dX0_turningLines_95 (z9, z10, z11, z12, f13, f14) (show 0 ≤ (Int32.toInt z7) ∧ (Int32.toInt z7) ≤ 6 ∧ 0 ≤ (Int32.toInt z9) ∧ (Int32.toInt z9) ≤ 400 ∧ 0 ≤ (Int32.toInt z12) ∧ (Int32.toInt z12) ≤ 1 from ⟨(show _ ∧ _ from ⟨i20a, i20b⟩).1, (show _ ∧ _ from ⟨i20a, i20b⟩).2, (show _ ∧ _ from ⟨i22a, i22b⟩).1, (show _ ∧ _ from ⟨i22a, i22b⟩).2, (show _ ∧ _ from ⟨i23a, i23b⟩).1, (show _ ∧ _ from ⟨i23a, i23b⟩).2⟩) [0, 5, 1, 2, 3, 4] (by decide) rfl (Nat.le_of_ble_eq_true rfl) (Nat.le_of_ble_eq_true rfl)
        · skip
          have k26 : ¬ ((Int32.toInt x9) ≤ (Int32.toInt z6)) := fun h_9 => c24 ((fa_le x9 z6).mpr h_9)
          refine r_iload 29 1 C dX0_turningLines_29 rfl ?_
          refine r_if_ne 31 93 C dX0_turningLines_31 (by decide) (fun c27 => ?_) (fun c27 => ?_)
          · skip
            have k28 : ¬ ((Int32.toInt z7) = 0) := fun h_9 => c27 ((fa_eq z7 0).mpr h_9)
            refine r_iload 93 1 C dX0_turningLines_93 rfl ?_
            exact r_iret 95 Rt dX0_turningLines_95 (z9, z10, z11, z12, f13, f14) (show 0 ≤ (Int32.toInt z7) ∧ (Int32.toInt z7) ≤ 6 ∧ 0 ≤ (Int32.toInt z9) ∧ (Int32.toInt z9) ≤ 400 ∧ 0 ≤ (Int32.toInt z12) ∧ (Int32.toInt z12) ≤ 1 from ⟨(show _ ∧ _ from ⟨i20a, i20b⟩).1, (show _ ∧ _ from ⟨i20a, i20b⟩).2, (show _ ∧ _ from ⟨i22a, i22b⟩).1, (show _ ∧ _ from ⟨i22a, i22b⟩).2, (show _ ∧ _ from ⟨i23a, i23b⟩).1, (show _ ∧ _ from ⟨i23a, i23b⟩).2⟩) [0, 5, 1, 2, 3, 4] (by decide) rfl (Nat.le_of_ble_eq_true rfl) (Nat.le_of_ble_eq_true rfl)
          · skip
            have k29 : (Int32.toInt z7) = 0 := (fa_eq z7 0).mp c27
            refine r_iload_n 34 2 C dX0_turningLines_34 rfl ?_
            refine r_if_eq 35 58 C dX0_turningLines_35 (by decide) (fun c30 => ?_) (fun c30 => ?_)
            · skip
              have k31 : (Int32.toInt z8) = 0 := (fa_eq z8 0).mp c30
              refine r_aload_n 58 4 C dX0_turningLines_58 rfl ?_
              refine r_get 59 C dX0_turningLines_59 (k := 1) 0 rfl rfl hiX0 (by decide) rfl (mg 3 rfl) (Or.inr (mg 4 rfl)) rfl ?_
              refine r_lconst 62 0 C dX0_turningLines_62 (by decide) ?_
              refine r_aload_n 63 4 C dX0_turningLines_63 rfl ?_
              refine r_get 64 C dX0_turningLines_64 (k := 0) 0 rfl rfl hiX0 (by decide) rfl (mg 1 rfl) (Or.inr (mg 2 rfl)) rfl ?_
              refine r_iload 67 0 C dX0_turningLines_67 rfl ?_
              refine r_callVl 69 C dX0_turningLines_69 [.long 0, .ref h2] [(h1, .inr (6, [.ref h3, .ref h10, .int x9, .int x10])), (h3, .inl (gJ g, 48, .inr (.inl fm0)))] [(h0, .inr (0, [.ref h1, .ref h2, .ref h6, .int x1, .int x2, .long y0, .int x3, .int x4, .int x5, .int x6, .ref h7, .ref h8, .ref h9, .int x7, .int x8])), (h2, .inr (5, [.ref h4, .ref h5, .int z9, .int x12, .long z10, .long z11, .int z12])), (h4, .inl (gB g, 400, .inl f13)), (h5, .inl (gJ g, 2400, .inr (.inl f14)))] (fun sz => c232_X7_get l g h1 h3 z6 h10 x9 x10 fm0 i_x9 i_x10 sz) gX0_turningLines_X7_get rfl ⟨rfl, rfl⟩ 1 (by decide) ⟨Nat.le_of_ble_eq_true rfl, Nat.le_of_ble_eq_true rfl⟩ 5 rfl rfl [5, 2] [0, 1, 3, 4] rfl rfl (by decide) (by decide) (by decide) rfl rfl (Nat.le_of_ble_eq_true rfl) ⟨Nat.le_of_ble_eq_true rfl, Nat.le_of_ble_eq_true rfl⟩ (fun r32 _ w33 => ?_)
              refine r_ws [(h0, .inr (0, [.ref h1, .ref h2, .ref h6, .int x1, .int x2, .long y0, .int x3, .int x4, .int x5, .int x6, .ref h7, .ref h8, .ref h9, .int x7, .int x8])), (h2, .inr (5, [.ref h4, .ref h5, .int z9, .int x12, .long z10, .long z11, .int z12])), (h4, .inl (gB g, 400, .inl f13)), (h5, .inl (gJ g, 2400, .inr (.inl f14))), (h1, .inr (6, [.ref h3, .ref h10, .int x9, .int x10])), (h3, .inl (gJ g, 48, .inr (.inl fm0)))] rfl ?_
              have gr32 := fb_rngL r32
              refine r_callVi 72 C dX0_turningLines_72 [] [(h2, .inr (5, [.ref h4, .ref h5, .int z9, .int x12, .long z10, .long z11, .int z12])), (h4, .inl (gB g, 400, .inl f13)), (h5, .inl (gJ g, 2400, .inr (.inl f14)))] [(h0, .inr (0, [.ref h1, .ref h2, .ref h6, .int x1, .int x2, .long y0, .int x3, .int x4, .int x5, .int x6, .ref h7, .ref h8, .ref h9, .int x7, .int x8])), (h1, .inr (6, [.ref h3, .ref h10, .int x9, .int x10])), (h3, .inl (gJ g, 48, .inr (.inl fm0)))] (fun sz => c254_X6_lineBy l g h2 h4 h5 0 r32 z9 x12 z10 z11 z12 f13 f14 ⟨i22a, i22b⟩ i_x12 ⟨i23a, i23b⟩ sz) gX0_turningLines_X6_lineBy rfl ⟨rfl, rfl⟩ 2 (by decide) ⟨Nat.le_of_ble_eq_true rfl, Nat.le_of_ble_eq_true rfl⟩ 1 rfl rfl [1, 2, 3] [0, 4, 5] rfl rfl (by decide) (by decide) (by decide) rfl rfl (Nat.le_of_ble_eq_true rfl) ⟨Nat.le_of_ble_eq_true rfl, Nat.le_of_ble_eq_true rfl⟩ (fun r39 u41 w40 => ?_)
              obtain ⟨z34, z35, z36, f37, f38⟩ := u41
              refine r_ws [(h0, .inr (0, [.ref h1, .ref h2, .ref h6, .int x1, .int x2, .long y0, .int x3, .int x4, .int x5, .int x6, .ref h7, .ref h8, .ref h9, .int x7, .int x8])), (h1, .inr (6, [.ref h3, .ref h10, .int x9, .int x10])), (h3, .inl (gJ g, 48, .inr (.inl fm0))), (h2, .inr (5, [.ref h4, .ref h5, .int z34, .int x12, .long z35, .long z36, .int 1])), (h4, .inl (gB g, 400, .inl f37)), (h5, .inl (gJ g, 2400, .inr (.inl f38)))] rfl ?_
              have gz35 := fb_rngL z35
              have gz36 := fb_rngL z36
              have p42 : 0 ≤ (Int32.toInt r39) := w40.1
              have p43 : (Int32.toInt r39) ≤ 6 := w40.2.1
              have p44 : 0 ≤ (Int32.toInt z34) := w40.2.2.1
              have p45 : (Int32.toInt z34) ≤ 400 := w40.2.2.2
              refine r_istore 75 C dX0_turningLines_75 [(4, .int r39), (5, .int z6), (3, .int z8), (2, .int x9), (0, .ref h0), (1, .int x0)] (by decide) rfl ?_
              refine r_iload_n 77 2 C dX0_turningLines_77 rfl ?_
              refine r_if_ne_f 78 85 C dX0_turningLines_78 (by decide) ((fa_eq z8 0).mpr (by show (Int32.toInt z8) = 0; omega)) ?_
              refine r_iconst 81 1 C dX0_turningLines_81 (by decide) ?_
              refine r_goto 82 86 C dX0_turningLines_82 (by decide) ?_
              refine r_istore_n 86 C dX0_turningLines_86 [(3, .int 1), (4, .int r39), (5, .int z6), (2, .int x9), (0, .ref h0), (1, .int x0)] (by decide) rfl ?_
              obtain ⟨z46, ez46⟩ : ∃ z_9, z6 + Int32.ofInt 1 = z_9 := ⟨_, rfl⟩
              have tz46 : (Int32.toInt z46) = (Int32.toInt z6) + 1 := by rw [← ez46]; exact fb_addIv (a := 0) (b := 48) (c := 1) (d := 1) ⟨i19a, i19b⟩ ⟨by decide, by decide⟩ (by decide) (by decide)
              refine r_iinc 87 2 z46 C dX0_turningLines_87 rfl ez46 [(5, .int z46), (3, .int 1), (4, .int r39), (2, .int x9), (0, .ref h0), (1, .int x0)] (by decide) rfl ?_
              refine r_goto 90 23 C dX0_turningLines_90 (by decide) ?_
              refine r_lv [(5, .int z46), (4, .int r39), (3, .int 1), (2, .int x9), (0, .ref h0), (1, .int x0)] [0, 2, 1, 3, 4, 5] rfl ?_
              refine r_pick [(h0, .inr (0, [.ref h1, .ref h2, .ref h6, .int x1, .int x2, .long y0, .int x3, .int x4, .int x5, .int x6, .ref h7, .ref h8, .ref h9, .int x7, .int x8])), (h2, .inr (5, [.ref h4, .ref h5, .int z34, .int x12, .long z35, .long z36, .int 1])), (h3, .inl (gJ g, 48, .inr (.inl fm0))), (h4, .inl (gB g, 400, .inl f37)), (h5, .inl (gJ g, 2400, .inr (.inl f38))), (h1, .inr (6, [.ref h3, .ref h10, .int x9, .int x10]))] [0, 3, 2, 4, 5, 1] (by decide) rfl ?_
              exact ih17 z46 r39 1 z34 z35 z36 1 f37 f38 ⟨by omega, by omega⟩ ⟨p42, p43⟩ (by decide) ⟨p44, p45⟩ (by decide) (by omega)
            · skip
              have k47 : ¬ ((Int32.toInt z8) = 0) := fun h_9 => c30 ((fa_eq z8 0).mpr h_9)
              refine r_aload_n 38 4 C dX0_turningLines_38 rfl ?_
              refine r_get 39 C dX0_turningLines_39 (k := 1) 0 rfl rfl hiX0 (by decide) rfl (mg 3 rfl) (Or.inr (mg 4 rfl)) rfl ?_
              refine r_aload_n 42 4 C dX0_turningLines_42 rfl ?_
              refine r_get 43 C dX0_turningLines_43 (k := 0) 0 rfl rfl hiX0 (by decide) rfl (mg 1 rfl) (Or.inr (mg 2 rfl)) rfl ?_
              refine r_iload 46 0 C dX0_turningLines_46 rfl ?_
              refine r_callVl 48 C dX0_turningLines_48 [.ref h2] [(h1, .inr (6, [.ref h3, .ref h10, .int x9, .int x10])), (h3, .inl (gJ g, 48, .inr (.inl fm0)))] [(h0, .inr (0, [.ref h1, .ref h2, .ref h6, .int x1, .int x2, .long y0, .int x3, .int x4, .int x5, .int x6, .ref h7, .ref h8, .ref h9, .int x7, .int x8])), (h2, .inr (5, [.ref h4, .ref h5, .int z9, .int x12, .long z10, .long z11, .int z12])), (h4, .inl (gB g, 400, .inl f13)), (h5, .inl (gJ g, 2400, .inr (.inl f14)))] (fun sz => c232_X7_get l g h1 h3 z6 h10 x9 x10 fm0 i_x9 i_x10 sz) gX0_turningLines_X7_get rfl ⟨rfl, rfl⟩ 1 (by decide) ⟨Nat.le_of_ble_eq_true rfl, Nat.le_of_ble_eq_true rfl⟩ 5 rfl rfl [5, 2] [0, 1, 3, 4] rfl rfl (by decide) (by decide) (by decide) rfl rfl (Nat.le_of_ble_eq_true rfl) ⟨Nat.le_of_ble_eq_true rfl, Nat.le_of_ble_eq_true rfl⟩ (fun r48 _ w49 => ?_)
              refine r_ws [(h0, .inr (0, [.ref h1, .ref h2, .ref h6, .int x1, .int x2, .long y0, .int x3, .int x4, .int x5, .int x6, .ref h7, .ref h8, .ref h9, .int x7, .int x8])), (h2, .inr (5, [.ref h4, .ref h5, .int z9, .int x12, .long z10, .long z11, .int z12])), (h4, .inl (gB g, 400, .inl f13)), (h5, .inl (gJ g, 2400, .inr (.inl f14))), (h1, .inr (6, [.ref h3, .ref h10, .int x9, .int x10])), (h3, .inl (gJ g, 48, .inr (.inl fm0)))] rfl ?_
              have gr48 := fb_rngL r48
              refine r_lconst 51 0 C dX0_turningLines_51 (by decide) ?_
              refine r_callVi 52 C dX0_turningLines_52 [] [(h2, .inr (5, [.ref h4, .ref h5, .int z9, .int x12, .long z10, .long z11, .int z12])), (h4, .inl (gB g, 400, .inl f13)), (h5, .inl (gJ g, 2400, .inr (.inl f14)))] [(h0, .inr (0, [.ref h1, .ref h2, .ref h6, .int x1, .int x2, .long y0, .int x3, .int x4, .int x5, .int x6, .ref h7, .ref h8, .ref h9, .int x7, .int x8])), (h1, .inr (6, [.ref h3, .ref h10, .int x9, .int x10])), (h3, .inl (gJ g, 48, .inr (.inl fm0)))] (fun sz => c254_X6_lineBy l g h2 h4 h5 r48 0 z9 x12 z10 z11 z12 f13 f14 ⟨i22a, i22b⟩ i_x12 ⟨i23a, i23b⟩ sz) gX0_turningLines_X6_lineBy rfl ⟨rfl, rfl⟩ 2 (by decide) ⟨Nat.le_of_ble_eq_true rfl, Nat.le_of_ble_eq_true rfl⟩ 1 rfl rfl [1, 2, 3] [0, 4, 5] rfl rfl (by decide) (by decide) (by decide) rfl rfl (Nat.le_of_ble_eq_true rfl) ⟨Nat.le_of_ble_eq_true rfl, Nat.le_of_ble_eq_true rfl⟩ (fun r55 u57 w56 => ?_)
              obtain ⟨z50, z51, z52, f53, f54⟩ := u57
              refine r_ws [(h0, .inr (0, [.ref h1, .ref h2, .ref h6, .int x1, .int x2, .long y0, .int x3, .int x4, .int x5, .int x6, .ref h7, .ref h8, .ref h9, .int x7, .int x8])), (h1, .inr (6, [.ref h3, .ref h10, .int x9, .int x10])), (h3, .inl (gJ g, 48, .inr (.inl fm0))), (h2, .inr (5, [.ref h4, .ref h5, .int z50, .int x12, .long z51, .long z52, .int 1])), (h4, .inl (gB g, 400, .inl f53)), (h5, .inl (gJ g, 2400, .inr (.inl f54)))] rfl ?_
              have gz51 := fb_rngL z51
              have gz52 := fb_rngL z52
              have p58 : 0 ≤ (Int32.toInt r55) := w56.1
              have p59 : (Int32.toInt r55) ≤ 6 := w56.2.1
              have p60 : 0 ≤ (Int32.toInt z50) := w56.2.2.1
              have p61 : (Int32.toInt z50) ≤ 400 := w56.2.2.2
              refine r_goto 55 75 C dX0_turningLines_55 (by decide) ?_
              refine r_istore 75 C dX0_turningLines_75 [(4, .int r55), (5, .int z6), (3, .int z8), (2, .int x9), (0, .ref h0), (1, .int x0)] (by decide) rfl ?_
              refine r_iload_n 77 2 C dX0_turningLines_77 rfl ?_
              refine r_if_ne_t 78 85 C dX0_turningLines_78 (by decide) (fun h_9 => by have h_8 : (Int32.toInt z8) = 0 := (fa_eq z8 0).mp h_9; omega) ?_
              refine r_iconst 85 0 C dX0_turningLines_85 (by decide) ?_
              refine r_istore_n 86 C dX0_turningLines_86 [(3, .int 0), (4, .int r55), (5, .int z6), (2, .int x9), (0, .ref h0), (1, .int x0)] (by decide) rfl ?_
              obtain ⟨z62, ez62⟩ : ∃ z_9, z6 + Int32.ofInt 1 = z_9 := ⟨_, rfl⟩
              have tz62 : (Int32.toInt z62) = (Int32.toInt z6) + 1 := by rw [← ez62]; exact fb_addIv (a := 0) (b := 48) (c := 1) (d := 1) ⟨i19a, i19b⟩ ⟨by decide, by decide⟩ (by decide) (by decide)
              refine r_iinc 87 2 z62 C dX0_turningLines_87 rfl ez62 [(5, .int z62), (3, .int 0), (4, .int r55), (2, .int x9), (0, .ref h0), (1, .int x0)] (by decide) rfl ?_
              refine r_goto 90 23 C dX0_turningLines_90 (by decide) ?_
              refine r_lv [(5, .int z62), (4, .int r55), (3, .int 0), (2, .int x9), (0, .ref h0), (1, .int x0)] [0, 2, 1, 3, 4, 5] rfl ?_
              refine r_pick [(h0, .inr (0, [.ref h1, .ref h2, .ref h6, .int x1, .int x2, .long y0, .int x3, .int x4, .int x5, .int x6, .ref h7, .ref h8, .ref h9, .int x7, .int x8])), (h2, .inr (5, [.ref h4, .ref h5, .int z50, .int x12, .long z51, .long z52, .int 1])), (h3, .inl (gJ g, 48, .inr (.inl fm0))), (h4, .inl (gB g, 400, .inl f53)), (h5, .inl (gJ g, 2400, .inr (.inl f54))), (h1, .inr (6, [.ref h3, .ref h10, .int x9, .int x10]))] [0, 3, 2, 4, 5, 1] (by decide) rfl ?_
              exact ih17 z62 r55 0 z50 z51 z52 1 f53 f54 ⟨by omega, by omega⟩ ⟨p58, p59⟩ (by decide) ⟨p60, p61⟩ (by decide) (by omega)
    exact lp16 _ 0 0 x0 x11 y1 y2 x13 fn0 fm1 (by decide) (by decide) i_x0 i_x11 i_x13 (Nat.lt_succ_self _)
  · skip
    have k63 : ¬ (1 ≤ (Int32.toInt x9)) := fun h_9 => c4 ((fa_le 1 x9).mpr h_9)
    refine r_iconst 13 2 C dX0_turningLines_13 (by decide) ?_
    exact r_iret 14 Rt dX0_turningLines_14 (x11, y1, y2, x13, fn0, fm1) (show 0 ≤ (Int32.toInt 2) ∧ (Int32.toInt 2) ≤ 6 ∧ 0 ≤ (Int32.toInt x11) ∧ (Int32.toInt x11) ≤ 400 ∧ 0 ≤ (Int32.toInt x13) ∧ (Int32.toInt x13) ≤ 1 from ⟨(by ((repeat' apply And.intro) <;> first | trivial | rfl | assumption | omega | decide | exact Or.inl rfl | exact Or.inr (Or.inl rfl) | exact Or.inr (Or.inr rfl))), (by ((repeat' apply And.intro) <;> first | trivial | rfl | assumption | omega | decide | exact Or.inl rfl | exact Or.inr (Or.inl rfl) | exact Or.inr (Or.inr rfl))), i_x11.1, i_x11.2, i_x13.1, i_x13.2⟩) [0, 5, 1, 2, 3, 4] (by decide) rfl (Nat.le_of_ble_eq_true rfl) (Nat.le_of_ble_eq_true rfl)
set_option maxHeartbeats 4000000 in
set_option maxRecDepth 100000 in
theorem c279_X0_sixesThenPair (l : Launch) (g : GD) (h0 : Nat) (h1 : Nat) (h2 : Nat) (h3 : Nat) (h4 : Nat) (h5 : Nat) (h6 : Nat) (x0 : Int32) (x1 : Int32) (y0 : Int64) (x2 : Int32) (x3 : Int32) (x4 : Int32) (x5 : Int32) (h7 : Nat) (h8 : Nat) (h9 : Nat) (x6 : Int32) (x7 : Int32) (h10 : Nat) (x8 : Int32) (x9 : Int32) (x10 : Int32) (x11 : Int32) (y1 : Int64) (y2 : Int64) (x12 : Int32) (fm0 : Nat → Int64) (fn0 : Nat → Int32) (fm1 : Nat → Int64) (i_x5 : (0 ≤ (Int32.toInt x5) ∧ (Int32.toInt x5) ≤ 1)) (i_x6 : (0 ≤ (Int32.toInt x6) ∧ (Int32.toInt x6) ≤ 10)) (i_x7 : (0 ≤ (Int32.toInt x7) ∧ (Int32.toInt x7) ≤ 1)) (i_x8 : (0 ≤ (Int32.toInt x8) ∧ (Int32.toInt x8) ≤ 48)) (i_x9 : (0 ≤ (Int32.toInt x9) ∧ (Int32.toInt x9) ≤ 48)) (i_x10 : (0 ≤ (Int32.toInt x10) ∧ (Int32.toInt x10) ≤ 400)) (i_x11 : (0 ≤ (Int32.toInt x11) ∧ (Int32.toInt x11) ≤ 400)) (i_x12 : (0 ≤ (Int32.toInt x12) ∧ (Int32.toInt x12) ≤ 1)) (sz : Nat) : Met l yX0_sixesThenPair wsX0_sixesThenPair ({ frames := 3, cells := 0, slots := 0, locals := 79 }) (va_Pc [.ref h0, .int 0] (PW g [(h0, .inr (0, [.ref h1, .ref h2, .ref h6, .int x0, .int x1, .long y0, .int x2, .int x3, .int x4, .int x5, .ref h7, .ref h8, .ref h9, .int x6, .int x7])), (h1, .inr (6, [.ref h3, .ref h10, .int x8, .int x9])), (h2, .inr (5, [.ref h4, .ref h5, .int x10, .int x11, .long y1, .long y2, .int x12])), (h3, .inl (gJ g, 48, .inr (.inl fm0))), (h4, .inl (gB g, 400, .inl fn0)), (h5, .inl (gJ g, 2400, .inr (.inl fm1)))] sz)) (va_Qi (fun (r : Int32) (u : (Int32) × (Int64) × (Int64) × (Int32) × (Nat → Int32) × (Nat → Int64)) => 0 ≤ (Int32.toInt r) ∧ (Int32.toInt r) ≤ 6 ∧ 0 ≤ (Int32.toInt (u.1)) ∧ (Int32.toInt (u.1)) ≤ 400 ∧ 0 ≤ (Int32.toInt (u.2.2.2.1)) ∧ (Int32.toInt (u.2.2.2.1)) ≤ 1) (BW g (va_A [(h0, .inr (0, [.ref h1, .ref h2, .ref h6, .int x0, .int x1, .long y0, .int x2, .int x3, .int x4, .int x5, .ref h7, .ref h8, .ref h9, .int x6, .int x7])), (h1, .inr (6, [.ref h3, .ref h10, .int x8, .int x9])), (h2, .inr (5, [.ref h4, .ref h5, .int x10, .int x11, .long y1, .long y2, .int x12])), (h3, .inl (gJ g, 48, .inr (.inl fm0))), (h4, .inl (gB g, 400, .inl fn0)), (h5, .inl (gJ g, 2400, .inr (.inl fm1)))] sz) (fun u : (Int32) × (Int64) × (Int64) × (Int32) × (Nat → Int32) × (Nat → Int64) => [(h0, .inr (0, [.ref h1, .ref h2, .ref h6, .int x0, .int x1, .long y0, .int x2, .int x3, .int x4, .int x5, .ref h7, .ref h8, .ref h9, .int x6, .int x7])), (h1, .inr (6, [.ref h3, .ref h10, .int x8, .int x9])), (h2, .inr (5, [.ref h4, .ref h5, .int u.1, .int x11, .long u.2.1, .long u.2.2.1, .int u.2.2.2.1])), (h3, .inl (gJ g, 48, .inr (.inl fm0))), (h4, .inl (gB g, 400, .inl u.2.2.2.2.1)), (h5, .inl (gJ g, 2400, .inr (.inl u.2.2.2.2.2)))])) (va_A [(h0, .inr (0, [.ref h1, .ref h2, .ref h6, .int x0, .int x1, .long y0, .int x2, .int x3, .int x4, .int x5, .ref h7, .ref h8, .ref h9, .int x6, .int x7])), (h1, .inr (6, [.ref h3, .ref h10, .int x8, .int x9])), (h2, .inr (5, [.ref h4, .ref h5, .int x10, .int x11, .long y1, .long y2, .int x12])), (h3, .inl (gJ g, 48, .inr (.inl fm0))), (h4, .inl (gB g, 400, .inl fn0)), (h5, .inl (gJ g, 2400, .inr (.inl fm1)))] sz)) 0 0 (va_A [(h0, .inr (0, [.ref h1, .ref h2, .ref h6, .int x0, .int x1, .long y0, .int x2, .int x3, .int x4, .int x5, .ref h7, .ref h8, .ref h9, .int x6, .int x7])), (h1, .inr (6, [.ref h3, .ref h10, .int x8, .int x9])), (h2, .inr (5, [.ref h4, .ref h5, .int x10, .int x11, .long y1, .long y2, .int x12])), (h3, .inl (gJ g, 48, .inr (.inl fm0))), (h4, .inl (gB g, 400, .inl fn0)), (h5, .inl (gJ g, 2400, .inr (.inl fm1)))] sz) := by
  refine met_i RX0 (by decide) rfl rfl (Nat.le_of_ble_eq_true rfl) [(0, .ref h0), (1, .int 0)] rfl ?_
  intro p e s m args below meth c A Q C hnm Rt
  have hiX0 : ∀ w ∈ wsX00, w ∈ wsX0_sixesThenPair := fun w h => List.mem_cons_of_mem _ (List.mem_append_left _ (List.mem_append_left _ (List.mem_append_left _ (List.mem_append_right _ (h)))))
  refine r_aload_n 0 0 C dX0_sixesThenPair_0 rfl ?_
  refine r_get 1 C dX0_sixesThenPair_1 (k := 0) 0 rfl rfl hiX0 (by decide) rfl (mg 1 rfl) (Or.inr (mg 2 rfl)) rfl ?_
  refine r_callVi 4 C dX0_sixesThenPair_4 [] [(h1, .inr (6, [.ref h3, .ref h10, .int x8, .int x9]))] [(h0, .inr (0, [.ref h1, .ref h2, .ref h6, .int x0, .int x1, .long y0, .int x2, .int x3, .int x4, .int x5, .ref h7, .ref h8, .ref h9, .int x6, .int x7])), (h2, .inr (5, [.ref h4, .ref h5, .int x10, .int x11, .long y1, .long y2, .int x12])), (h3, .inl (gJ g, 48, .inr (.inl fm0))), (h4, .inl (gB g, 400, .inl fn0)), (h5, .inl (gJ g, 2400, .inr (.inl fm1)))] (fun sz => c231_X7_size l g h1 h3 h10 x8 x9 i_x8 i_x9 sz) gX0_sixesThenPair_X7_size rfl ⟨rfl, rfl⟩ 0 (by decide) ⟨Nat.le_of_ble_eq_true rfl, Nat.le_of_ble_eq_true rfl⟩ 1 rfl rfl [1] [0, 2, 3, 4, 5] rfl rfl (by decide) (by decide) (by decide) rfl rfl (Nat.le_of_ble_eq_true rfl) ⟨Nat.le_of_ble_eq_true rfl, Nat.le_of_ble_eq_true rfl⟩ (fun r1 _ w2 => ?_)
  refine r_ws [(h0, .inr (0, [.ref h1, .ref h2, .ref h6, .int x0, .int x1, .long y0, .int x2, .int x3, .int x4, .int x5, .ref h7, .ref h8, .ref h9, .int x6, .int x7])), (h2, .inr (5, [.ref h4, .ref h5, .int x10, .int x11, .long y1, .long y2, .int x12])), (h3, .inl (gJ g, 48, .inr (.inl fm0))), (h4, .inl (gB g, 400, .inl fn0)), (h5, .inl (gJ g, 2400, .inr (.inl fm1))), (h1, .inr (6, [.ref h3, .ref h10, .int x8, .int x9]))] rfl ?_
  have p3 : x8 = r1 := (w2).symm
  subst p3
  refine r_iload_n 7 1 C dX0_sixesThenPair_7 rfl ?_
  obtain ⟨z4, ez4⟩ : ∃ z_9, x8 - 0 = z_9 := ⟨_, rfl⟩
  have tz4 : (Int32.toInt z4) = (Int32.toInt x8) - 0 := by rw [← ez4]; exact fb_subIv (a := 0) (b := 48) (c := 0) (d := 0) i_x8 ⟨by decide, by decide⟩ (by decide) (by decide)
  refine r_isub 8 z4 C dX0_sixesThenPair_8 ez4 ?_
  refine r_istore_n 9 C dX0_sixesThenPair_9 [(2, .int z4), (0, .ref h0), (1, .int 0)] (by decide) rfl ?_
  refine r_iload_n 10 0 C dX0_sixesThenPair_10 rfl ?_
  refine r_bipush 11 6 C dX0_sixesThenPair_11 (by decide) ?_
  refine r_icmp_lt 13 23 C dX0_sixesThenPair_13 (by decide) (fun c5 => ?_) (fun c5 => ?_)
  · skip
    have k6 : (Int32.toInt z4) < 6 := (fa_lt z4 6).mp c5
    refine r_iconst 23 2 C dX0_sixesThenPair_23 (by decide) ?_
    exact r_iret 24 Rt dX0_sixesThenPair_24 (x10, y1, y2, x12, fn0, fm1) (show 0 ≤ (Int32.toInt 2) ∧ (Int32.toInt 2) ≤ 6 ∧ 0 ≤ (Int32.toInt x10) ∧ (Int32.toInt x10) ≤ 400 ∧ 0 ≤ (Int32.toInt x12) ∧ (Int32.toInt x12) ≤ 1 from ⟨(by ((repeat' apply And.intro) <;> first | trivial | rfl | assumption | omega | decide | exact Or.inl rfl | exact Or.inr (Or.inl rfl) | exact Or.inr (Or.inr rfl))), (by ((repeat' apply And.intro) <;> first | trivial | rfl | assumption | omega | decide | exact Or.inl rfl | exact Or.inr (Or.inl rfl) | exact Or.inr (Or.inr rfl))), i_x10.1, i_x10.2, i_x12.1, i_x12.2⟩) [0, 5, 1, 2, 3, 4] (by decide) rfl (Nat.le_of_ble_eq_true rfl) (Nat.le_of_ble_eq_true rfl)
  · skip
    have k7 : ¬ ((Int32.toInt z4) < 6) := fun h_9 => c5 ((fa_lt z4 6).mpr h_9)
    refine r_iload_n 16 0 C dX0_sixesThenPair_16 rfl ?_
    refine r_bipush 17 6 C dX0_sixesThenPair_17 (by decide) ?_
    obtain ⟨z8, ez8⟩ : ∃ z_9, z4 - z4 / 6 * 6 = z_9 := ⟨_, rfl⟩
    have tz8 : (Int32.toInt z8) = (Int32.toInt z4) % 6 := by rw [← ez8]; exact rem_nn (by omega) (n := 6) (by decide) (by decide)
    refine r_irem 19 z8 C dX0_sixesThenPair_19 (by decide) ez8 ?_
    refine r_if_eq 20 25 C dX0_sixesThenPair_20 (by decide) (fun c9 => ?_) (fun c9 => ?_)
    · skip
      have k10 : (Int32.toInt z8) = 0 := (fa_eq z8 0).mp c9
      refine r_aload_n 25 1 C dX0_sixesThenPair_25 rfl ?_
      refine r_iconst 26 0 C dX0_sixesThenPair_26 (by decide) ?_
      refine r_iload_n 27 0 C dX0_sixesThenPair_27 rfl ?_
      refine r_callUi 28 C dX0_sixesThenPair_28 [] [(h0, .inr (0, [.ref h1, .ref h2, .ref h6, .int x0, .int x1, .long y0, .int x2, .int x3, .int x4, .int x5, .ref h7, .ref h8, .ref h9, .int x6, .int x7])), (h1, .inr (6, [.ref h3, .ref h10, .int x8, .int x9])), (h2, .inr (5, [.ref h4, .ref h5, .int x10, .int x11, .long y1, .long y2, .int x12])), (h3, .inl (gJ g, 48, .inr (.inl fm0))), (h4, .inl (gB g, 400, .inl fn0)), (h5, .inl (gJ g, 2400, .inr (.inl fm1)))] [] (fun sz => c276_X4_curves l g h0 h1 h2 h3 h4 h5 0 z4 h6 x0 x1 y0 x2 x3 x4 x5 h7 h8 h9 x6 x7 h10 x8 x9 x10 x11 y1 y2 x12 fm0 fn0 fm1 (by decide) (iv_sub (a := 0) (b := 48) (c := 0) (d := 0) i_x8 ⟨by decide, by decide⟩ tz4) i_x5 i_x6 i_x7 i_x8 i_x9 i_x10 i_x11 i_x12 sz) gX0_sixesThenPair_X4_curves_u110X0 rfl ⟨rfl, rfl⟩ 2 rfl (by decide) ⟨Nat.le_of_ble_eq_true rfl, Nat.le_of_ble_eq_true rfl⟩ 0 rfl rfl [0, 5, 1, 2, 3, 4] [] rfl rfl (by decide) (by decide) (by decide) rfl rfl (Nat.le_of_ble_eq_true rfl) ⟨Nat.le_of_ble_eq_true rfl, Nat.le_of_ble_eq_true rfl⟩ (fun r17 u19 w18 => ?_)
      obtain ⟨z11, z12, z13, z14, f15, f16⟩ := u19
      refine r_ws [(h0, .inr (0, [.ref h1, .ref h2, .ref h6, .int x0, .int x1, .long y0, .int x2, .int x3, .int x4, .int x5, .ref h7, .ref h8, .ref h9, .int x6, .int x7])), (h1, .inr (6, [.ref h3, .ref h10, .int x8, .int x9])), (h2, .inr (5, [.ref h4, .ref h5, .int z11, .int x11, .long z12, .long z13, .int z14])), (h3, .inl (gJ g, 48, .inr (.inl fm0))), (h4, .inl (gB g, 400, .inl f15)), (h5, .inl (gJ g, 2400, .inr (.inl f16)))] rfl ?_
      have gz12 := fb_rngL z12
      have gz13 := fb_rngL z13
      have p20 : 0 ≤ (Int32.toInt r17) := w18.1
      have p21 : (Int32.toInt r17) ≤ 6 := w18.2.1
      have p22 : 0 ≤ (Int32.toInt z11) := w18.2.2.1
      have p23 : (Int32.toInt z11) ≤ 400 := w18.2.2.2.1
      have p24 : 0 ≤ (Int32.toInt z14) := w18.2.2.2.2.1
      have p25 : (Int32.toInt z14) ≤ 1 := w18.2.2.2.2.2
      refine r_istore_n 31 C dX0_sixesThenPair_31 [(3, .int r17), (2, .int z4), (0, .ref h0), (1, .int 0)] (by decide) rfl ?_
      refine r_iload_n 32 0 C dX0_sixesThenPair_32 rfl ?_
      refine r_if_ne 33 51 C dX0_sixesThenPair_33 (by decide) (fun c26 => ?_) (fun c26 => ?_)
      · skip
        have k27 : ¬ ((Int32.toInt r17) = 0) := fun h_9 => c26 ((fa_eq r17 0).mpr h_9)
        refine r_iload_n 51 0 C dX0_sixesThenPair_51 rfl ?_
        exact r_iret 52 Rt dX0_sixesThenPair_52 (z11, z12, z13, z14, f15, f16) (show 0 ≤ (Int32.toInt r17) ∧ (Int32.toInt r17) ≤ 6 ∧ 0 ≤ (Int32.toInt z11) ∧ (Int32.toInt z11) ≤ 400 ∧ 0 ≤ (Int32.toInt z14) ∧ (Int32.toInt z14) ≤ 1 from ⟨(show _ ∧ _ from ⟨p20, p21⟩).1, (show _ ∧ _ from ⟨p20, p21⟩).2, (show _ ∧ _ from ⟨p22, p23⟩).1, (show _ ∧ _ from ⟨p22, p23⟩).2, (show _ ∧ _ from ⟨p24, p25⟩).1, (show _ ∧ _ from ⟨p24, p25⟩).2⟩) [0, 1, 2, 3, 4, 5] (by decide) rfl (Nat.le_of_ble_eq_true rfl) (Nat.le_of_ble_eq_true rfl)
      · skip
        have k28 : (Int32.toInt r17) = 0 := (fa_eq r17 0).mp c26
        refine r_aload_n 36 2 C dX0_sixesThenPair_36 rfl ?_
        refine r_iload_n 37 1 C dX0_sixesThenPair_37 rfl ?_
        refine r_aload_n 38 2 C dX0_sixesThenPair_38 rfl ?_
        refine r_get 39 C dX0_sixesThenPair_39 (k := 0) 0 rfl rfl hiX0 (by decide) rfl (mg 1 rfl) (Or.inr (mg 2 rfl)) rfl ?_
        refine r_callVi 42 C dX0_sixesThenPair_42 [.int z4, .ref h0] [(h1, .inr (6, [.ref h3, .ref h10, .int x8, .int x9]))] [(h0, .inr (0, [.ref h1, .ref h2, .ref h6, .int x0, .int x1, .long y0, .int x2, .int x3, .int x4, .int x5, .ref h7, .ref h8, .ref h9, .int x6, .int x7])), (h2, .inr (5, [.ref h4, .ref h5, .int z11, .int x11, .long z12, .long z13, .int z14])), (h3, .inl (gJ g, 48, .inr (.inl fm0))), (h4, .inl (gB g, 400, .inl f15)), (h5, .inl (gJ g, 2400, .inr (.inl f16)))] (fun sz => c231_X7_size l g h1 h3 h10 x8 x9 i_x8 i_x9 sz) gX0_sixesThenPair_X7_size rfl ⟨rfl, rfl⟩ 0 (by decide) ⟨Nat.le_of_ble_eq_true rfl, Nat.le_of_ble_eq_true rfl⟩ 1 rfl rfl [1] [0, 2, 3, 4, 5] rfl rfl (by decide) (by decide) (by decide) rfl rfl (Nat.le_of_ble_eq_true rfl) ⟨Nat.le_of_ble_eq_true rfl, Nat.le_of_ble_eq_true rfl⟩ (fun r29 _ w30 => ?_)
        refine r_ws [(h0, .inr (0, [.ref h1, .ref h2, .ref h6, .int x0, .int x1, .long y0, .int x2, .int x3, .int x4, .int x5, .ref h7, .ref h8, .ref h9, .int x6, .int x7])), (h2, .inr (5, [.ref h4, .ref h5, .int z11, .int x11, .long z12, .long z13, .int z14])), (h3, .inl (gJ g, 48, .inr (.inl fm0))), (h4, .inl (gB g, 400, .inl f15)), (h5, .inl (gJ g, 2400, .inr (.inl f16))), (h1, .inr (6, [.ref h3, .ref h10, .int x8, .int x9]))] rfl ?_
        have p31 : x8 = r29 := (w30).symm
        subst p31
        refine r_callVi 45 C dX0_sixesThenPair_45 [] [(h0, .inr (0, [.ref h1, .ref h2, .ref h6, .int x0, .int x1, .long y0, .int x2, .int x3, .int x4, .int x5, .ref h7, .ref h8, .ref h9, .int x6, .int x7])), (h1, .inr (6, [.ref h3, .ref h10, .int x8, .int x9])), (h2, .inr (5, [.ref h4, .ref h5, .int z11, .int x11, .long z12, .long z13, .int z14])), (h3, .inl (gJ g, 48, .inr (.inl fm0))), (h4, .inl (gB g, 400, .inl f15)), (h5, .inl (gJ g, 2400, .inr (.inl f16)))] [] (fun sz => c275_X0_lines l g h0 h1 h2 h3 h4 h5 z4 x8 h6 x0 x1 y0 x2 x3 x4 x5 h7 h8 h9 x6 x7 h10 x8 x9 z11 x11 z12 z13 z14 fm0 f15 f16 (iv_sub (a := 0) (b := 48) (c := 0) (d := 0) i_x8 ⟨by decide, by decide⟩ tz4) i_x8 i_x5 i_x6 i_x7 i_x8 i_x9 ⟨p22, p23⟩ i_x11 ⟨p24, p25⟩ sz) gX0_sixesThenPair_X0_lines rfl ⟨rfl, rfl⟩ 2 (by decide) ⟨Nat.le_of_ble_eq_true rfl, Nat.le_of_ble_eq_true rfl⟩ 0 rfl rfl [0, 5, 1, 2, 3, 4] [] rfl rfl (by decide) (by decide) (by decide) rfl rfl (Nat.le_of_ble_eq_true rfl) ⟨Nat.le_of_ble_eq_true rfl, Nat.le_of_ble_eq_true rfl⟩ (fun r38 u40 w39 => ?_)
        obtain ⟨z32, z33, z34, z35, f36, f37⟩ := u40
        refine r_ws [(h0, .inr (0, [.ref h1, .ref h2, .ref h6, .int x0, .int x1, .long y0, .int x2, .int x3, .int x4, .int x5, .ref h7, .ref h8, .ref h9, .int x6, .int x7])), (h1, .inr (6, [.ref h3, .ref h10, .int x8, .int x9])), (h2, .inr (5, [.ref h4, .ref h5, .int z32, .int x11, .long z33, .long z34, .int z35])), (h3, .inl (gJ g, 48, .inr (.inl fm0))), (h4, .inl (gB g, 400, .inl f36)), (h5, .inl (gJ g, 2400, .inr (.inl f37)))] rfl ?_
        have gz33 := fb_rngL z33
        have gz34 := fb_rngL z34
        have p41 : 0 ≤ (Int32.toInt r38) := w39.1
        have p42 : (Int32.toInt r38) ≤ 6 := w39.2.1
        have p43 : 0 ≤ (Int32.toInt z32) := w39.2.2.1
        have p44 : (Int32.toInt z32) ≤ 400 := w39.2.2.2.1
        have p45 : 0 ≤ (Int32.toInt z35) := w39.2.2.2.2.1
        have p46 : (Int32.toInt z35) ≤ 1 := w39.2.2.2.2.2
        refine r_goto 48 52 C dX0_sixesThenPair_48 (by decide) ?_
        exact r_iret 52 Rt dX0_sixesThenPair_52 (z32, z33, z34, z35, f36, f37) (show 0 ≤ (Int32.toInt r38) ∧ (Int32.toInt r38) ≤ 6 ∧ 0 ≤ (Int32.toInt z32) ∧ (Int32.toInt z32) ≤ 400 ∧ 0 ≤ (Int32.toInt z35) ∧ (Int32.toInt z35) ≤ 1 from ⟨(show _ ∧ _ from ⟨p41, p42⟩).1, (show _ ∧ _ from ⟨p41, p42⟩).2, (show _ ∧ _ from ⟨p43, p44⟩).1, (show _ ∧ _ from ⟨p43, p44⟩).2, (show _ ∧ _ from ⟨p45, p46⟩).1, (show _ ∧ _ from ⟨p45, p46⟩).2⟩) [0, 1, 2, 3, 4, 5] (by decide) rfl (Nat.le_of_ble_eq_true rfl) (Nat.le_of_ble_eq_true rfl)
    · skip
      have k47 : ¬ ((Int32.toInt z8) = 0) := fun h_9 => c9 ((fa_eq z8 0).mpr h_9)
      refine r_iconst 23 2 C dX0_sixesThenPair_23 (by decide) ?_
      exact r_iret 24 Rt dX0_sixesThenPair_24 (x10, y1, y2, x12, fn0, fm1) (show 0 ≤ (Int32.toInt 2) ∧ (Int32.toInt 2) ≤ 6 ∧ 0 ≤ (Int32.toInt x10) ∧ (Int32.toInt x10) ≤ 400 ∧ 0 ≤ (Int32.toInt x12) ∧ (Int32.toInt x12) ≤ 1 from ⟨(by ((repeat' apply And.intro) <;> first | trivial | rfl | assumption | omega | decide | exact Or.inl rfl | exact Or.inr (Or.inl rfl) | exact Or.inr (Or.inr rfl))), (by ((repeat' apply And.intro) <;> first | trivial | rfl | assumption | omega | decide | exact Or.inl rfl | exact Or.inr (Or.inl rfl) | exact Or.inr (Or.inr rfl))), i_x10.1, i_x10.2, i_x12.1, i_x12.2⟩) [0, 5, 1, 2, 3, 4] (by decide) rfl (Nat.le_of_ble_eq_true rfl) (Nat.le_of_ble_eq_true rfl)
set_option maxHeartbeats 4000000 in
set_option maxRecDepth 100000 in
theorem c280_X0_sixesThenPair (l : Launch) (g : GD) (h0 : Nat) (h1 : Nat) (h2 : Nat) (h3 : Nat) (h4 : Nat) (h5 : Nat) (h6 : Nat) (x0 : Int32) (x1 : Int32) (y0 : Int64) (x2 : Int32) (x3 : Int32) (x4 : Int32) (x5 : Int32) (h7 : Nat) (h8 : Nat) (h9 : Nat) (x6 : Int32) (x7 : Int32) (h10 : Nat) (x8 : Int32) (x9 : Int32) (x10 : Int32) (x11 : Int32) (y1 : Int64) (y2 : Int64) (x12 : Int32) (fm0 : Nat → Int64) (fn0 : Nat → Int32) (fm1 : Nat → Int64) (i_x5 : (0 ≤ (Int32.toInt x5) ∧ (Int32.toInt x5) ≤ 1)) (i_x6 : (0 ≤ (Int32.toInt x6) ∧ (Int32.toInt x6) ≤ 10)) (i_x7 : (0 ≤ (Int32.toInt x7) ∧ (Int32.toInt x7) ≤ 1)) (i_x8 : (0 ≤ (Int32.toInt x8) ∧ (Int32.toInt x8) ≤ 48)) (i_x9 : (0 ≤ (Int32.toInt x9) ∧ (Int32.toInt x9) ≤ 48)) (i_x10 : (0 ≤ (Int32.toInt x10) ∧ (Int32.toInt x10) ≤ 400)) (i_x11 : (0 ≤ (Int32.toInt x11) ∧ (Int32.toInt x11) ≤ 400)) (i_x12 : (0 ≤ (Int32.toInt x12) ∧ (Int32.toInt x12) ≤ 1)) (sz : Nat) : Met l yX0_sixesThenPair wsX0_sixesThenPair ({ frames := 3, cells := 0, slots := 0, locals := 79 }) (va_Pc [.ref h0, .int 2] (PW g [(h0, .inr (0, [.ref h1, .ref h2, .ref h6, .int x0, .int x1, .long y0, .int x2, .int x3, .int x4, .int x5, .ref h7, .ref h8, .ref h9, .int x6, .int x7])), (h1, .inr (6, [.ref h3, .ref h10, .int x8, .int x9])), (h2, .inr (5, [.ref h4, .ref h5, .int x10, .int x11, .long y1, .long y2, .int x12])), (h3, .inl (gJ g, 48, .inr (.inl fm0))), (h4, .inl (gB g, 400, .inl fn0)), (h5, .inl (gJ g, 2400, .inr (.inl fm1)))] sz)) (va_Qi (fun (r : Int32) (u : (Int32) × (Int64) × (Int64) × (Int32) × (Nat → Int32) × (Nat → Int64)) => 0 ≤ (Int32.toInt r) ∧ (Int32.toInt r) ≤ 6 ∧ 0 ≤ (Int32.toInt (u.1)) ∧ (Int32.toInt (u.1)) ≤ 400 ∧ 0 ≤ (Int32.toInt (u.2.2.2.1)) ∧ (Int32.toInt (u.2.2.2.1)) ≤ 1) (BW g (va_A [(h0, .inr (0, [.ref h1, .ref h2, .ref h6, .int x0, .int x1, .long y0, .int x2, .int x3, .int x4, .int x5, .ref h7, .ref h8, .ref h9, .int x6, .int x7])), (h1, .inr (6, [.ref h3, .ref h10, .int x8, .int x9])), (h2, .inr (5, [.ref h4, .ref h5, .int x10, .int x11, .long y1, .long y2, .int x12])), (h3, .inl (gJ g, 48, .inr (.inl fm0))), (h4, .inl (gB g, 400, .inl fn0)), (h5, .inl (gJ g, 2400, .inr (.inl fm1)))] sz) (fun u : (Int32) × (Int64) × (Int64) × (Int32) × (Nat → Int32) × (Nat → Int64) => [(h0, .inr (0, [.ref h1, .ref h2, .ref h6, .int x0, .int x1, .long y0, .int x2, .int x3, .int x4, .int x5, .ref h7, .ref h8, .ref h9, .int x6, .int x7])), (h1, .inr (6, [.ref h3, .ref h10, .int x8, .int x9])), (h2, .inr (5, [.ref h4, .ref h5, .int u.1, .int x11, .long u.2.1, .long u.2.2.1, .int u.2.2.2.1])), (h3, .inl (gJ g, 48, .inr (.inl fm0))), (h4, .inl (gB g, 400, .inl u.2.2.2.2.1)), (h5, .inl (gJ g, 2400, .inr (.inl u.2.2.2.2.2)))])) (va_A [(h0, .inr (0, [.ref h1, .ref h2, .ref h6, .int x0, .int x1, .long y0, .int x2, .int x3, .int x4, .int x5, .ref h7, .ref h8, .ref h9, .int x6, .int x7])), (h1, .inr (6, [.ref h3, .ref h10, .int x8, .int x9])), (h2, .inr (5, [.ref h4, .ref h5, .int x10, .int x11, .long y1, .long y2, .int x12])), (h3, .inl (gJ g, 48, .inr (.inl fm0))), (h4, .inl (gB g, 400, .inl fn0)), (h5, .inl (gJ g, 2400, .inr (.inl fm1)))] sz)) 0 0 (va_A [(h0, .inr (0, [.ref h1, .ref h2, .ref h6, .int x0, .int x1, .long y0, .int x2, .int x3, .int x4, .int x5, .ref h7, .ref h8, .ref h9, .int x6, .int x7])), (h1, .inr (6, [.ref h3, .ref h10, .int x8, .int x9])), (h2, .inr (5, [.ref h4, .ref h5, .int x10, .int x11, .long y1, .long y2, .int x12])), (h3, .inl (gJ g, 48, .inr (.inl fm0))), (h4, .inl (gB g, 400, .inl fn0)), (h5, .inl (gJ g, 2400, .inr (.inl fm1)))] sz) := by
  refine met_i RX0 (by decide) rfl rfl (Nat.le_of_ble_eq_true rfl) [(0, .ref h0), (1, .int 2)] rfl ?_
  intro p e s m args below meth c A Q C hnm Rt
  have hiX0 : ∀ w ∈ wsX00, w ∈ wsX0_sixesThenPair := fun w h => List.mem_cons_of_mem _ (List.mem_append_left _ (List.mem_append_left _ (List.mem_append_left _ (List.mem_append_right _ (h)))))
  refine r_aload_n 0 0 C dX0_sixesThenPair_0 rfl ?_
  refine r_get 1 C dX0_sixesThenPair_1 (k := 0) 0 rfl rfl hiX0 (by decide) rfl (mg 1 rfl) (Or.inr (mg 2 rfl)) rfl ?_
  refine r_callVi 4 C dX0_sixesThenPair_4 [] [(h1, .inr (6, [.ref h3, .ref h10, .int x8, .int x9]))] [(h0, .inr (0, [.ref h1, .ref h2, .ref h6, .int x0, .int x1, .long y0, .int x2, .int x3, .int x4, .int x5, .ref h7, .ref h8, .ref h9, .int x6, .int x7])), (h2, .inr (5, [.ref h4, .ref h5, .int x10, .int x11, .long y1, .long y2, .int x12])), (h3, .inl (gJ g, 48, .inr (.inl fm0))), (h4, .inl (gB g, 400, .inl fn0)), (h5, .inl (gJ g, 2400, .inr (.inl fm1)))] (fun sz => c231_X7_size l g h1 h3 h10 x8 x9 i_x8 i_x9 sz) gX0_sixesThenPair_X7_size rfl ⟨rfl, rfl⟩ 0 (by decide) ⟨Nat.le_of_ble_eq_true rfl, Nat.le_of_ble_eq_true rfl⟩ 1 rfl rfl [1] [0, 2, 3, 4, 5] rfl rfl (by decide) (by decide) (by decide) rfl rfl (Nat.le_of_ble_eq_true rfl) ⟨Nat.le_of_ble_eq_true rfl, Nat.le_of_ble_eq_true rfl⟩ (fun r1 _ w2 => ?_)
  refine r_ws [(h0, .inr (0, [.ref h1, .ref h2, .ref h6, .int x0, .int x1, .long y0, .int x2, .int x3, .int x4, .int x5, .ref h7, .ref h8, .ref h9, .int x6, .int x7])), (h2, .inr (5, [.ref h4, .ref h5, .int x10, .int x11, .long y1, .long y2, .int x12])), (h3, .inl (gJ g, 48, .inr (.inl fm0))), (h4, .inl (gB g, 400, .inl fn0)), (h5, .inl (gJ g, 2400, .inr (.inl fm1))), (h1, .inr (6, [.ref h3, .ref h10, .int x8, .int x9]))] rfl ?_
  have p3 : x8 = r1 := (w2).symm
  subst p3
  refine r_iload_n 7 1 C dX0_sixesThenPair_7 rfl ?_
  obtain ⟨z4, ez4⟩ : ∃ z_9, x8 - 2 = z_9 := ⟨_, rfl⟩
  have tz4 : (Int32.toInt z4) = (Int32.toInt x8) - 2 := by rw [← ez4]; exact fb_subIv (a := 0) (b := 48) (c := 2) (d := 2) i_x8 ⟨by decide, by decide⟩ (by decide) (by decide)
  refine r_isub 8 z4 C dX0_sixesThenPair_8 ez4 ?_
  refine r_istore_n 9 C dX0_sixesThenPair_9 [(2, .int z4), (0, .ref h0), (1, .int 2)] (by decide) rfl ?_
  refine r_iload_n 10 0 C dX0_sixesThenPair_10 rfl ?_
  refine r_bipush 11 6 C dX0_sixesThenPair_11 (by decide) ?_
  refine r_icmp_lt 13 23 C dX0_sixesThenPair_13 (by decide) (fun c5 => ?_) (fun c5 => ?_)
  · skip
    have k6 : (Int32.toInt z4) < 6 := (fa_lt z4 6).mp c5
    refine r_iconst 23 2 C dX0_sixesThenPair_23 (by decide) ?_
    exact r_iret 24 Rt dX0_sixesThenPair_24 (x10, y1, y2, x12, fn0, fm1) (show 0 ≤ (Int32.toInt 2) ∧ (Int32.toInt 2) ≤ 6 ∧ 0 ≤ (Int32.toInt x10) ∧ (Int32.toInt x10) ≤ 400 ∧ 0 ≤ (Int32.toInt x12) ∧ (Int32.toInt x12) ≤ 1 from ⟨(by ((repeat' apply And.intro) <;> first | trivial | rfl | assumption | omega | decide | exact Or.inl rfl | exact Or.inr (Or.inl rfl) | exact Or.inr (Or.inr rfl))), (by ((repeat' apply And.intro) <;> first | trivial | rfl | assumption | omega | decide | exact Or.inl rfl | exact Or.inr (Or.inl rfl) | exact Or.inr (Or.inr rfl))), i_x10.1, i_x10.2, i_x12.1, i_x12.2⟩) [0, 5, 1, 2, 3, 4] (by decide) rfl (Nat.le_of_ble_eq_true rfl) (Nat.le_of_ble_eq_true rfl)
  · skip
    have k7 : ¬ ((Int32.toInt z4) < 6) := fun h_9 => c5 ((fa_lt z4 6).mpr h_9)
    refine r_iload_n 16 0 C dX0_sixesThenPair_16 rfl ?_
    refine r_bipush 17 6 C dX0_sixesThenPair_17 (by decide) ?_
    obtain ⟨z8, ez8⟩ : ∃ z_9, z4 - z4 / 6 * 6 = z_9 := ⟨_, rfl⟩
    have tz8 : (Int32.toInt z8) = (Int32.toInt z4) % 6 := by rw [← ez8]; exact rem_nn (by omega) (n := 6) (by decide) (by decide)
    refine r_irem 19 z8 C dX0_sixesThenPair_19 (by decide) ez8 ?_
    refine r_if_eq 20 25 C dX0_sixesThenPair_20 (by decide) (fun c9 => ?_) (fun c9 => ?_)
    · skip
      have k10 : (Int32.toInt z8) = 0 := (fa_eq z8 0).mp c9
      refine r_aload_n 25 1 C dX0_sixesThenPair_25 rfl ?_
      refine r_iconst 26 0 C dX0_sixesThenPair_26 (by decide) ?_
      refine r_iload_n 27 0 C dX0_sixesThenPair_27 rfl ?_
      refine r_callUi 28 C dX0_sixesThenPair_28 [] [(h0, .inr (0, [.ref h1, .ref h2, .ref h6, .int x0, .int x1, .long y0, .int x2, .int x3, .int x4, .int x5, .ref h7, .ref h8, .ref h9, .int x6, .int x7])), (h1, .inr (6, [.ref h3, .ref h10, .int x8, .int x9])), (h2, .inr (5, [.ref h4, .ref h5, .int x10, .int x11, .long y1, .long y2, .int x12])), (h3, .inl (gJ g, 48, .inr (.inl fm0))), (h4, .inl (gB g, 400, .inl fn0)), (h5, .inl (gJ g, 2400, .inr (.inl fm1)))] [] (fun sz => c276_X4_curves l g h0 h1 h2 h3 h4 h5 0 z4 h6 x0 x1 y0 x2 x3 x4 x5 h7 h8 h9 x6 x7 h10 x8 x9 x10 x11 y1 y2 x12 fm0 fn0 fm1 (by decide) ⟨by omega, by omega⟩ i_x5 i_x6 i_x7 i_x8 i_x9 i_x10 i_x11 i_x12 sz) gX0_sixesThenPair_X4_curves_u110X0 rfl ⟨rfl, rfl⟩ 2 rfl (by decide) ⟨Nat.le_of_ble_eq_true rfl, Nat.le_of_ble_eq_true rfl⟩ 0 rfl rfl [0, 5, 1, 2, 3, 4] [] rfl rfl (by decide) (by decide) (by decide) rfl rfl (Nat.le_of_ble_eq_true rfl) ⟨Nat.le_of_ble_eq_true rfl, Nat.le_of_ble_eq_true rfl⟩ (fun r17 u19 w18 => ?_)
      obtain ⟨z11, z12, z13, z14, f15, f16⟩ := u19
      refine r_ws [(h0, .inr (0, [.ref h1, .ref h2, .ref h6, .int x0, .int x1, .long y0, .int x2, .int x3, .int x4, .int x5, .ref h7, .ref h8, .ref h9, .int x6, .int x7])), (h1, .inr (6, [.ref h3, .ref h10, .int x8, .int x9])), (h2, .inr (5, [.ref h4, .ref h5, .int z11, .int x11, .long z12, .long z13, .int z14])), (h3, .inl (gJ g, 48, .inr (.inl fm0))), (h4, .inl (gB g, 400, .inl f15)), (h5, .inl (gJ g, 2400, .inr (.inl f16)))] rfl ?_
      have gz12 := fb_rngL z12
      have gz13 := fb_rngL z13
      have p20 : 0 ≤ (Int32.toInt r17) := w18.1
      have p21 : (Int32.toInt r17) ≤ 6 := w18.2.1
      have p22 : 0 ≤ (Int32.toInt z11) := w18.2.2.1
      have p23 : (Int32.toInt z11) ≤ 400 := w18.2.2.2.1
      have p24 : 0 ≤ (Int32.toInt z14) := w18.2.2.2.2.1
      have p25 : (Int32.toInt z14) ≤ 1 := w18.2.2.2.2.2
      refine r_istore_n 31 C dX0_sixesThenPair_31 [(3, .int r17), (2, .int z4), (0, .ref h0), (1, .int 2)] (by decide) rfl ?_
      refine r_iload_n 32 0 C dX0_sixesThenPair_32 rfl ?_
      refine r_if_ne 33 51 C dX0_sixesThenPair_33 (by decide) (fun c26 => ?_) (fun c26 => ?_)
      · skip
        have k27 : ¬ ((Int32.toInt r17) = 0) := fun h_9 => c26 ((fa_eq r17 0).mpr h_9)
        refine r_iload_n 51 0 C dX0_sixesThenPair_51 rfl ?_
        exact r_iret 52 Rt dX0_sixesThenPair_52 (z11, z12, z13, z14, f15, f16) (show 0 ≤ (Int32.toInt r17) ∧ (Int32.toInt r17) ≤ 6 ∧ 0 ≤ (Int32.toInt z11) ∧ (Int32.toInt z11) ≤ 400 ∧ 0 ≤ (Int32.toInt z14) ∧ (Int32.toInt z14) ≤ 1 from ⟨(show _ ∧ _ from ⟨p20, p21⟩).1, (show _ ∧ _ from ⟨p20, p21⟩).2, (show _ ∧ _ from ⟨p22, p23⟩).1, (show _ ∧ _ from ⟨p22, p23⟩).2, (show _ ∧ _ from ⟨p24, p25⟩).1, (show _ ∧ _ from ⟨p24, p25⟩).2⟩) [0, 1, 2, 3, 4, 5] (by decide) rfl (Nat.le_of_ble_eq_true rfl) (Nat.le_of_ble_eq_true rfl)
      · skip
        have k28 : (Int32.toInt r17) = 0 := (fa_eq r17 0).mp c26
        refine r_aload_n 36 2 C dX0_sixesThenPair_36 rfl ?_
        refine r_iload_n 37 1 C dX0_sixesThenPair_37 rfl ?_
        refine r_aload_n 38 2 C dX0_sixesThenPair_38 rfl ?_
        refine r_get 39 C dX0_sixesThenPair_39 (k := 0) 0 rfl rfl hiX0 (by decide) rfl (mg 1 rfl) (Or.inr (mg 2 rfl)) rfl ?_
        refine r_callVi 42 C dX0_sixesThenPair_42 [.int z4, .ref h0] [(h1, .inr (6, [.ref h3, .ref h10, .int x8, .int x9]))] [(h0, .inr (0, [.ref h1, .ref h2, .ref h6, .int x0, .int x1, .long y0, .int x2, .int x3, .int x4, .int x5, .ref h7, .ref h8, .ref h9, .int x6, .int x7])), (h2, .inr (5, [.ref h4, .ref h5, .int z11, .int x11, .long z12, .long z13, .int z14])), (h3, .inl (gJ g, 48, .inr (.inl fm0))), (h4, .inl (gB g, 400, .inl f15)), (h5, .inl (gJ g, 2400, .inr (.inl f16)))] (fun sz => c231_X7_size l g h1 h3 h10 x8 x9 i_x8 i_x9 sz) gX0_sixesThenPair_X7_size rfl ⟨rfl, rfl⟩ 0 (by decide) ⟨Nat.le_of_ble_eq_true rfl, Nat.le_of_ble_eq_true rfl⟩ 1 rfl rfl [1] [0, 2, 3, 4, 5] rfl rfl (by decide) (by decide) (by decide) rfl rfl (Nat.le_of_ble_eq_true rfl) ⟨Nat.le_of_ble_eq_true rfl, Nat.le_of_ble_eq_true rfl⟩ (fun r29 _ w30 => ?_)
        refine r_ws [(h0, .inr (0, [.ref h1, .ref h2, .ref h6, .int x0, .int x1, .long y0, .int x2, .int x3, .int x4, .int x5, .ref h7, .ref h8, .ref h9, .int x6, .int x7])), (h2, .inr (5, [.ref h4, .ref h5, .int z11, .int x11, .long z12, .long z13, .int z14])), (h3, .inl (gJ g, 48, .inr (.inl fm0))), (h4, .inl (gB g, 400, .inl f15)), (h5, .inl (gJ g, 2400, .inr (.inl f16))), (h1, .inr (6, [.ref h3, .ref h10, .int x8, .int x9]))] rfl ?_
        have p31 : x8 = r29 := (w30).symm
        subst p31
        refine r_callVi 45 C dX0_sixesThenPair_45 [] [(h0, .inr (0, [.ref h1, .ref h2, .ref h6, .int x0, .int x1, .long y0, .int x2, .int x3, .int x4, .int x5, .ref h7, .ref h8, .ref h9, .int x6, .int x7])), (h1, .inr (6, [.ref h3, .ref h10, .int x8, .int x9])), (h2, .inr (5, [.ref h4, .ref h5, .int z11, .int x11, .long z12, .long z13, .int z14])), (h3, .inl (gJ g, 48, .inr (.inl fm0))), (h4, .inl (gB g, 400, .inl f15)), (h5, .inl (gJ g, 2400, .inr (.inl f16)))] [] (fun sz => c275_X0_lines l g h0 h1 h2 h3 h4 h5 z4 x8 h6 x0 x1 y0 x2 x3 x4 x5 h7 h8 h9 x6 x7 h10 x8 x9 z11 x11 z12 z13 z14 fm0 f15 f16 ⟨by omega, by omega⟩ i_x8 i_x5 i_x6 i_x7 i_x8 i_x9 ⟨p22, p23⟩ i_x11 ⟨p24, p25⟩ sz) gX0_sixesThenPair_X0_lines rfl ⟨rfl, rfl⟩ 2 (by decide) ⟨Nat.le_of_ble_eq_true rfl, Nat.le_of_ble_eq_true rfl⟩ 0 rfl rfl [0, 5, 1, 2, 3, 4] [] rfl rfl (by decide) (by decide) (by decide) rfl rfl (Nat.le_of_ble_eq_true rfl) ⟨Nat.le_of_ble_eq_true rfl, Nat.le_of_ble_eq_true rfl⟩ (fun r38 u40 w39 => ?_)
        obtain ⟨z32, z33, z34, z35, f36, f37⟩ := u40
        refine r_ws [(h0, .inr (0, [.ref h1, .ref h2, .ref h6, .int x0, .int x1, .long y0, .int x2, .int x3, .int x4, .int x5, .ref h7, .ref h8, .ref h9, .int x6, .int x7])), (h1, .inr (6, [.ref h3, .ref h10, .int x8, .int x9])), (h2, .inr (5, [.ref h4, .ref h5, .int z32, .int x11, .long z33, .long z34, .int z35])), (h3, .inl (gJ g, 48, .inr (.inl fm0))), (h4, .inl (gB g, 400, .inl f36)), (h5, .inl (gJ g, 2400, .inr (.inl f37)))] rfl ?_
        have gz33 := fb_rngL z33
        have gz34 := fb_rngL z34
        have p41 : 0 ≤ (Int32.toInt r38) := w39.1
        have p42 : (Int32.toInt r38) ≤ 6 := w39.2.1
        have p43 : 0 ≤ (Int32.toInt z32) := w39.2.2.1
        have p44 : (Int32.toInt z32) ≤ 400 := w39.2.2.2.1
        have p45 : 0 ≤ (Int32.toInt z35) := w39.2.2.2.2.1
        have p46 : (Int32.toInt z35) ≤ 1 := w39.2.2.2.2.2
        refine r_goto 48 52 C dX0_sixesThenPair_48 (by decide) ?_
        exact r_iret 52 Rt dX0_sixesThenPair_52 (z32, z33, z34, z35, f36, f37) (show 0 ≤ (Int32.toInt r38) ∧ (Int32.toInt r38) ≤ 6 ∧ 0 ≤ (Int32.toInt z32) ∧ (Int32.toInt z32) ≤ 400 ∧ 0 ≤ (Int32.toInt z35) ∧ (Int32.toInt z35) ≤ 1 from ⟨(show _ ∧ _ from ⟨p41, p42⟩).1, (show _ ∧ _ from ⟨p41, p42⟩).2, (show _ ∧ _ from ⟨p43, p44⟩).1, (show _ ∧ _ from ⟨p43, p44⟩).2, (show _ ∧ _ from ⟨p45, p46⟩).1, (show _ ∧ _ from ⟨p45, p46⟩).2⟩) [0, 1, 2, 3, 4, 5] (by decide) rfl (Nat.le_of_ble_eq_true rfl) (Nat.le_of_ble_eq_true rfl)
    · skip
      have k47 : ¬ ((Int32.toInt z8) = 0) := fun h_9 => c9 ((fa_eq z8 0).mpr h_9)
      refine r_iconst 23 2 C dX0_sixesThenPair_23 (by decide) ?_
      exact r_iret 24 Rt dX0_sixesThenPair_24 (x10, y1, y2, x12, fn0, fm1) (show 0 ≤ (Int32.toInt 2) ∧ (Int32.toInt 2) ≤ 6 ∧ 0 ≤ (Int32.toInt x10) ∧ (Int32.toInt x10) ≤ 400 ∧ 0 ≤ (Int32.toInt x12) ∧ (Int32.toInt x12) ≤ 1 from ⟨(by ((repeat' apply And.intro) <;> first | trivial | rfl | assumption | omega | decide | exact Or.inl rfl | exact Or.inr (Or.inl rfl) | exact Or.inr (Or.inr rfl))), (by ((repeat' apply And.intro) <;> first | trivial | rfl | assumption | omega | decide | exact Or.inl rfl | exact Or.inr (Or.inl rfl) | exact Or.inr (Or.inr rfl))), i_x10.1, i_x10.2, i_x12.1, i_x12.2⟩) [0, 5, 1, 2, 3, 4] (by decide) rfl (Nat.le_of_ble_eq_true rfl) (Nat.le_of_ble_eq_true rfl)
set_option maxHeartbeats 4000000 in
set_option maxRecDepth 100000 in
theorem c281_X0_pairsThenSixes (l : Launch) (g : GD) (h0 : Nat) (h1 : Nat) (h2 : Nat) (h3 : Nat) (h4 : Nat) (h5 : Nat) (h6 : Nat) (x0 : Int32) (x1 : Int32) (y0 : Int64) (x2 : Int32) (x3 : Int32) (x4 : Int32) (x5 : Int32) (h7 : Nat) (h8 : Nat) (h9 : Nat) (x6 : Int32) (x7 : Int32) (h10 : Nat) (x8 : Int32) (x9 : Int32) (x10 : Int32) (x11 : Int32) (y1 : Int64) (y2 : Int64) (x12 : Int32) (fm0 : Nat → Int64) (fn0 : Nat → Int32) (fm1 : Nat → Int64) (i_x5 : (0 ≤ (Int32.toInt x5) ∧ (Int32.toInt x5) ≤ 1)) (i_x6 : (0 ≤ (Int32.toInt x6) ∧ (Int32.toInt x6) ≤ 10)) (i_x7 : (0 ≤ (Int32.toInt x7) ∧ (Int32.toInt x7) ≤ 1)) (i_x8 : (0 ≤ (Int32.toInt x8) ∧ (Int32.toInt x8) ≤ 48)) (i_x9 : (0 ≤ (Int32.toInt x9) ∧ (Int32.toInt x9) ≤ 48)) (i_x10 : (0 ≤ (Int32.toInt x10) ∧ (Int32.toInt x10) ≤ 400)) (i_x11 : (0 ≤ (Int32.toInt x11) ∧ (Int32.toInt x11) ≤ 400)) (i_x12 : (0 ≤ (Int32.toInt x12) ∧ (Int32.toInt x12) ≤ 1)) (sz : Nat) : Met l yX0_pairsThenSixes wsX0_pairsThenSixes ({ frames := 3, cells := 0, slots := 0, locals := 79 }) (va_Pc [.ref h0, .int 6] (PW g [(h0, .inr (0, [.ref h1, .ref h2, .ref h6, .int x0, .int x1, .long y0, .int x2, .int x3, .int x4, .int x5, .ref h7, .ref h8, .ref h9, .int x6, .int x7])), (h1, .inr (6, [.ref h3, .ref h10, .int x8, .int x9])), (h2, .inr (5, [.ref h4, .ref h5, .int x10, .int x11, .long y1, .long y2, .int x12])), (h3, .inl (gJ g, 48, .inr (.inl fm0))), (h4, .inl (gB g, 400, .inl fn0)), (h5, .inl (gJ g, 2400, .inr (.inl fm1)))] sz)) (va_Qi (fun (r : Int32) (u : (Int32) × (Int64) × (Int64) × (Int32) × (Nat → Int32) × (Nat → Int64)) => 0 ≤ (Int32.toInt r) ∧ (Int32.toInt r) ≤ 6 ∧ 0 ≤ (Int32.toInt (u.1)) ∧ (Int32.toInt (u.1)) ≤ 400 ∧ 0 ≤ (Int32.toInt (u.2.2.2.1)) ∧ (Int32.toInt (u.2.2.2.1)) ≤ 1) (BW g (va_A [(h0, .inr (0, [.ref h1, .ref h2, .ref h6, .int x0, .int x1, .long y0, .int x2, .int x3, .int x4, .int x5, .ref h7, .ref h8, .ref h9, .int x6, .int x7])), (h1, .inr (6, [.ref h3, .ref h10, .int x8, .int x9])), (h2, .inr (5, [.ref h4, .ref h5, .int x10, .int x11, .long y1, .long y2, .int x12])), (h3, .inl (gJ g, 48, .inr (.inl fm0))), (h4, .inl (gB g, 400, .inl fn0)), (h5, .inl (gJ g, 2400, .inr (.inl fm1)))] sz) (fun u : (Int32) × (Int64) × (Int64) × (Int32) × (Nat → Int32) × (Nat → Int64) => [(h0, .inr (0, [.ref h1, .ref h2, .ref h6, .int x0, .int x1, .long y0, .int x2, .int x3, .int x4, .int x5, .ref h7, .ref h8, .ref h9, .int x6, .int x7])), (h1, .inr (6, [.ref h3, .ref h10, .int x8, .int x9])), (h2, .inr (5, [.ref h4, .ref h5, .int u.1, .int x11, .long u.2.1, .long u.2.2.1, .int u.2.2.2.1])), (h3, .inl (gJ g, 48, .inr (.inl fm0))), (h4, .inl (gB g, 400, .inl u.2.2.2.2.1)), (h5, .inl (gJ g, 2400, .inr (.inl u.2.2.2.2.2)))])) (va_A [(h0, .inr (0, [.ref h1, .ref h2, .ref h6, .int x0, .int x1, .long y0, .int x2, .int x3, .int x4, .int x5, .ref h7, .ref h8, .ref h9, .int x6, .int x7])), (h1, .inr (6, [.ref h3, .ref h10, .int x8, .int x9])), (h2, .inr (5, [.ref h4, .ref h5, .int x10, .int x11, .long y1, .long y2, .int x12])), (h3, .inl (gJ g, 48, .inr (.inl fm0))), (h4, .inl (gB g, 400, .inl fn0)), (h5, .inl (gJ g, 2400, .inr (.inl fm1)))] sz)) 0 0 (va_A [(h0, .inr (0, [.ref h1, .ref h2, .ref h6, .int x0, .int x1, .long y0, .int x2, .int x3, .int x4, .int x5, .ref h7, .ref h8, .ref h9, .int x6, .int x7])), (h1, .inr (6, [.ref h3, .ref h10, .int x8, .int x9])), (h2, .inr (5, [.ref h4, .ref h5, .int x10, .int x11, .long y1, .long y2, .int x12])), (h3, .inl (gJ g, 48, .inr (.inl fm0))), (h4, .inl (gB g, 400, .inl fn0)), (h5, .inl (gJ g, 2400, .inr (.inl fm1)))] sz) := by
  refine met_i RX0 (by decide) rfl rfl (Nat.le_of_ble_eq_true rfl) [(0, .ref h0), (1, .int 6)] rfl ?_
  intro p e s m args below meth c A Q C hnm Rt
  have hiX0 : ∀ w ∈ wsX00, w ∈ wsX0_pairsThenSixes := fun w h => List.mem_cons_of_mem _ (List.mem_append_left _ (List.mem_append_left _ (List.mem_append_left _ (List.mem_append_right _ (h)))))
  refine r_aload_n 0 0 C dX0_pairsThenSixes_0 rfl ?_
  refine r_get 1 C dX0_pairsThenSixes_1 (k := 0) 0 rfl rfl hiX0 (by decide) rfl (mg 1 rfl) (Or.inr (mg 2 rfl)) rfl ?_
  refine r_callVi 4 C dX0_pairsThenSixes_4 [] [(h1, .inr (6, [.ref h3, .ref h10, .int x8, .int x9]))] [(h0, .inr (0, [.ref h1, .ref h2, .ref h6, .int x0, .int x1, .long y0, .int x2, .int x3, .int x4, .int x5, .ref h7, .ref h8, .ref h9, .int x6, .int x7])), (h2, .inr (5, [.ref h4, .ref h5, .int x10, .int x11, .long y1, .long y2, .int x12])), (h3, .inl (gJ g, 48, .inr (.inl fm0))), (h4, .inl (gB g, 400, .inl fn0)), (h5, .inl (gJ g, 2400, .inr (.inl fm1)))] (fun sz => c231_X7_size l g h1 h3 h10 x8 x9 i_x8 i_x9 sz) gX0_pairsThenSixes_X7_size rfl ⟨rfl, rfl⟩ 0 (by decide) ⟨Nat.le_of_ble_eq_true rfl, Nat.le_of_ble_eq_true rfl⟩ 1 rfl rfl [1] [0, 2, 3, 4, 5] rfl rfl (by decide) (by decide) (by decide) rfl rfl (Nat.le_of_ble_eq_true rfl) ⟨Nat.le_of_ble_eq_true rfl, Nat.le_of_ble_eq_true rfl⟩ (fun r1 _ w2 => ?_)
  refine r_ws [(h0, .inr (0, [.ref h1, .ref h2, .ref h6, .int x0, .int x1, .long y0, .int x2, .int x3, .int x4, .int x5, .ref h7, .ref h8, .ref h9, .int x6, .int x7])), (h2, .inr (5, [.ref h4, .ref h5, .int x10, .int x11, .long y1, .long y2, .int x12])), (h3, .inl (gJ g, 48, .inr (.inl fm0))), (h4, .inl (gB g, 400, .inl fn0)), (h5, .inl (gJ g, 2400, .inr (.inl fm1))), (h1, .inr (6, [.ref h3, .ref h10, .int x8, .int x9]))] rfl ?_
  have p3 : x8 = r1 := (w2).symm
  subst p3
  refine r_iload_n 7 1 C dX0_pairsThenSixes_7 rfl ?_
  obtain ⟨z4, ez4⟩ : ∃ z_9, x8 - 6 = z_9 := ⟨_, rfl⟩
  have tz4 : (Int32.toInt z4) = (Int32.toInt x8) - 6 := by rw [← ez4]; exact fb_subIv (a := 0) (b := 48) (c := 6) (d := 6) i_x8 ⟨by decide, by decide⟩ (by decide) (by decide)
  refine r_isub 8 z4 C dX0_pairsThenSixes_8 ez4 ?_
  refine r_istore_n 9 C dX0_pairsThenSixes_9 [(2, .int z4), (0, .ref h0), (1, .int 6)] (by decide) rfl ?_
  refine r_iload_n 10 0 C dX0_pairsThenSixes_10 rfl ?_
  refine r_iconst 11 2 C dX0_pairsThenSixes_11 (by decide) ?_
  refine r_icmp_lt 12 22 C dX0_pairsThenSixes_12 (by decide) (fun c5 => ?_) (fun c5 => ?_)
  · skip
    have k6 : (Int32.toInt z4) < 2 := (fa_lt z4 2).mp c5
    refine r_iconst 22 2 C dX0_pairsThenSixes_22 (by decide) ?_
    exact r_iret 23 Rt dX0_pairsThenSixes_23 (x10, y1, y2, x12, fn0, fm1) (show 0 ≤ (Int32.toInt 2) ∧ (Int32.toInt 2) ≤ 6 ∧ 0 ≤ (Int32.toInt x10) ∧ (Int32.toInt x10) ≤ 400 ∧ 0 ≤ (Int32.toInt x12) ∧ (Int32.toInt x12) ≤ 1 from ⟨(by ((repeat' apply And.intro) <;> first | trivial | rfl | assumption | omega | decide | exact Or.inl rfl | exact Or.inr (Or.inl rfl) | exact Or.inr (Or.inr rfl))), (by ((repeat' apply And.intro) <;> first | trivial | rfl | assumption | omega | decide | exact Or.inl rfl | exact Or.inr (Or.inl rfl) | exact Or.inr (Or.inr rfl))), i_x10.1, i_x10.2, i_x12.1, i_x12.2⟩) [0, 5, 1, 2, 3, 4] (by decide) rfl (Nat.le_of_ble_eq_true rfl) (Nat.le_of_ble_eq_true rfl)
  · skip
    have k7 : ¬ ((Int32.toInt z4) < 2) := fun h_9 => c5 ((fa_lt z4 2).mpr h_9)
    refine r_iload_n 15 0 C dX0_pairsThenSixes_15 rfl ?_
    refine r_iconst 16 2 C dX0_pairsThenSixes_16 (by decide) ?_
    obtain ⟨z8, ez8⟩ : ∃ z_9, z4 - z4 / 2 * 2 = z_9 := ⟨_, rfl⟩
    have tz8 : (Int32.toInt z8) = (Int32.toInt z4) % 2 := by rw [← ez8]; exact rem_nn (by omega) (n := 2) (by decide) (by decide)
    refine r_irem 17 z8 C dX0_pairsThenSixes_17 (by decide) ez8 ?_
    refine r_iconst 18 1 C dX0_pairsThenSixes_18 (by decide) ?_
    refine r_icmp_ne 19 24 C dX0_pairsThenSixes_19 (by decide) (fun c9 => ?_) (fun c9 => ?_)
    · skip
      have k10 : ¬ ((Int32.toInt z8) = 1) := fun h_9 => c9 ((fa_eq z8 1).mpr h_9)
      refine r_aload_n 24 1 C dX0_pairsThenSixes_24 rfl ?_
      refine r_iconst 25 0 C dX0_pairsThenSixes_25 (by decide) ?_
      refine r_iload_n 26 0 C dX0_pairsThenSixes_26 rfl ?_
      refine r_callVi 27 C dX0_pairsThenSixes_27 [] [(h0, .inr (0, [.ref h1, .ref h2, .ref h6, .int x0, .int x1, .long y0, .int x2, .int x3, .int x4, .int x5, .ref h7, .ref h8, .ref h9, .int x6, .int x7])), (h1, .inr (6, [.ref h3, .ref h10, .int x8, .int x9])), (h2, .inr (5, [.ref h4, .ref h5, .int x10, .int x11, .long y1, .long y2, .int x12])), (h3, .inl (gJ g, 48, .inr (.inl fm0))), (h4, .inl (gB g, 400, .inl fn0)), (h5, .inl (gJ g, 2400, .inr (.inl fm1)))] [] (fun sz => c275_X0_lines l g h0 h1 h2 h3 h4 h5 0 z4 h6 x0 x1 y0 x2 x3 x4 x5 h7 h8 h9 x6 x7 h10 x8 x9 x10 x11 y1 y2 x12 fm0 fn0 fm1 (by decide) ⟨by omega, by omega⟩ i_x5 i_x6 i_x7 i_x8 i_x9 i_x10 i_x11 i_x12 sz) gX0_pairsThenSixes_X0_lines rfl ⟨rfl, rfl⟩ 2 (by decide) ⟨Nat.le_of_ble_eq_true rfl, Nat.le_of_ble_eq_true rfl⟩ 0 rfl rfl [0, 5, 1, 2, 3, 4] [] rfl rfl (by decide) (by decide) (by decide) rfl rfl (Nat.le_of_ble_eq_true rfl) ⟨Nat.le_of_ble_eq_true rfl, Nat.le_of_ble_eq_true rfl⟩ (fun r17 u19 w18 => ?_)
      obtain ⟨z11, z12, z13, z14, f15, f16⟩ := u19
      refine r_ws [(h0, .inr (0, [.ref h1, .ref h2, .ref h6, .int x0, .int x1, .long y0, .int x2, .int x3, .int x4, .int x5, .ref h7, .ref h8, .ref h9, .int x6, .int x7])), (h1, .inr (6, [.ref h3, .ref h10, .int x8, .int x9])), (h2, .inr (5, [.ref h4, .ref h5, .int z11, .int x11, .long z12, .long z13, .int z14])), (h3, .inl (gJ g, 48, .inr (.inl fm0))), (h4, .inl (gB g, 400, .inl f15)), (h5, .inl (gJ g, 2400, .inr (.inl f16)))] rfl ?_
      have gz12 := fb_rngL z12
      have gz13 := fb_rngL z13
      have p20 : 0 ≤ (Int32.toInt r17) := w18.1
      have p21 : (Int32.toInt r17) ≤ 6 := w18.2.1
      have p22 : 0 ≤ (Int32.toInt z11) := w18.2.2.1
      have p23 : (Int32.toInt z11) ≤ 400 := w18.2.2.2.1
      have p24 : 0 ≤ (Int32.toInt z14) := w18.2.2.2.2.1
      have p25 : (Int32.toInt z14) ≤ 1 := w18.2.2.2.2.2
      refine r_istore_n 30 C dX0_pairsThenSixes_30 [(3, .int r17), (2, .int z4), (0, .ref h0), (1, .int 6)] (by decide) rfl ?_
      refine r_iload_n 31 0 C dX0_pairsThenSixes_31 rfl ?_
      refine r_if_ne 32 50 C dX0_pairsThenSixes_32 (by decide) (fun c26 => ?_) (fun c26 => ?_)
      · skip
        have k27 : ¬ ((Int32.toInt r17) = 0) := fun h_9 => c26 ((fa_eq r17 0).mpr h_9)
        refine r_iload_n 50 0 C dX0_pairsThenSixes_50 rfl ?_
        exact r_iret 51 Rt dX0_pairsThenSixes_51 (z11, z12, z13, z14, f15, f16) (show 0 ≤ (Int32.toInt r17) ∧ (Int32.toInt r17) ≤ 6 ∧ 0 ≤ (Int32.toInt z11) ∧ (Int32.toInt z11) ≤ 400 ∧ 0 ≤ (Int32.toInt z14) ∧ (Int32.toInt z14) ≤ 1 from ⟨(show _ ∧ _ from ⟨p20, p21⟩).1, (show _ ∧ _ from ⟨p20, p21⟩).2, (show _ ∧ _ from ⟨p22, p23⟩).1, (show _ ∧ _ from ⟨p22, p23⟩).2, (show _ ∧ _ from ⟨p24, p25⟩).1, (show _ ∧ _ from ⟨p24, p25⟩).2⟩) [0, 1, 2, 3, 4, 5] (by decide) rfl (Nat.le_of_ble_eq_true rfl) (Nat.le_of_ble_eq_true rfl)
      · skip
        have k28 : (Int32.toInt r17) = 0 := (fa_eq r17 0).mp c26
        refine r_aload_n 35 2 C dX0_pairsThenSixes_35 rfl ?_
        refine r_iload_n 36 1 C dX0_pairsThenSixes_36 rfl ?_
        refine r_aload_n 37 2 C dX0_pairsThenSixes_37 rfl ?_
        refine r_get 38 C dX0_pairsThenSixes_38 (k := 0) 0 rfl rfl hiX0 (by decide) rfl (mg 1 rfl) (Or.inr (mg 2 rfl)) rfl ?_
        refine r_callVi 41 C dX0_pairsThenSixes_41 [.int z4, .ref h0] [(h1, .inr (6, [.ref h3, .ref h10, .int x8, .int x9]))] [(h0, .inr (0, [.ref h1, .ref h2, .ref h6, .int x0, .int x1, .long y0, .int x2, .int x3, .int x4, .int x5, .ref h7, .ref h8, .ref h9, .int x6, .int x7])), (h2, .inr (5, [.ref h4, .ref h5, .int z11, .int x11, .long z12, .long z13, .int z14])), (h3, .inl (gJ g, 48, .inr (.inl fm0))), (h4, .inl (gB g, 400, .inl f15)), (h5, .inl (gJ g, 2400, .inr (.inl f16)))] (fun sz => c231_X7_size l g h1 h3 h10 x8 x9 i_x8 i_x9 sz) gX0_pairsThenSixes_X7_size rfl ⟨rfl, rfl⟩ 0 (by decide) ⟨Nat.le_of_ble_eq_true rfl, Nat.le_of_ble_eq_true rfl⟩ 1 rfl rfl [1] [0, 2, 3, 4, 5] rfl rfl (by decide) (by decide) (by decide) rfl rfl (Nat.le_of_ble_eq_true rfl) ⟨Nat.le_of_ble_eq_true rfl, Nat.le_of_ble_eq_true rfl⟩ (fun r29 _ w30 => ?_)
        refine r_ws [(h0, .inr (0, [.ref h1, .ref h2, .ref h6, .int x0, .int x1, .long y0, .int x2, .int x3, .int x4, .int x5, .ref h7, .ref h8, .ref h9, .int x6, .int x7])), (h2, .inr (5, [.ref h4, .ref h5, .int z11, .int x11, .long z12, .long z13, .int z14])), (h3, .inl (gJ g, 48, .inr (.inl fm0))), (h4, .inl (gB g, 400, .inl f15)), (h5, .inl (gJ g, 2400, .inr (.inl f16))), (h1, .inr (6, [.ref h3, .ref h10, .int x8, .int x9]))] rfl ?_
        have p31 : x8 = r29 := (w30).symm
        subst p31
        refine r_callUi 44 C dX0_pairsThenSixes_44 [] [(h0, .inr (0, [.ref h1, .ref h2, .ref h6, .int x0, .int x1, .long y0, .int x2, .int x3, .int x4, .int x5, .ref h7, .ref h8, .ref h9, .int x6, .int x7])), (h1, .inr (6, [.ref h3, .ref h10, .int x8, .int x9])), (h2, .inr (5, [.ref h4, .ref h5, .int z11, .int x11, .long z12, .long z13, .int z14])), (h3, .inl (gJ g, 48, .inr (.inl fm0))), (h4, .inl (gB g, 400, .inl f15)), (h5, .inl (gJ g, 2400, .inr (.inl f16)))] [] (fun sz => c276_X4_curves l g h0 h1 h2 h3 h4 h5 z4 x8 h6 x0 x1 y0 x2 x3 x4 x5 h7 h8 h9 x6 x7 h10 x8 x9 z11 x11 z12 z13 z14 fm0 f15 f16 ⟨by omega, by omega⟩ i_x8 i_x5 i_x6 i_x7 i_x8 i_x9 ⟨p22, p23⟩ i_x11 ⟨p24, p25⟩ sz) gX0_pairsThenSixes_X4_curves_u110X0 rfl ⟨rfl, rfl⟩ 2 rfl (by decide) ⟨Nat.le_of_ble_eq_true rfl, Nat.le_of_ble_eq_true rfl⟩ 0 rfl rfl [0, 5, 1, 2, 3, 4] [] rfl rfl (by decide) (by decide) (by decide) rfl rfl (Nat.le_of_ble_eq_true rfl) ⟨Nat.le_of_ble_eq_true rfl, Nat.le_of_ble_eq_true rfl⟩ (fun r38 u40 w39 => ?_)
        obtain ⟨z32, z33, z34, z35, f36, f37⟩ := u40
        refine r_ws [(h0, .inr (0, [.ref h1, .ref h2, .ref h6, .int x0, .int x1, .long y0, .int x2, .int x3, .int x4, .int x5, .ref h7, .ref h8, .ref h9, .int x6, .int x7])), (h1, .inr (6, [.ref h3, .ref h10, .int x8, .int x9])), (h2, .inr (5, [.ref h4, .ref h5, .int z32, .int x11, .long z33, .long z34, .int z35])), (h3, .inl (gJ g, 48, .inr (.inl fm0))), (h4, .inl (gB g, 400, .inl f36)), (h5, .inl (gJ g, 2400, .inr (.inl f37)))] rfl ?_
        have gz33 := fb_rngL z33
        have gz34 := fb_rngL z34
        have p41 : 0 ≤ (Int32.toInt r38) := w39.1
        have p42 : (Int32.toInt r38) ≤ 6 := w39.2.1
        have p43 : 0 ≤ (Int32.toInt z32) := w39.2.2.1
        have p44 : (Int32.toInt z32) ≤ 400 := w39.2.2.2.1
        have p45 : 0 ≤ (Int32.toInt z35) := w39.2.2.2.2.1
        have p46 : (Int32.toInt z35) ≤ 1 := w39.2.2.2.2.2
        refine r_goto 47 51 C dX0_pairsThenSixes_47 (by decide) ?_
        exact r_iret 51 Rt dX0_pairsThenSixes_51 (z32, z33, z34, z35, f36, f37) (show 0 ≤ (Int32.toInt r38) ∧ (Int32.toInt r38) ≤ 6 ∧ 0 ≤ (Int32.toInt z32) ∧ (Int32.toInt z32) ≤ 400 ∧ 0 ≤ (Int32.toInt z35) ∧ (Int32.toInt z35) ≤ 1 from ⟨(show _ ∧ _ from ⟨p41, p42⟩).1, (show _ ∧ _ from ⟨p41, p42⟩).2, (show _ ∧ _ from ⟨p43, p44⟩).1, (show _ ∧ _ from ⟨p43, p44⟩).2, (show _ ∧ _ from ⟨p45, p46⟩).1, (show _ ∧ _ from ⟨p45, p46⟩).2⟩) [0, 1, 2, 3, 4, 5] (by decide) rfl (Nat.le_of_ble_eq_true rfl) (Nat.le_of_ble_eq_true rfl)
    · skip
      have k47 : (Int32.toInt z8) = 1 := (fa_eq z8 1).mp c9
      refine r_iconst 22 2 C dX0_pairsThenSixes_22 (by decide) ?_
      exact r_iret 23 Rt dX0_pairsThenSixes_23 (x10, y1, y2, x12, fn0, fm1) (show 0 ≤ (Int32.toInt 2) ∧ (Int32.toInt 2) ≤ 6 ∧ 0 ≤ (Int32.toInt x10) ∧ (Int32.toInt x10) ≤ 400 ∧ 0 ≤ (Int32.toInt x12) ∧ (Int32.toInt x12) ≤ 1 from ⟨(by ((repeat' apply And.intro) <;> first | trivial | rfl | assumption | omega | decide | exact Or.inl rfl | exact Or.inr (Or.inl rfl) | exact Or.inr (Or.inr rfl))), (by ((repeat' apply And.intro) <;> first | trivial | rfl | assumption | omega | decide | exact Or.inl rfl | exact Or.inr (Or.inl rfl) | exact Or.inr (Or.inr rfl))), i_x10.1, i_x10.2, i_x12.1, i_x12.2⟩) [0, 5, 1, 2, 3, 4] (by decide) rfl (Nat.le_of_ble_eq_true rfl) (Nat.le_of_ble_eq_true rfl)
set_option maxHeartbeats 4000000 in
set_option maxRecDepth 100000 in
theorem c282_X0_straightCurves (l : Launch) (g : GD) (h0 : Nat) (h1 : Nat) (h2 : Nat) (h3 : Nat) (h4 : Nat) (h5 : Nat) (x0 : Int32) (h6 : Nat) (x1 : Int32) (x2 : Int32) (y0 : Int64) (x3 : Int32) (x4 : Int32) (x5 : Int32) (x6 : Int32) (h7 : Nat) (h8 : Nat) (h9 : Nat) (x7 : Int32) (x8 : Int32) (h10 : Nat) (x9 : Int32) (x10 : Int32) (x11 : Int32) (x12 : Int32) (y1 : Int64) (y2 : Int64) (x13 : Int32) (fm0 : Nat → Int64) (fn0 : Nat → Int32) (fm1 : Nat → Int64) (i_x0 : (0 ≤ (Int32.toInt x0) ∧ (Int32.toInt x0) ≤ 1)) (i_x6 : (0 ≤ (Int32.toInt x6) ∧ (Int32.toInt x6) ≤ 1)) (i_x7 : (0 ≤ (Int32.toInt x7) ∧ (Int32.toInt x7) ≤ 10)) (i_x8 : (0 ≤ (Int32.toInt x8) ∧ (Int32.toInt x8) ≤ 1)) (i_x9 : (0 ≤ (Int32.toInt x9) ∧ (Int32.toInt x9) ≤ 48)) (i_x10 : (0 ≤ (Int32.toInt x10) ∧ (Int32.toInt x10) ≤ 48)) (i_x11 : (0 ≤ (Int32.toInt x11) ∧ (Int32.toInt x11) ≤ 400)) (i_x12 : (0 ≤ (Int32.toInt x12) ∧ (Int32.toInt x12) ≤ 400)) (i_x13 : (0 ≤ (Int32.toInt x13) ∧ (Int32.toInt x13) ≤ 1)) (sz : Nat) : Met l yX0_straightCurves wsX0_straightCurves ({ frames := 2, cells := 0, slots := 0, locals := 55 }) (va_Pc [.ref h0, .int x0] (PW g [(h0, .inr (0, [.ref h1, .ref h2, .ref h6, .int x1, .int x2, .long y0, .int x3, .int x4, .int x5, .int x6, .ref h7, .ref h8, .ref h9, .int x7, .int x8])), (h1, .inr (6, [.ref h3, .ref h10, .int x9, .int x10])), (h2, .inr (5, [.ref h4, .ref h5, .int x11, .int x12, .long y1, .long y2, .int x13])), (h3, .inl (gJ g, 48, .inr (.inl fm0))), (h4, .inl (gB g, 400, .inl fn0)), (h5, .inl (gJ g, 2400, .inr (.inl fm1)))] sz)) (va_Qi (fun (r : Int32) (u : (Int32) × (Int64) × (Int64) × (Int32) × (Nat → Int32) × (Nat → Int64)) => 0 ≤ (Int32.toInt r) ∧ (Int32.toInt r) ≤ 6 ∧ 0 ≤ (Int32.toInt (u.1)) ∧ (Int32.toInt (u.1)) ≤ 400 ∧ 0 ≤ (Int32.toInt (u.2.2.2.1)) ∧ (Int32.toInt (u.2.2.2.1)) ≤ 1) (BW g (va_A [(h0, .inr (0, [.ref h1, .ref h2, .ref h6, .int x1, .int x2, .long y0, .int x3, .int x4, .int x5, .int x6, .ref h7, .ref h8, .ref h9, .int x7, .int x8])), (h1, .inr (6, [.ref h3, .ref h10, .int x9, .int x10])), (h2, .inr (5, [.ref h4, .ref h5, .int x11, .int x12, .long y1, .long y2, .int x13])), (h3, .inl (gJ g, 48, .inr (.inl fm0))), (h4, .inl (gB g, 400, .inl fn0)), (h5, .inl (gJ g, 2400, .inr (.inl fm1)))] sz) (fun u : (Int32) × (Int64) × (Int64) × (Int32) × (Nat → Int32) × (Nat → Int64) => [(h0, .inr (0, [.ref h1, .ref h2, .ref h6, .int x1, .int x2, .long y0, .int x3, .int x4, .int x5, .int x6, .ref h7, .ref h8, .ref h9, .int x7, .int x8])), (h1, .inr (6, [.ref h3, .ref h10, .int x9, .int x10])), (h2, .inr (5, [.ref h4, .ref h5, .int u.1, .int x12, .long u.2.1, .long u.2.2.1, .int u.2.2.2.1])), (h3, .inl (gJ g, 48, .inr (.inl fm0))), (h4, .inl (gB g, 400, .inl u.2.2.2.2.1)), (h5, .inl (gJ g, 2400, .inr (.inl u.2.2.2.2.2)))])) (va_A [(h0, .inr (0, [.ref h1, .ref h2, .ref h6, .int x1, .int x2, .long y0, .int x3, .int x4, .int x5, .int x6, .ref h7, .ref h8, .ref h9, .int x7, .int x8])), (h1, .inr (6, [.ref h3, .ref h10, .int x9, .int x10])), (h2, .inr (5, [.ref h4, .ref h5, .int x11, .int x12, .long y1, .long y2, .int x13])), (h3, .inl (gJ g, 48, .inr (.inl fm0))), (h4, .inl (gB g, 400, .inl fn0)), (h5, .inl (gJ g, 2400, .inr (.inl fm1)))] sz)) 0 0 (va_A [(h0, .inr (0, [.ref h1, .ref h2, .ref h6, .int x1, .int x2, .long y0, .int x3, .int x4, .int x5, .int x6, .ref h7, .ref h8, .ref h9, .int x7, .int x8])), (h1, .inr (6, [.ref h3, .ref h10, .int x9, .int x10])), (h2, .inr (5, [.ref h4, .ref h5, .int x11, .int x12, .long y1, .long y2, .int x13])), (h3, .inl (gJ g, 48, .inr (.inl fm0))), (h4, .inl (gB g, 400, .inl fn0)), (h5, .inl (gJ g, 2400, .inr (.inl fm1)))] sz) := by
  refine met_i RX0 (by decide) rfl rfl (Nat.le_of_ble_eq_true rfl) [(0, .ref h0), (1, .int x0)] rfl ?_
  intro p e s m args below meth c A Q C hnm Rt
  have hiX0 : ∀ w ∈ wsX00, w ∈ wsX0_straightCurves := fun w h => List.mem_cons_of_mem _ (List.mem_append_left _ (List.mem_append_left _ (List.mem_append_left _ (List.mem_append_right _ (h)))))
  refine r_aload_n 0 0 C dX0_straightCurves_0 rfl ?_
  refine r_get 1 C dX0_straightCurves_1 (k := 0) 0 rfl rfl hiX0 (by decide) rfl (mg 1 rfl) (Or.inr (mg 2 rfl)) rfl ?_
  refine r_callVi 4 C dX0_straightCurves_4 [] [(h1, .inr (6, [.ref h3, .ref h10, .int x9, .int x10]))] [(h0, .inr (0, [.ref h1, .ref h2, .ref h6, .int x1, .int x2, .long y0, .int x3, .int x4, .int x5, .int x6, .ref h7, .ref h8, .ref h9, .int x7, .int x8])), (h2, .inr (5, [.ref h4, .ref h5, .int x11, .int x12, .long y1, .long y2, .int x13])), (h3, .inl (gJ g, 48, .inr (.inl fm0))), (h4, .inl (gB g, 400, .inl fn0)), (h5, .inl (gJ g, 2400, .inr (.inl fm1)))] (fun sz => c231_X7_size l g h1 h3 h10 x9 x10 i_x9 i_x10 sz) gX0_straightCurves_X7_size rfl ⟨rfl, rfl⟩ 0 (by decide) ⟨Nat.le_of_ble_eq_true rfl, Nat.le_of_ble_eq_true rfl⟩ 1 rfl rfl [1] [0, 2, 3, 4, 5] rfl rfl (by decide) (by decide) (by decide) rfl rfl (Nat.le_of_ble_eq_true rfl) ⟨Nat.le_of_ble_eq_true rfl, Nat.le_of_ble_eq_true rfl⟩ (fun r1 _ w2 => ?_)
  refine r_ws [(h0, .inr (0, [.ref h1, .ref h2, .ref h6, .int x1, .int x2, .long y0, .int x3, .int x4, .int x5, .int x6, .ref h7, .ref h8, .ref h9, .int x7, .int x8])), (h2, .inr (5, [.ref h4, .ref h5, .int x11, .int x12, .long y1, .long y2, .int x13])), (h3, .inl (gJ g, 48, .inr (.inl fm0))), (h4, .inl (gB g, 400, .inl fn0)), (h5, .inl (gJ g, 2400, .inr (.inl fm1))), (h1, .inr (6, [.ref h3, .ref h10, .int x9, .int x10]))] rfl ?_
  have p3 : x9 = r1 := (w2).symm
  subst p3
  refine r_istore_n 7 C dX0_straightCurves_7 [(2, .int x9), (0, .ref h0), (1, .int x0)] (by decide) rfl ?_
  refine r_iload_n 8 0 C dX0_straightCurves_8 rfl ?_
  refine r_iconst 9 4 C dX0_straightCurves_9 (by decide) ?_
  obtain ⟨z4, ez4⟩ : ∃ z_9, x9 - x9 / 4 * 4 = z_9 := ⟨_, rfl⟩
  have tz4 : (Int32.toInt z4) = (Int32.toInt x9) % 4 := by rw [← ez4]; exact rem_nn (by omega) (n := 4) (by decide) (by decide)
  refine r_irem 10 z4 C dX0_straightCurves_10 (by decide) ez4 ?_
  refine r_istore_n 11 C dX0_straightCurves_11 [(3, .int z4), (2, .int x9), (0, .ref h0), (1, .int x0)] (by decide) rfl ?_
  refine r_iload_n 12 1 C dX0_straightCurves_12 rfl ?_
  refine r_iconst 13 4 C dX0_straightCurves_13 (by decide) ?_
  refine r_icmp_lt 14 22 C dX0_straightCurves_14 (by decide) (fun c5 => ?_) (fun c5 => ?_)
  · skip
    have k6 : (Int32.toInt x9) < 4 := (fa_lt x9 4).mp c5
    refine r_iconst 22 2 C dX0_straightCurves_22 (by decide) ?_
    exact r_iret 23 Rt dX0_straightCurves_23 (x11, y1, y2, x13, fn0, fm1) (show 0 ≤ (Int32.toInt 2) ∧ (Int32.toInt 2) ≤ 6 ∧ 0 ≤ (Int32.toInt x11) ∧ (Int32.toInt x11) ≤ 400 ∧ 0 ≤ (Int32.toInt x13) ∧ (Int32.toInt x13) ≤ 1 from ⟨(by ((repeat' apply And.intro) <;> first | trivial | rfl | assumption | omega | decide | exact Or.inl rfl | exact Or.inr (Or.inl rfl) | exact Or.inr (Or.inr rfl))), (by ((repeat' apply And.intro) <;> first | trivial | rfl | assumption | omega | decide | exact Or.inl rfl | exact Or.inr (Or.inl rfl) | exact Or.inr (Or.inr rfl))), i_x11.1, i_x11.2, i_x13.1, i_x13.2⟩) [0, 5, 1, 2, 3, 4] (by decide) rfl (Nat.le_of_ble_eq_true rfl) (Nat.le_of_ble_eq_true rfl)
  · skip
    have k7 : ¬ ((Int32.toInt x9) < 4) := fun h_9 => c5 ((fa_lt x9 4).mpr h_9)
    refine r_iload_n 17 0 C dX0_straightCurves_17 rfl ?_
    refine r_iconst 18 1 C dX0_straightCurves_18 (by decide) ?_
    refine r_icmp_le 19 24 C dX0_straightCurves_19 (by decide) (fun c8 => ?_) (fun c8 => ?_)
    · skip
      have k9 : (Int32.toInt z4) ≤ 1 := (fa_le z4 1).mp c8
      refine r_iload_n 24 0 C dX0_straightCurves_24 rfl ?_
      refine r_iconst 25 1 C dX0_straightCurves_25 (by decide) ?_
      refine r_icmp_ne 26 40 C dX0_straightCurves_26 (by decide) (fun c10 => ?_) (fun c10 => ?_)
      · skip
        have k11 : ¬ ((Int32.toInt z4) = 1) := fun h_9 => c10 ((fa_eq z4 1).mpr h_9)
        refine r_lconst 40 0 C dX0_straightCurves_40 (by decide) ?_
        refine r_lstore 41 C dX0_straightCurves_41 [(4, .long 0), (3, .int z4), (2, .int x9), (0, .ref h0), (1, .int x0)] (by decide) rfl ?_
        refine r_iconst 43 0 C dX0_straightCurves_43 (by decide) ?_
        refine r_istore 44 C dX0_straightCurves_44 [(6, .int 0), (4, .long 0), (3, .int z4), (2, .int x9), (0, .ref h0), (1, .int x0)] (by decide) rfl ?_
        refine r_iload_n 46 2 C dX0_straightCurves_46 rfl ?_
        refine r_istore 47 C dX0_straightCurves_47 [(7, .int z4), (6, .int 0), (4, .long 0), (3, .int z4), (2, .int x9), (0, .ref h0), (1, .int x0)] (by decide) rfl ?_
        have lp22 : ∀ (n21 : Nat) (z12 : Int32) (z13 : Int32) (z14 : Int64) (z15 : Int32) (z16 : Int64) (z17 : Int64) (z18 : Int32) (f19 : Nat → Int32) (f20 : Nat → Int64), (0 ≤ (Int32.toInt z12) ∧ (Int32.toInt z12) ≤ 48) → (0 ≤ (Int32.toInt z13) ∧ (Int32.toInt z13) ≤ 6) → (0 ≤ (Int64.toInt z14) ∧ (Int64.toInt z14) ≤ 0) → (0 ≤ (Int32.toInt z15) ∧ (Int32.toInt z15) ≤ 400) → (0 ≤ (Int32.toInt z18) ∧ (Int32.toInt z18) ≤ 1) → Int.toNat (48 - (Int32.toInt z12)) < n21 → WW p l e ({ frames := 2, cells := 0, slots := 0, locals := 55 } : Room) s m args below meth c A Q g 16 0 0 [(h0, .inr (0, [.ref h1, .ref h2, .ref h6, .int x1, .int x2, .long y0, .int x3, .int x4, .int x5, .int x6, .ref h7, .ref h8, .ref h9, .int x7, .int x8])), (h2, .inr (5, [.ref h4, .ref h5, .int z15, .int x12, .long z16, .long z17, .int z18])), (h3, .inl (gJ g, 48, .inr (.inl fm0))), (h4, .inl (gB g, 400, .inl f19)), (h5, .inl (gJ g, 2400, .inr (.inl f20))), (h1, .inr (6, [.ref h3, .ref h10, .int x9, .int x10]))] 49 [(7, .int z12), (6, .int z13), (4, .long z14), (3, .int z4), (2, .int x9), (0, .ref h0), (1, .int x0)] [] := by
          intro n21
          induction n21 with
          | zero => intro z12 z13 z14 z15 z16 z17 z18 f19 f20 i25 i26 i27 i28 i29 hm24; exact absurd hm24 (Nat.not_lt_zero _)
          | succ n21 ih23 =>
            intro z12 z13 z14 z15 z16 z17 z18 f19 f20 i25 i26 i27 i28 i29 hm24
            obtain ⟨i25a, i25b⟩ := i25
            obtain ⟨i26a, i26b⟩ := i26
            obtain ⟨i27a, i27b⟩ := i27
            obtain ⟨i28a, i28b⟩ := i28
            obtain ⟨i29a, i29b⟩ := i29
            have gz16 := fb_rngL z16
            have gz17 := fb_rngL z17
            refine r_iload 49 0 C dX0_straightCurves_49 rfl ?_
            refine r_iconst 51 4 C dX0_straightCurves_51 (by decide) ?_
            obtain ⟨z30, ez30⟩ : ∃ z_9, z12 + 4 = z_9 := ⟨_, rfl⟩
            have tz30 : (Int32.toInt z30) = (Int32.toInt z12) + 4 := by rw [← ez30]; exact fb_addIv (a := 0) (b := 48) (c := 4) (d := 4) ⟨i25a, i25b⟩ ⟨by decide, by decide⟩ (by decide) (by decide)
            refine r_iadd 52 z30 C dX0_straightCurves_52 ez30 ?_
            refine r_iload_n 53 4 C dX0_straightCurves_53 rfl ?_
            refine r_icmp_gt 54 166 C dX0_straightCurves_54 (by decide) (fun c31 => ?_) (fun c31 => ?_)
            · skip
              have k32 : (Int32.toInt x9) < (Int32.toInt z30) := (fa_lt x9 z30).mp c31
              refine r_iload 166 1 C dX0_straightCurves_166 rfl ?_
              exact r_iret 168 Rt dX0_straightCurves_168 (z15, z16, z17, z18, f19, f20) (show 0 ≤ (Int32.toInt z13) ∧ (Int32.toInt z13) ≤ 6 ∧ 0 ≤ (Int32.toInt z15) ∧ (Int32.toInt z15) ≤ 400 ∧ 0 ≤ (Int32.toInt z18) ∧ (Int32.toInt z18) ≤ 1 from ⟨(show _ ∧ _ from ⟨i26a, i26b⟩).1, (show _ ∧ _ from ⟨i26a, i26b⟩).2, (show _ ∧ _ from ⟨i28a, i28b⟩).1, (show _ ∧ _ from ⟨i28a, i28b⟩).2, (show _ ∧ _ from ⟨i29a, i29b⟩).1, (show _ ∧ _ from ⟨i29a, i29b⟩).2⟩) [0, 5, 1, 2, 3, 4] (by decide) rfl (Nat.le_of_ble_eq_true rfl) (Nat.le_of_ble_eq_true rfl)
            · skip
              have k33 : ¬ ((Int32.toInt x9) < (Int32.toInt z30)) := fun h_9 => c31 ((fa_lt x9 z30).mpr h_9)
              refine r_iload 57 1 C dX0_straightCurves_57 rfl ?_
              refine r_if_ne 59 166 C dX0_straightCurves_59 (by decide) (fun c34 => ?_) (fun c34 => ?_)
              · skip
                have k35 : ¬ ((Int32.toInt z13) = 0) := fun h_9 => c34 ((fa_eq z13 0).mpr h_9)
                refine r_iload 166 1 C dX0_straightCurves_166 rfl ?_
                exact r_iret 168 Rt dX0_straightCurves_168 (z15, z16, z17, z18, f19, f20) (show 0 ≤ (Int32.toInt z13) ∧ (Int32.toInt z13) ≤ 6 ∧ 0 ≤ (Int32.toInt z15) ∧ (Int32.toInt z15) ≤ 400 ∧ 0 ≤ (Int32.toInt z18) ∧ (Int32.toInt z18) ≤ 1 from ⟨(show _ ∧ _ from ⟨i26a, i26b⟩).1, (show _ ∧ _ from ⟨i26a, i26b⟩).2, (show _ ∧ _ from ⟨i28a, i28b⟩).1, (show _ ∧ _ from ⟨i28a, i28b⟩).2, (show _ ∧ _ from ⟨i29a, i29b⟩).1, (show _ ∧ _ from ⟨i29a, i29b⟩).2⟩) [0, 5, 1, 2, 3, 4] (by decide) rfl (Nat.le_of_ble_eq_true rfl) (Nat.le_of_ble_eq_true rfl)
              · skip
                have k36 : (Int32.toInt z13) = 0 := (fa_eq z13 0).mp c34
                refine r_aload_n 62 5 C dX0_straightCurves_62 rfl ?_
                refine r_get 63 C dX0_straightCurves_63 (k := 0) 0 rfl rfl hiX0 (by decide) rfl (mg 1 rfl) (Or.inr (mg 2 rfl)) rfl ?_
                refine r_iload 66 0 C dX0_straightCurves_66 rfl ?_
                refine r_callVl 68 C dX0_straightCurves_68 [] [(h1, .inr (6, [.ref h3, .ref h10, .int x9, .int x10])), (h3, .inl (gJ g, 48, .inr (.inl fm0)))] [(h0, .inr (0, [.ref h1, .ref h2, .ref h6, .int x1, .int x2, .long y0, .int x3, .int x4, .int x5, .int x6, .ref h7, .ref h8, .ref h9, .int x7, .int x8])), (h2, .inr (5, [.ref h4, .ref h5, .int z15, .int x12, .long z16, .long z17, .int z18])), (h4, .inl (gB g, 400, .inl f19)), (h5, .inl (gJ g, 2400, .inr (.inl f20)))] (fun sz => c232_X7_get l g h1 h3 z12 h10 x9 x10 fm0 i_x9 i_x10 sz) gX0_straightCurves_X7_get rfl ⟨rfl, rfl⟩ 1 (by decide) ⟨Nat.le_of_ble_eq_true rfl, Nat.le_of_ble_eq_true rfl⟩ 5 rfl rfl [5, 2] [0, 1, 3, 4] rfl rfl (by decide) (by decide) (by decide) rfl rfl (Nat.le_of_ble_eq_true rfl) ⟨Nat.le_of_ble_eq_true rfl, Nat.le_of_ble_eq_true rfl⟩ (fun r37 _ w38 => ?_)
                refine r_ws [(h0, .inr (0, [.ref h1, .ref h2, .ref h6, .int x1, .int x2, .long y0, .int x3, .int x4, .int x5, .int x6, .ref h7, .ref h8, .ref h9, .int x7, .int x8])), (h2, .inr (5, [.ref h4, .ref h5, .int z15, .int x12, .long z16, .long z17, .int z18])), (h4, .inl (gB g, 400, .inl f19)), (h5, .inl (gJ g, 2400, .inr (.inl f20))), (h1, .inr (6, [.ref h3, .ref h10, .int x9, .int x10])), (h3, .inl (gJ g, 48, .inr (.inl fm0)))] rfl ?_
                have gr37 := fb_rngL r37
                refine r_lstore 71 C dX0_straightCurves_71 [(8, .long r37), (7, .int z12), (6, .int z13), (4, .long z14), (3, .int z4), (2, .int x9), (0, .ref h0), (1, .int x0)] (by decide) rfl ?_
                refine r_aload_n 73 6 C dX0_straightCurves_73 rfl ?_
                refine r_get 74 C dX0_straightCurves_74 (k := 0) 0 rfl rfl hiX0 (by decide) rfl (mg 1 rfl) (Or.inr (mg 2 rfl)) rfl ?_
                refine r_iload 77 1 C dX0_straightCurves_77 rfl ?_
                refine r_iconst 79 1 C dX0_straightCurves_79 (by decide) ?_
                obtain ⟨z39, ez39⟩ : ∃ z_9, z12 + 1 = z_9 := ⟨_, rfl⟩
                have tz39 : (Int32.toInt z39) = (Int32.toInt z12) + 1 := by rw [← ez39]; exact fb_addIv (a := 0) (b := 48) (c := 1) (d := 1) ⟨i25a, i25b⟩ ⟨by decide, by decide⟩ (by decide) (by decide)
                refine r_iadd 80 z39 C dX0_straightCurves_80 ez39 ?_
                refine r_callVl 81 C dX0_straightCurves_81 [] [(h1, .inr (6, [.ref h3, .ref h10, .int x9, .int x10])), (h3, .inl (gJ g, 48, .inr (.inl fm0)))] [(h0, .inr (0, [.ref h1, .ref h2, .ref h6, .int x1, .int x2, .long y0, .int x3, .int x4, .int x5, .int x6, .ref h7, .ref h8, .ref h9, .int x7, .int x8])), (h2, .inr (5, [.ref h4, .ref h5, .int z15, .int x12, .long z16, .long z17, .int z18])), (h4, .inl (gB g, 400, .inl f19)), (h5, .inl (gJ g, 2400, .inr (.inl f20)))] (fun sz => c232_X7_get l g h1 h3 z39 h10 x9 x10 fm0 i_x9 i_x10 sz) gX0_straightCurves_X7_get rfl ⟨rfl, rfl⟩ 1 (by decide) ⟨Nat.le_of_ble_eq_true rfl, Nat.le_of_ble_eq_true rfl⟩ 4 rfl rfl [4, 5] [0, 1, 2, 3] rfl rfl (by decide) (by decide) (by decide) rfl rfl (Nat.le_of_ble_eq_true rfl) ⟨Nat.le_of_ble_eq_true rfl, Nat.le_of_ble_eq_true rfl⟩ (fun r40 _ w41 => ?_)
                refine r_ws [(h0, .inr (0, [.ref h1, .ref h2, .ref h6, .int x1, .int x2, .long y0, .int x3, .int x4, .int x5, .int x6, .ref h7, .ref h8, .ref h9, .int x7, .int x8])), (h2, .inr (5, [.ref h4, .ref h5, .int z15, .int x12, .long z16, .long z17, .int z18])), (h4, .inl (gB g, 400, .inl f19)), (h5, .inl (gJ g, 2400, .inr (.inl f20))), (h1, .inr (6, [.ref h3, .ref h10, .int x9, .int x10])), (h3, .inl (gJ g, 48, .inr (.inl fm0)))] rfl ?_
                have gr40 := fb_rngL r40
                refine r_lstore 84 C dX0_straightCurves_84 [(10, .long r40), (8, .long r37), (7, .int z12), (6, .int z13), (4, .long z14), (3, .int z4), (2, .int x9), (0, .ref h0), (1, .int x0)] (by decide) rfl ?_
                refine r_aload_n 86 7 C dX0_straightCurves_86 rfl ?_
                refine r_get 87 C dX0_straightCurves_87 (k := 0) 0 rfl rfl hiX0 (by decide) rfl (mg 1 rfl) (Or.inr (mg 2 rfl)) rfl ?_
                refine r_iload 90 2 C dX0_straightCurves_90 rfl ?_
                refine r_iconst 92 2 C dX0_straightCurves_92 (by decide) ?_
                obtain ⟨z42, ez42⟩ : ∃ z_9, z12 + 2 = z_9 := ⟨_, rfl⟩
                have tz42 : (Int32.toInt z42) = (Int32.toInt z12) + 2 := by rw [← ez42]; exact fb_addIv (a := 0) (b := 48) (c := 2) (d := 2) ⟨i25a, i25b⟩ ⟨by decide, by decide⟩ (by decide) (by decide)
                refine r_iadd 93 z42 C dX0_straightCurves_93 ez42 ?_
                refine r_callVl 94 C dX0_straightCurves_94 [] [(h1, .inr (6, [.ref h3, .ref h10, .int x9, .int x10])), (h3, .inl (gJ g, 48, .inr (.inl fm0)))] [(h0, .inr (0, [.ref h1, .ref h2, .ref h6, .int x1, .int x2, .long y0, .int x3, .int x4, .int x5, .int x6, .ref h7, .ref h8, .ref h9, .int x7, .int x8])), (h2, .inr (5, [.ref h4, .ref h5, .int z15, .int x12, .long z16, .long z17, .int z18])), (h4, .inl (gB g, 400, .inl f19)), (h5, .inl (gJ g, 2400, .inr (.inl f20)))] (fun sz => c232_X7_get l g h1 h3 z42 h10 x9 x10 fm0 i_x9 i_x10 sz) gX0_straightCurves_X7_get rfl ⟨rfl, rfl⟩ 1 (by decide) ⟨Nat.le_of_ble_eq_true rfl, Nat.le_of_ble_eq_true rfl⟩ 4 rfl rfl [4, 5] [0, 1, 2, 3] rfl rfl (by decide) (by decide) (by decide) rfl rfl (Nat.le_of_ble_eq_true rfl) ⟨Nat.le_of_ble_eq_true rfl, Nat.le_of_ble_eq_true rfl⟩ (fun r43 _ w44 => ?_)
                refine r_ws [(h0, .inr (0, [.ref h1, .ref h2, .ref h6, .int x1, .int x2, .long y0, .int x3, .int x4, .int x5, .int x6, .ref h7, .ref h8, .ref h9, .int x7, .int x8])), (h2, .inr (5, [.ref h4, .ref h5, .int z15, .int x12, .long z16, .long z17, .int z18])), (h4, .inl (gB g, 400, .inl f19)), (h5, .inl (gJ g, 2400, .inr (.inl f20))), (h1, .inr (6, [.ref h3, .ref h10, .int x9, .int x10])), (h3, .inl (gJ g, 48, .inr (.inl fm0)))] rfl ?_
                have gr43 := fb_rngL r43
                refine r_lstore 97 C dX0_straightCurves_97 [(12, .long r43), (10, .long r40), (8, .long r37), (7, .int z12), (6, .int z13), (4, .long z14), (3, .int z4), (2, .int x9), (0, .ref h0), (1, .int x0)] (by decide) rfl ?_
                refine r_aload_n 99 8 C dX0_straightCurves_99 rfl ?_
                refine r_get 100 C dX0_straightCurves_100 (k := 0) 0 rfl rfl hiX0 (by decide) rfl (mg 1 rfl) (Or.inr (mg 2 rfl)) rfl ?_
                refine r_iload 103 3 C dX0_straightCurves_103 rfl ?_
                refine r_iconst 105 3 C dX0_straightCurves_105 (by decide) ?_
                obtain ⟨z45, ez45⟩ : ∃ z_9, z12 + 3 = z_9 := ⟨_, rfl⟩
                have tz45 : (Int32.toInt z45) = (Int32.toInt z12) + 3 := by rw [← ez45]; exact fb_addIv (a := 0) (b := 48) (c := 3) (d := 3) ⟨i25a, i25b⟩ ⟨by decide, by decide⟩ (by decide) (by decide)
                refine r_iadd 106 z45 C dX0_straightCurves_106 ez45 ?_
                refine r_callVl 107 C dX0_straightCurves_107 [] [(h1, .inr (6, [.ref h3, .ref h10, .int x9, .int x10])), (h3, .inl (gJ g, 48, .inr (.inl fm0)))] [(h0, .inr (0, [.ref h1, .ref h2, .ref h6, .int x1, .int x2, .long y0, .int x3, .int x4, .int x5, .int x6, .ref h7, .ref h8, .ref h9, .int x7, .int x8])), (h2, .inr (5, [.ref h4, .ref h5, .int z15, .int x12, .long z16, .long z17, .int z18])), (h4, .inl (gB g, 400, .inl f19)), (h5, .inl (gJ g, 2400, .inr (.inl f20)))] (fun sz => c232_X7_get l g h1 h3 z45 h10 x9 x10 fm0 i_x9 i_x10 sz) gX0_straightCurves_X7_get rfl ⟨rfl, rfl⟩ 1 (by decide) ⟨Nat.le_of_ble_eq_true rfl, Nat.le_of_ble_eq_true rfl⟩ 4 rfl rfl [4, 5] [0, 1, 2, 3] rfl rfl (by decide) (by decide) (by decide) rfl rfl (Nat.le_of_ble_eq_true rfl) ⟨Nat.le_of_ble_eq_true rfl, Nat.le_of_ble_eq_true rfl⟩ (fun r46 _ w47 => ?_)
                refine r_ws [(h0, .inr (0, [.ref h1, .ref h2, .ref h6, .int x1, .int x2, .long y0, .int x3, .int x4, .int x5, .int x6, .ref h7, .ref h8, .ref h9, .int x7, .int x8])), (h2, .inr (5, [.ref h4, .ref h5, .int z15, .int x12, .long z16, .long z17, .int z18])), (h4, .inl (gB g, 400, .inl f19)), (h5, .inl (gJ g, 2400, .inr (.inl f20))), (h1, .inr (6, [.ref h3, .ref h10, .int x9, .int x10])), (h3, .inl (gJ g, 48, .inr (.inl fm0)))] rfl ?_
                have gr46 := fb_rngL r46
                refine r_lstore 110 C dX0_straightCurves_110 [(14, .long r46), (12, .long r43), (10, .long r40), (8, .long r37), (7, .int z12), (6, .int z13), (4, .long z14), (3, .int z4), (2, .int x9), (0, .ref h0), (1, .int x0)] (by decide) rfl ?_
                refine r_iload_n 112 10 C dX0_straightCurves_112 rfl ?_
                refine r_if_eq 113 137 C dX0_straightCurves_113 (by decide) (fun c48 => ?_) (fun c48 => ?_)
                · skip
                  have k49 : (Int32.toInt x0) = 0 := (fa_eq x0 0).mp c48
                  refine r_aload_n 137 9 C dX0_straightCurves_137 rfl ?_
                  refine r_get 138 C dX0_straightCurves_138 (k := 1) 0 rfl rfl hiX0 (by decide) rfl (mg 3 rfl) (Or.inr (mg 4 rfl)) rfl ?_
                  refine r_lload 141 6 C dX0_straightCurves_141 rfl ?_
                  refine r_lload 143 3 C dX0_straightCurves_143 rfl ?_
                  refine r_lload 145 2 C dX0_straightCurves_145 rfl ?_
                  refine r_lload 147 1 C dX0_straightCurves_147 rfl ?_
                  refine r_lconst 149 0 C dX0_straightCurves_149 (by decide) ?_
                  refine r_lload 150 0 C dX0_straightCurves_150 rfl ?_
                  refine r_callVi 152 C dX0_straightCurves_152 [] [(h2, .inr (5, [.ref h4, .ref h5, .int z15, .int x12, .long z16, .long z17, .int z18])), (h4, .inl (gB g, 400, .inl f19)), (h5, .inl (gJ g, 2400, .inr (.inl f20)))] [(h0, .inr (0, [.ref h1, .ref h2, .ref h6, .int x1, .int x2, .long y0, .int x3, .int x4, .int x5, .int x6, .ref h7, .ref h8, .ref h9, .int x7, .int x8])), (h1, .inr (6, [.ref h3, .ref h10, .int x9, .int x10])), (h3, .inl (gJ g, 48, .inr (.inl fm0)))] (fun sz => c246_X6_curveBy l g h2 h4 h5 z14 r37 r40 r43 0 r46 z15 x12 z16 z17 z18 f19 f20 ⟨i28a, i28b⟩ i_x12 ⟨i29a, i29b⟩ sz) gX0_straightCurves_X6_curveBy rfl ⟨rfl, rfl⟩ 6 (by decide) ⟨Nat.le_of_ble_eq_true rfl, Nat.le_of_ble_eq_true rfl⟩ 1 rfl rfl [1, 2, 3] [0, 4, 5] rfl rfl (by decide) (by decide) (by decide) rfl rfl (Nat.le_of_ble_eq_true rfl) ⟨Nat.le_of_ble_eq_true rfl, Nat.le_of_ble_eq_true rfl⟩ (fun r55 u57 w56 => ?_)
                  obtain ⟨z50, z51, z52, f53, f54⟩ := u57
                  refine r_ws [(h0, .inr (0, [.ref h1, .ref h2, .ref h6, .int x1, .int x2, .long y0, .int x3, .int x4, .int x5, .int x6, .ref h7, .ref h8, .ref h9, .int x7, .int x8])), (h1, .inr (6, [.ref h3, .ref h10, .int x9, .int x10])), (h3, .inl (gJ g, 48, .inr (.inl fm0))), (h2, .inr (5, [.ref h4, .ref h5, .int z50, .int x12, .long z51, .long z52, .int 1])), (h4, .inl (gB g, 400, .inl f53)), (h5, .inl (gJ g, 2400, .inr (.inl f54)))] rfl ?_
                  have gz51 := fb_rngL z51
                  have gz52 := fb_rngL z52
                  have p58 : 0 ≤ (Int32.toInt r55) := w56.1
                  have p59 : (Int32.toInt r55) ≤ 6 := w56.2.1
                  have p60 : 0 ≤ (Int32.toInt z50) := w56.2.2.1
                  have p61 : (Int32.toInt z50) ≤ 400 := w56.2.2.2
                  refine r_istore 155 C dX0_straightCurves_155 [(6, .int r55), (14, .long r46), (12, .long r43), (10, .long r40), (8, .long r37), (7, .int z12), (4, .long z14), (3, .int z4), (2, .int x9), (0, .ref h0), (1, .int x0)] (by decide) rfl ?_
                  refine r_lconst 157 0 C dX0_straightCurves_157 (by decide) ?_
                  refine r_lstore 158 C dX0_straightCurves_158 [(4, .long 0), (6, .int r55), (14, .long r46), (12, .long r43), (10, .long r40), (8, .long r37), (7, .int z12), (3, .int z4), (2, .int x9), (0, .ref h0), (1, .int x0)] (by decide) rfl ?_
                  obtain ⟨z62, ez62⟩ : ∃ z_9, z12 + Int32.ofInt 4 = z_9 := ⟨_, rfl⟩
                  have tz62 : (Int32.toInt z62) = (Int32.toInt z12) + 4 := by rw [← ez62]; exact fb_addIv (a := 0) (b := 48) (c := 4) (d := 4) ⟨i25a, i25b⟩ ⟨by decide, by decide⟩ (by decide) (by decide)
                  refine r_iinc 160 6 z62 C dX0_straightCurves_160 rfl ez62 [(7, .int z62), (4, .long 0), (6, .int r55), (14, .long r46), (12, .long r43), (10, .long r40), (8, .long r37), (3, .int z4), (2, .int x9), (0, .ref h0), (1, .int x0)] (by decide) rfl ?_
                  refine r_goto 163 49 C dX0_straightCurves_163 (by decide) ?_
                  refine r_lv [(7, .int z62), (6, .int r55), (4, .long 0), (3, .int z4), (2, .int x9), (0, .ref h0), (1, .int x0)] [0, 2, 1, 7, 8, 9, 10] rfl ?_
                  refine r_pick [(h0, .inr (0, [.ref h1, .ref h2, .ref h6, .int x1, .int x2, .long y0, .int x3, .int x4, .int x5, .int x6, .ref h7, .ref h8, .ref h9, .int x7, .int x8])), (h2, .inr (5, [.ref h4, .ref h5, .int z50, .int x12, .long z51, .long z52, .int 1])), (h3, .inl (gJ g, 48, .inr (.inl fm0))), (h4, .inl (gB g, 400, .inl f53)), (h5, .inl (gJ g, 2400, .inr (.inl f54))), (h1, .inr (6, [.ref h3, .ref h10, .int x9, .int x10]))] [0, 3, 2, 4, 5, 1] (by decide) rfl ?_
                  exact ih23 z62 r55 0 z50 z51 z52 1 f53 f54 ⟨by omega, by omega⟩ ⟨p58, p59⟩ (by decide) ⟨p60, p61⟩ (by decide) (by omega)
                · skip
                  have k63 : ¬ ((Int32.toInt x0) = 0) := fun h_9 => c48 ((fa_eq x0 0).mpr h_9)
                  refine r_aload_n 116 9 C dX0_straightCurves_116 rfl ?_
                  refine r_get 117 C dX0_straightCurves_117 (k := 1) 0 rfl rfl hiX0 (by decide) rfl (mg 3 rfl) (Or.inr (mg 4 rfl)) rfl ?_
                  refine r_lload 120 3 C dX0_straightCurves_120 rfl ?_
                  refine r_lload 122 6 C dX0_straightCurves_122 rfl ?_
                  refine r_lload 124 2 C dX0_straightCurves_124 rfl ?_
                  refine r_lload 126 1 C dX0_straightCurves_126 rfl ?_
                  refine r_lload 128 0 C dX0_straightCurves_128 rfl ?_
                  refine r_lconst 130 0 C dX0_straightCurves_130 (by decide) ?_
                  refine r_callVi 131 C dX0_straightCurves_131 [] [(h2, .inr (5, [.ref h4, .ref h5, .int z15, .int x12, .long z16, .long z17, .int z18])), (h4, .inl (gB g, 400, .inl f19)), (h5, .inl (gJ g, 2400, .inr (.inl f20)))] [(h0, .inr (0, [.ref h1, .ref h2, .ref h6, .int x1, .int x2, .long y0, .int x3, .int x4, .int x5, .int x6, .ref h7, .ref h8, .ref h9, .int x7, .int x8])), (h1, .inr (6, [.ref h3, .ref h10, .int x9, .int x10])), (h3, .inl (gJ g, 48, .inr (.inl fm0)))] (fun sz => c246_X6_curveBy l g h2 h4 h5 r37 z14 r40 r43 r46 0 z15 x12 z16 z17 z18 f19 f20 ⟨i28a, i28b⟩ i_x12 ⟨i29a, i29b⟩ sz) gX0_straightCurves_X6_curveBy rfl ⟨rfl, rfl⟩ 6 (by decide) ⟨Nat.le_of_ble_eq_true rfl, Nat.le_of_ble_eq_true rfl⟩ 1 rfl rfl [1, 2, 3] [0, 4, 5] rfl rfl (by decide) (by decide) (by decide) rfl rfl (Nat.le_of_ble_eq_true rfl) ⟨Nat.le_of_ble_eq_true rfl, Nat.le_of_ble_eq_true rfl⟩ (fun r69 u71 w70 => ?_)
                  obtain ⟨z64, z65, z66, f67, f68⟩ := u71
                  refine r_ws [(h0, .inr (0, [.ref h1, .ref h2, .ref h6, .int x1, .int x2, .long y0, .int x3, .int x4, .int x5, .int x6, .ref h7, .ref h8, .ref h9, .int x7, .int x8])), (h1, .inr (6, [.ref h3, .ref h10, .int x9, .int x10])), (h3, .inl (gJ g, 48, .inr (.inl fm0))), (h2, .inr (5, [.ref h4, .ref h5, .int z64, .int x12, .long z65, .long z66, .int 1])), (h4, .inl (gB g, 400, .inl f67)), (h5, .inl (gJ g, 2400, .inr (.inl f68)))] rfl ?_
                  have gz65 := fb_rngL z65
                  have gz66 := fb_rngL z66
                  have p72 : 0 ≤ (Int32.toInt r69) := w70.1
                  have p73 : (Int32.toInt r69) ≤ 6 := w70.2.1
                  have p74 : 0 ≤ (Int32.toInt z64) := w70.2.2.1
                  have p75 : (Int32.toInt z64) ≤ 400 := w70.2.2.2
                  refine r_goto 134 155 C dX0_straightCurves_134 (by decide) ?_
                  refine r_istore 155 C dX0_straightCurves_155 [(6, .int r69), (14, .long r46), (12, .long r43), (10, .long r40), (8, .long r37), (7, .int z12), (4, .long z14), (3, .int z4), (2, .int x9), (0, .ref h0), (1, .int x0)] (by decide) rfl ?_
                  refine r_lconst 157 0 C dX0_straightCurves_157 (by decide) ?_
                  refine r_lstore 158 C dX0_straightCurves_158 [(4, .long 0), (6, .int r69), (14, .long r46), (12, .long r43), (10, .long r40), (8, .long r37), (7, .int z12), (3, .int z4), (2, .int x9), (0, .ref h0), (1, .int x0)] (by decide) rfl ?_
                  obtain ⟨z76, ez76⟩ : ∃ z_9, z12 + Int32.ofInt 4 = z_9 := ⟨_, rfl⟩
                  have tz76 : (Int32.toInt z76) = (Int32.toInt z12) + 4 := by rw [← ez76]; exact fb_addIv (a := 0) (b := 48) (c := 4) (d := 4) ⟨i25a, i25b⟩ ⟨by decide, by decide⟩ (by decide) (by decide)
                  refine r_iinc 160 6 z76 C dX0_straightCurves_160 rfl ez76 [(7, .int z76), (4, .long 0), (6, .int r69), (14, .long r46), (12, .long r43), (10, .long r40), (8, .long r37), (3, .int z4), (2, .int x9), (0, .ref h0), (1, .int x0)] (by decide) rfl ?_
                  refine r_goto 163 49 C dX0_straightCurves_163 (by decide) ?_
                  refine r_lv [(7, .int z76), (6, .int r69), (4, .long 0), (3, .int z4), (2, .int x9), (0, .ref h0), (1, .int x0)] [0, 2, 1, 7, 8, 9, 10] rfl ?_
                  refine r_pick [(h0, .inr (0, [.ref h1, .ref h2, .ref h6, .int x1, .int x2, .long y0, .int x3, .int x4, .int x5, .int x6, .ref h7, .ref h8, .ref h9, .int x7, .int x8])), (h2, .inr (5, [.ref h4, .ref h5, .int z64, .int x12, .long z65, .long z66, .int 1])), (h3, .inl (gJ g, 48, .inr (.inl fm0))), (h4, .inl (gB g, 400, .inl f67)), (h5, .inl (gJ g, 2400, .inr (.inl f68))), (h1, .inr (6, [.ref h3, .ref h10, .int x9, .int x10]))] [0, 3, 2, 4, 5, 1] (by decide) rfl ?_
                  exact ih23 z76 r69 0 z64 z65 z66 1 f67 f68 ⟨by omega, by omega⟩ ⟨p72, p73⟩ (by decide) ⟨p74, p75⟩ (by decide) (by omega)
        exact lp22 _ z4 0 0 x11 y1 y2 x13 fn0 fm1 ⟨by omega, by omega⟩ (by decide) (by decide) i_x11 i_x13 (Nat.lt_succ_self _)
      · skip
        have k77 : (Int32.toInt z4) = 1 := (fa_eq z4 1).mp c10
        refine r_aload_n 29 2 C dX0_straightCurves_29 rfl ?_
        refine r_get 30 C dX0_straightCurves_30 (k := 0) 0 rfl rfl hiX0 (by decide) rfl (mg 1 rfl) (Or.inr (mg 2 rfl)) rfl ?_
        refine r_iconst 33 0 C dX0_straightCurves_33 (by decide) ?_
        refine r_callVl 34 C dX0_straightCurves_34 [] [(h1, .inr (6, [.ref h3, .ref h10, .int x9, .int x10])), (h3, .inl (gJ g, 48, .inr (.inl fm0)))] [(h0, .inr (0, [.ref h1, .ref h2, .ref h6, .int x1, .int x2, .long y0, .int x3, .int x4, .int x5, .int x6, .ref h7, .ref h8, .ref h9, .int x7, .int x8])), (h2, .inr (5, [.ref h4, .ref h5, .int x11, .int x12, .long y1, .long y2, .int x13])), (h4, .inl (gB g, 400, .inl fn0)), (h5, .inl (gJ g, 2400, .inr (.inl fm1)))] (fun sz => c232_X7_get l g h1 h3 0 h10 x9 x10 fm0 i_x9 i_x10 sz) gX0_straightCurves_X7_get rfl ⟨rfl, rfl⟩ 1 (by decide) ⟨Nat.le_of_ble_eq_true rfl, Nat.le_of_ble_eq_true rfl⟩ 5 rfl rfl [5, 2] [0, 1, 3, 4] rfl rfl (by decide) (by decide) (by decide) rfl rfl (Nat.le_of_ble_eq_true rfl) ⟨Nat.le_of_ble_eq_true rfl, Nat.le_of_ble_eq_true rfl⟩ (fun r78 _ w79 => ?_)
        refine r_ws [(h0, .inr (0, [.ref h1, .ref h2, .ref h6, .int x1, .int x2, .long y0, .int x3, .int x4, .int x5, .int x6, .ref h7, .ref h8, .ref h9, .int x7, .int x8])), (h2, .inr (5, [.ref h4, .ref h5, .int x11, .int x12, .long y1, .long y2, .int x13])), (h4, .inl (gB g, 400, .inl fn0)), (h5, .inl (gJ g, 2400, .inr (.inl fm1))), (h1, .inr (6, [.ref h3, .ref h10, .int x9, .int x10])), (h3, .inl (gJ g, 48, .inr (.inl fm0)))] rfl ?_
        have gr78 := fb_rngL r78
        refine r_goto 37 41 C dX0_straightCurves_37 (by decide) ?_
        refine r_lstore 41 C dX0_straightCurves_41 [(4, .long r78), (3, .int z4), (2, .int x9), (0, .ref h0), (1, .int x0)] (by decide) rfl ?_
        refine r_iconst 43 0 C dX0_straightCurves_43 (by decide) ?_
        refine r_istore 44 C dX0_straightCurves_44 [(6, .int 0), (4, .long r78), (3, .int z4), (2, .int x9), (0, .ref h0), (1, .int x0)] (by decide) rfl ?_
        refine r_iload_n 46 2 C dX0_straightCurves_46 rfl ?_
        refine r_istore 47 C dX0_straightCurves_47 [(7, .int z4), (6, .int 0), (4, .long r78), (3, .int z4), (2, .int x9), (0, .ref h0), (1, .int x0)] (by decide) rfl ?_
        have lp90 : ∀ (n89 : Nat) (z80 : Int32) (z81 : Int32) (z82 : Int64) (z83 : Int32) (z84 : Int64) (z85 : Int64) (z86 : Int32) (f87 : Nat → Int32) (f88 : Nat → Int64), (1 ≤ (Int32.toInt z80) ∧ (Int32.toInt z80) ≤ 48) → (0 ≤ (Int32.toInt z81) ∧ (Int32.toInt z81) ≤ 6) → (0 ≤ (Int32.toInt z83) ∧ (Int32.toInt z83) ≤ 400) → (0 ≤ (Int32.toInt z86) ∧ (Int32.toInt z86) ≤ 1) → Int.toNat (48 - (Int32.toInt z80)) < n89 → WW p l e ({ frames := 2, cells := 0, slots := 0, locals := 55 } : Room) s m args below meth c A Q g 16 0 0 [(h0, .inr (0, [.ref h1, .ref h2, .ref h6, .int x1, .int x2, .long y0, .int x3, .int x4, .int x5, .int x6, .ref h7, .ref h8, .ref h9, .int x7, .int x8])), (h2, .inr (5, [.ref h4, .ref h5, .int z83, .int x12, .long z84, .long z85, .int z86])), (h4, .inl (gB g, 400, .inl f87)), (h5, .inl (gJ g, 2400, .inr (.inl f88))), (h1, .inr (6, [.ref h3, .ref h10, .int x9, .int x10])), (h3, .inl (gJ g, 48, .inr (.inl fm0)))] 49 [(7, .int z80), (6, .int z81), (4, .long z82), (3, .int z4), (2, .int x9), (0, .ref h0), (1, .int x0)] [] := by
          intro n89
          induction n89 with
          | zero => intro z80 z81 z82 z83 z84 z85 z86 f87 f88 i93 i94 i95 i96 hm92; exact absurd hm92 (Nat.not_lt_zero _)
          | succ n89 ih91 =>
            intro z80 z81 z82 z83 z84 z85 z86 f87 f88 i93 i94 i95 i96 hm92
            obtain ⟨i93a, i93b⟩ := i93
            obtain ⟨i94a, i94b⟩ := i94
            obtain ⟨i95a, i95b⟩ := i95
            obtain ⟨i96a, i96b⟩ := i96
            have gz82 := fb_rngL z82
            have gz84 := fb_rngL z84
            have gz85 := fb_rngL z85
            refine r_iload 49 0 C dX0_straightCurves_49 rfl ?_
            refine r_iconst 51 4 C dX0_straightCurves_51 (by decide) ?_
            obtain ⟨z97, ez97⟩ : ∃ z_9, z80 + 4 = z_9 := ⟨_, rfl⟩
            have tz97 : (Int32.toInt z97) = (Int32.toInt z80) + 4 := by rw [← ez97]; exact fb_addIv (a := 1) (b := 48) (c := 4) (d := 4) ⟨i93a, i93b⟩ ⟨by decide, by decide⟩ (by decide) (by decide)
            refine r_iadd 52 z97 C dX0_straightCurves_52 ez97 ?_
            refine r_iload_n 53 4 C dX0_straightCurves_53 rfl ?_
            refine r_icmp_gt 54 166 C dX0_straightCurves_54 (by decide) (fun c98 => ?_) (fun c98 => ?_)
            · skip
              have k99 : (Int32.toInt x9) < (Int32.toInt z97) := (fa_lt x9 z97).mp c98
              refine r_iload 166 1 C dX0_straightCurves_166 rfl ?_
              exact r_iret 168 Rt dX0_straightCurves_168 (z83, z84, z85, z86, f87, f88) (show 0 ≤ (Int32.toInt z81) ∧ (Int32.toInt z81) ≤ 6 ∧ 0 ≤ (Int32.toInt z83) ∧ (Int32.toInt z83) ≤ 400 ∧ 0 ≤ (Int32.toInt z86) ∧ (Int32.toInt z86) ≤ 1 from ⟨(show _ ∧ _ from ⟨i94a, i94b⟩).1, (show _ ∧ _ from ⟨i94a, i94b⟩).2, (show _ ∧ _ from ⟨i95a, i95b⟩).1, (show _ ∧ _ from ⟨i95a, i95b⟩).2, (show _ ∧ _ from ⟨i96a, i96b⟩).1, (show _ ∧ _ from ⟨i96a, i96b⟩).2⟩) [0, 4, 1, 5, 2, 3] (by decide) rfl (Nat.le_of_ble_eq_true rfl) (Nat.le_of_ble_eq_true rfl)
            · skip
              have k100 : ¬ ((Int32.toInt x9) < (Int32.toInt z97)) := fun h_9 => c98 ((fa_lt x9 z97).mpr h_9)
              refine r_iload 57 1 C dX0_straightCurves_57 rfl ?_
              refine r_if_ne 59 166 C dX0_straightCurves_59 (by decide) (fun c101 => ?_) (fun c101 => ?_)
              · skip
                have k102 : ¬ ((Int32.toInt z81) = 0) := fun h_9 => c101 ((fa_eq z81 0).mpr h_9)
                refine r_iload 166 1 C dX0_straightCurves_166 rfl ?_
                exact r_iret 168 Rt dX0_straightCurves_168 (z83, z84, z85, z86, f87, f88) (show 0 ≤ (Int32.toInt z81) ∧ (Int32.toInt z81) ≤ 6 ∧ 0 ≤ (Int32.toInt z83) ∧ (Int32.toInt z83) ≤ 400 ∧ 0 ≤ (Int32.toInt z86) ∧ (Int32.toInt z86) ≤ 1 from ⟨(show _ ∧ _ from ⟨i94a, i94b⟩).1, (show _ ∧ _ from ⟨i94a, i94b⟩).2, (show _ ∧ _ from ⟨i95a, i95b⟩).1, (show _ ∧ _ from ⟨i95a, i95b⟩).2, (show _ ∧ _ from ⟨i96a, i96b⟩).1, (show _ ∧ _ from ⟨i96a, i96b⟩).2⟩) [0, 4, 1, 5, 2, 3] (by decide) rfl (Nat.le_of_ble_eq_true rfl) (Nat.le_of_ble_eq_true rfl)
              · skip
                have k103 : (Int32.toInt z81) = 0 := (fa_eq z81 0).mp c101
                refine r_aload_n 62 5 C dX0_straightCurves_62 rfl ?_
                refine r_get 63 C dX0_straightCurves_63 (k := 0) 0 rfl rfl hiX0 (by decide) rfl (mg 1 rfl) (Or.inr (mg 2 rfl)) rfl ?_
                refine r_iload 66 0 C dX0_straightCurves_66 rfl ?_
                refine r_callVl 68 C dX0_straightCurves_68 [] [(h1, .inr (6, [.ref h3, .ref h10, .int x9, .int x10])), (h3, .inl (gJ g, 48, .inr (.inl fm0)))] [(h0, .inr (0, [.ref h1, .ref h2, .ref h6, .int x1, .int x2, .long y0, .int x3, .int x4, .int x5, .int x6, .ref h7, .ref h8, .ref h9, .int x7, .int x8])), (h2, .inr (5, [.ref h4, .ref h5, .int z83, .int x12, .long z84, .long z85, .int z86])), (h4, .inl (gB g, 400, .inl f87)), (h5, .inl (gJ g, 2400, .inr (.inl f88)))] (fun sz => c232_X7_get l g h1 h3 z80 h10 x9 x10 fm0 i_x9 i_x10 sz) gX0_straightCurves_X7_get rfl ⟨rfl, rfl⟩ 1 (by decide) ⟨Nat.le_of_ble_eq_true rfl, Nat.le_of_ble_eq_true rfl⟩ 4 rfl rfl [4, 5] [0, 1, 2, 3] rfl rfl (by decide) (by decide) (by decide) rfl rfl (Nat.le_of_ble_eq_true rfl) ⟨Nat.le_of_ble_eq_true rfl, Nat.le_of_ble_eq_true rfl⟩ (fun r104 _ w105 => ?_)
                refine r_ws [(h0, .inr (0, [.ref h1, .ref h2, .ref h6, .int x1, .int x2, .long y0, .int x3, .int x4, .int x5, .int x6, .ref h7, .ref h8, .ref h9, .int x7, .int x8])), (h2, .inr (5, [.ref h4, .ref h5, .int z83, .int x12, .long z84, .long z85, .int z86])), (h4, .inl (gB g, 400, .inl f87)), (h5, .inl (gJ g, 2400, .inr (.inl f88))), (h1, .inr (6, [.ref h3, .ref h10, .int x9, .int x10])), (h3, .inl (gJ g, 48, .inr (.inl fm0)))] rfl ?_
                have gr104 := fb_rngL r104
                refine r_lstore 71 C dX0_straightCurves_71 [(8, .long r104), (7, .int z80), (6, .int z81), (4, .long z82), (3, .int z4), (2, .int x9), (0, .ref h0), (1, .int x0)] (by decide) rfl ?_
                refine r_aload_n 73 6 C dX0_straightCurves_73 rfl ?_
                refine r_get 74 C dX0_straightCurves_74 (k := 0) 0 rfl rfl hiX0 (by decide) rfl (mg 1 rfl) (Or.inr (mg 2 rfl)) rfl ?_
                refine r_iload 77 1 C dX0_straightCurves_77 rfl ?_
                refine r_iconst 79 1 C dX0_straightCurves_79 (by decide) ?_
                obtain ⟨z106, ez106⟩ : ∃ z_9, z80 + 1 = z_9 := ⟨_, rfl⟩
                have tz106 : (Int32.toInt z106) = (Int32.toInt z80) + 1 := by rw [← ez106]; exact fb_addIv (a := 1) (b := 48) (c := 1) (d := 1) ⟨i93a, i93b⟩ ⟨by decide, by decide⟩ (by decide) (by decide)
                refine r_iadd 80 z106 C dX0_straightCurves_80 ez106 ?_
                refine r_callVl 81 C dX0_straightCurves_81 [] [(h1, .inr (6, [.ref h3, .ref h10, .int x9, .int x10])), (h3, .inl (gJ g, 48, .inr (.inl fm0)))] [(h0, .inr (0, [.ref h1, .ref h2, .ref h6, .int x1, .int x2, .long y0, .int x3, .int x4, .int x5, .int x6, .ref h7, .ref h8, .ref h9, .int x7, .int x8])), (h2, .inr (5, [.ref h4, .ref h5, .int z83, .int x12, .long z84, .long z85, .int z86])), (h4, .inl (gB g, 400, .inl f87)), (h5, .inl (gJ g, 2400, .inr (.inl f88)))] (fun sz => c232_X7_get l g h1 h3 z106 h10 x9 x10 fm0 i_x9 i_x10 sz) gX0_straightCurves_X7_get rfl ⟨rfl, rfl⟩ 1 (by decide) ⟨Nat.le_of_ble_eq_true rfl, Nat.le_of_ble_eq_true rfl⟩ 4 rfl rfl [4, 5] [0, 1, 2, 3] rfl rfl (by decide) (by decide) (by decide) rfl rfl (Nat.le_of_ble_eq_true rfl) ⟨Nat.le_of_ble_eq_true rfl, Nat.le_of_ble_eq_true rfl⟩ (fun r107 _ w108 => ?_)
                refine r_ws [(h0, .inr (0, [.ref h1, .ref h2, .ref h6, .int x1, .int x2, .long y0, .int x3, .int x4, .int x5, .int x6, .ref h7, .ref h8, .ref h9, .int x7, .int x8])), (h2, .inr (5, [.ref h4, .ref h5, .int z83, .int x12, .long z84, .long z85, .int z86])), (h4, .inl (gB g, 400, .inl f87)), (h5, .inl (gJ g, 2400, .inr (.inl f88))), (h1, .inr (6, [.ref h3, .ref h10, .int x9, .int x10])), (h3, .inl (gJ g, 48, .inr (.inl fm0)))] rfl ?_
                have gr107 := fb_rngL r107
                refine r_lstore 84 C dX0_straightCurves_84 [(10, .long r107), (8, .long r104), (7, .int z80), (6, .int z81), (4, .long z82), (3, .int z4), (2, .int x9), (0, .ref h0), (1, .int x0)] (by decide) rfl ?_
                refine r_aload_n 86 7 C dX0_straightCurves_86 rfl ?_
                refine r_get 87 C dX0_straightCurves_87 (k := 0) 0 rfl rfl hiX0 (by decide) rfl (mg 1 rfl) (Or.inr (mg 2 rfl)) rfl ?_
                refine r_iload 90 2 C dX0_straightCurves_90 rfl ?_
                refine r_iconst 92 2 C dX0_straightCurves_92 (by decide) ?_
                obtain ⟨z109, ez109⟩ : ∃ z_9, z80 + 2 = z_9 := ⟨_, rfl⟩
                have tz109 : (Int32.toInt z109) = (Int32.toInt z80) + 2 := by rw [← ez109]; exact fb_addIv (a := 1) (b := 48) (c := 2) (d := 2) ⟨i93a, i93b⟩ ⟨by decide, by decide⟩ (by decide) (by decide)
                refine r_iadd 93 z109 C dX0_straightCurves_93 ez109 ?_
                refine r_callVl 94 C dX0_straightCurves_94 [] [(h1, .inr (6, [.ref h3, .ref h10, .int x9, .int x10])), (h3, .inl (gJ g, 48, .inr (.inl fm0)))] [(h0, .inr (0, [.ref h1, .ref h2, .ref h6, .int x1, .int x2, .long y0, .int x3, .int x4, .int x5, .int x6, .ref h7, .ref h8, .ref h9, .int x7, .int x8])), (h2, .inr (5, [.ref h4, .ref h5, .int z83, .int x12, .long z84, .long z85, .int z86])), (h4, .inl (gB g, 400, .inl f87)), (h5, .inl (gJ g, 2400, .inr (.inl f88)))] (fun sz => c232_X7_get l g h1 h3 z109 h10 x9 x10 fm0 i_x9 i_x10 sz) gX0_straightCurves_X7_get rfl ⟨rfl, rfl⟩ 1 (by decide) ⟨Nat.le_of_ble_eq_true rfl, Nat.le_of_ble_eq_true rfl⟩ 4 rfl rfl [4, 5] [0, 1, 2, 3] rfl rfl (by decide) (by decide) (by decide) rfl rfl (Nat.le_of_ble_eq_true rfl) ⟨Nat.le_of_ble_eq_true rfl, Nat.le_of_ble_eq_true rfl⟩ (fun r110 _ w111 => ?_)
                refine r_ws [(h0, .inr (0, [.ref h1, .ref h2, .ref h6, .int x1, .int x2, .long y0, .int x3, .int x4, .int x5, .int x6, .ref h7, .ref h8, .ref h9, .int x7, .int x8])), (h2, .inr (5, [.ref h4, .ref h5, .int z83, .int x12, .long z84, .long z85, .int z86])), (h4, .inl (gB g, 400, .inl f87)), (h5, .inl (gJ g, 2400, .inr (.inl f88))), (h1, .inr (6, [.ref h3, .ref h10, .int x9, .int x10])), (h3, .inl (gJ g, 48, .inr (.inl fm0)))] rfl ?_
                have gr110 := fb_rngL r110
                refine r_lstore 97 C dX0_straightCurves_97 [(12, .long r110), (10, .long r107), (8, .long r104), (7, .int z80), (6, .int z81), (4, .long z82), (3, .int z4), (2, .int x9), (0, .ref h0), (1, .int x0)] (by decide) rfl ?_
                refine r_aload_n 99 8 C dX0_straightCurves_99 rfl ?_
                refine r_get 100 C dX0_straightCurves_100 (k := 0) 0 rfl rfl hiX0 (by decide) rfl (mg 1 rfl) (Or.inr (mg 2 rfl)) rfl ?_
                refine r_iload 103 3 C dX0_straightCurves_103 rfl ?_
                refine r_iconst 105 3 C dX0_straightCurves_105 (by decide) ?_
                obtain ⟨z112, ez112⟩ : ∃ z_9, z80 + 3 = z_9 := ⟨_, rfl⟩
                have tz112 : (Int32.toInt z112) = (Int32.toInt z80) + 3 := by rw [← ez112]; exact fb_addIv (a := 1) (b := 48) (c := 3) (d := 3) ⟨i93a, i93b⟩ ⟨by decide, by decide⟩ (by decide) (by decide)
                refine r_iadd 106 z112 C dX0_straightCurves_106 ez112 ?_
                refine r_callVl 107 C dX0_straightCurves_107 [] [(h1, .inr (6, [.ref h3, .ref h10, .int x9, .int x10])), (h3, .inl (gJ g, 48, .inr (.inl fm0)))] [(h0, .inr (0, [.ref h1, .ref h2, .ref h6, .int x1, .int x2, .long y0, .int x3, .int x4, .int x5, .int x6, .ref h7, .ref h8, .ref h9, .int x7, .int x8])), (h2, .inr (5, [.ref h4, .ref h5, .int z83, .int x12, .long z84, .long z85, .int z86])), (h4, .inl (gB g, 400, .inl f87)), (h5, .inl (gJ g, 2400, .inr (.inl f88)))] (fun sz => c232_X7_get l g h1 h3 z112 h10 x9 x10 fm0 i_x9 i_x10 sz) gX0_straightCurves_X7_get rfl ⟨rfl, rfl⟩ 1 (by decide) ⟨Nat.le_of_ble_eq_true rfl, Nat.le_of_ble_eq_true rfl⟩ 4 rfl rfl [4, 5] [0, 1, 2, 3] rfl rfl (by decide) (by decide) (by decide) rfl rfl (Nat.le_of_ble_eq_true rfl) ⟨Nat.le_of_ble_eq_true rfl, Nat.le_of_ble_eq_true rfl⟩ (fun r113 _ w114 => ?_)
                refine r_ws [(h0, .inr (0, [.ref h1, .ref h2, .ref h6, .int x1, .int x2, .long y0, .int x3, .int x4, .int x5, .int x6, .ref h7, .ref h8, .ref h9, .int x7, .int x8])), (h2, .inr (5, [.ref h4, .ref h5, .int z83, .int x12, .long z84, .long z85, .int z86])), (h4, .inl (gB g, 400, .inl f87)), (h5, .inl (gJ g, 2400, .inr (.inl f88))), (h1, .inr (6, [.ref h3, .ref h10, .int x9, .int x10])), (h3, .inl (gJ g, 48, .inr (.inl fm0)))] rfl ?_
                have gr113 := fb_rngL r113
                refine r_lstore 110 C dX0_straightCurves_110 [(14, .long r113), (12, .long r110), (10, .long r107), (8, .long r104), (7, .int z80), (6, .int z81), (4, .long z82), (3, .int z4), (2, .int x9), (0, .ref h0), (1, .int x0)] (by decide) rfl ?_
                refine r_iload_n 112 10 C dX0_straightCurves_112 rfl ?_
                refine r_if_eq 113 137 C dX0_straightCurves_113 (by decide) (fun c115 => ?_) (fun c115 => ?_)
                · skip
                  have k116 : (Int32.toInt x0) = 0 := (fa_eq x0 0).mp c115
                  refine r_aload_n 137 9 C dX0_straightCurves_137 rfl ?_
                  refine r_get 138 C dX0_straightCurves_138 (k := 1) 0 rfl rfl hiX0 (by decide) rfl (mg 3 rfl) (Or.inr (mg 4 rfl)) rfl ?_
                  refine r_lload 141 6 C dX0_straightCurves_141 rfl ?_
                  refine r_lload 143 3 C dX0_straightCurves_143 rfl ?_
                  refine r_lload 145 2 C dX0_straightCurves_145 rfl ?_
                  refine r_lload 147 1 C dX0_straightCurves_147 rfl ?_
                  refine r_lconst 149 0 C dX0_straightCurves_149 (by decide) ?_
                  refine r_lload 150 0 C dX0_straightCurves_150 rfl ?_
                  refine r_callVi 152 C dX0_straightCurves_152 [] [(h2, .inr (5, [.ref h4, .ref h5, .int z83, .int x12, .long z84, .long z85, .int z86])), (h4, .inl (gB g, 400, .inl f87)), (h5, .inl (gJ g, 2400, .inr (.inl f88)))] [(h0, .inr (0, [.ref h1, .ref h2, .ref h6, .int x1, .int x2, .long y0, .int x3, .int x4, .int x5, .int x6, .ref h7, .ref h8, .ref h9, .int x7, .int x8])), (h1, .inr (6, [.ref h3, .ref h10, .int x9, .int x10])), (h3, .inl (gJ g, 48, .inr (.inl fm0)))] (fun sz => c246_X6_curveBy l g h2 h4 h5 z82 r104 r107 r110 0 r113 z83 x12 z84 z85 z86 f87 f88 ⟨i95a, i95b⟩ i_x12 ⟨i96a, i96b⟩ sz) gX0_straightCurves_X6_curveBy rfl ⟨rfl, rfl⟩ 6 (by decide) ⟨Nat.le_of_ble_eq_true rfl, Nat.le_of_ble_eq_true rfl⟩ 1 rfl rfl [1, 2, 3] [0, 4, 5] rfl rfl (by decide) (by decide) (by decide) rfl rfl (Nat.le_of_ble_eq_true rfl) ⟨Nat.le_of_ble_eq_true rfl, Nat.le_of_ble_eq_true rfl⟩ (fun r122 u124 w123 => ?_)
                  obtain ⟨z117, z118, z119, f120, f121⟩ := u124
                  refine r_ws [(h0, .inr (0, [.ref h1, .ref h2, .ref h6, .int x1, .int x2, .long y0, .int x3, .int x4, .int x5, .int x6, .ref h7, .ref h8, .ref h9, .int x7, .int x8])), (h1, .inr (6, [.ref h3, .ref h10, .int x9, .int x10])), (h3, .inl (gJ g, 48, .inr (.inl fm0))), (h2, .inr (5, [.ref h4, .ref h5, .int z117, .int x12, .long z118, .long z119, .int 1])), (h4, .inl (gB g, 400, .inl f120)), (h5, .inl (gJ g, 2400, .inr (.inl f121)))] rfl ?_
                  have gz118 := fb_rngL z118
                  have gz119 := fb_rngL z119
                  have p125 : 0 ≤ (Int32.toInt r122) := w123.1
                  have p126 : (Int32.toInt r122) ≤ 6 := w123.2.1
                  have p127 : 0 ≤ (Int32.toInt z117) := w123.2.2.1
                  have p128 : (Int32.toInt z117) ≤ 400 := w123.2.2.2
                  refine r_istore 155 C dX0_straightCurves_155 [(6, .int r122), (14, .long r113), (12, .long r110), (10, .long r107), (8, .long r104), (7, .int z80), (4, .long z82), (3, .int z4), (2, .int x9), (0, .ref h0), (1, .int x0)] (by decide) rfl ?_
                  refine r_lconst 157 0 C dX0_straightCurves_157 (by decide) ?_
                  refine r_lstore 158 C dX0_straightCurves_158 [(4, .long 0), (6, .int r122), (14, .long r113), (12, .long r110), (10, .long r107), (8, .long r104), (7, .int z80), (3, .int z4), (2, .int x9), (0, .ref h0), (1, .int x0)] (by decide) rfl ?_
                  obtain ⟨z129, ez129⟩ : ∃ z_9, z80 + Int32.ofInt 4 = z_9 := ⟨_, rfl⟩
                  have tz129 : (Int32.toInt z129) = (Int32.toInt z80) + 4 := by rw [← ez129]; exact fb_addIv (a := 1) (b := 48) (c := 4) (d := 4) ⟨i93a, i93b⟩ ⟨by decide, by decide⟩ (by decide) (by decide)
                  refine r_iinc 160 6 z129 C dX0_straightCurves_160 rfl ez129 [(7, .int z129), (4, .long 0), (6, .int r122), (14, .long r113), (12, .long r110), (10, .long r107), (8, .long r104), (3, .int z4), (2, .int x9), (0, .ref h0), (1, .int x0)] (by decide) rfl ?_
                  refine r_goto 163 49 C dX0_straightCurves_163 (by decide) ?_
                  refine r_lv [(7, .int z129), (6, .int r122), (4, .long 0), (3, .int z4), (2, .int x9), (0, .ref h0), (1, .int x0)] [0, 2, 1, 7, 8, 9, 10] rfl ?_
                  refine r_pick [(h0, .inr (0, [.ref h1, .ref h2, .ref h6, .int x1, .int x2, .long y0, .int x3, .int x4, .int x5, .int x6, .ref h7, .ref h8, .ref h9, .int x7, .int x8])), (h2, .inr (5, [.ref h4, .ref h5, .int z117, .int x12, .long z118, .long z119, .int 1])), (h4, .inl (gB g, 400, .inl f120)), (h5, .inl (gJ g, 2400, .inr (.inl f121))), (h1, .inr (6, [.ref h3, .ref h10, .int x9, .int x10])), (h3, .inl (gJ g, 48, .inr (.inl fm0)))] [0, 3, 4, 5, 1, 2] (by decide) rfl ?_
                  exact ih91 z129 r122 0 z117 z118 z119 1 f120 f121 ⟨by omega, by omega⟩ ⟨p125, p126⟩ ⟨p127, p128⟩ (by decide) (by omega)
                · skip
                  have k130 : ¬ ((Int32.toInt x0) = 0) := fun h_9 => c115 ((fa_eq x0 0).mpr h_9)
                  refine r_aload_n 116 9 C dX0_straightCurves_116 rfl ?_
                  refine r_get 117 C dX0_straightCurves_117 (k := 1) 0 rfl rfl hiX0 (by decide) rfl (mg 3 rfl) (Or.inr (mg 4 rfl)) rfl ?_
                  refine r_lload 120 3 C dX0_straightCurves_120 rfl ?_
                  refine r_lload 122 6 C dX0_straightCurves_122 rfl ?_
                  refine r_lload 124 2 C dX0_straightCurves_124 rfl ?_
                  refine r_lload 126 1 C dX0_straightCurves_126 rfl ?_
                  refine r_lload 128 0 C dX0_straightCurves_128 rfl ?_
                  refine r_lconst 130 0 C dX0_straightCurves_130 (by decide) ?_
                  refine r_callVi 131 C dX0_straightCurves_131 [] [(h2, .inr (5, [.ref h4, .ref h5, .int z83, .int x12, .long z84, .long z85, .int z86])), (h4, .inl (gB g, 400, .inl f87)), (h5, .inl (gJ g, 2400, .inr (.inl f88)))] [(h0, .inr (0, [.ref h1, .ref h2, .ref h6, .int x1, .int x2, .long y0, .int x3, .int x4, .int x5, .int x6, .ref h7, .ref h8, .ref h9, .int x7, .int x8])), (h1, .inr (6, [.ref h3, .ref h10, .int x9, .int x10])), (h3, .inl (gJ g, 48, .inr (.inl fm0)))] (fun sz => c246_X6_curveBy l g h2 h4 h5 r104 z82 r107 r110 r113 0 z83 x12 z84 z85 z86 f87 f88 ⟨i95a, i95b⟩ i_x12 ⟨i96a, i96b⟩ sz) gX0_straightCurves_X6_curveBy rfl ⟨rfl, rfl⟩ 6 (by decide) ⟨Nat.le_of_ble_eq_true rfl, Nat.le_of_ble_eq_true rfl⟩ 1 rfl rfl [1, 2, 3] [0, 4, 5] rfl rfl (by decide) (by decide) (by decide) rfl rfl (Nat.le_of_ble_eq_true rfl) ⟨Nat.le_of_ble_eq_true rfl, Nat.le_of_ble_eq_true rfl⟩ (fun r136 u138 w137 => ?_)
                  obtain ⟨z131, z132, z133, f134, f135⟩ := u138
                  refine r_ws [(h0, .inr (0, [.ref h1, .ref h2, .ref h6, .int x1, .int x2, .long y0, .int x3, .int x4, .int x5, .int x6, .ref h7, .ref h8, .ref h9, .int x7, .int x8])), (h1, .inr (6, [.ref h3, .ref h10, .int x9, .int x10])), (h3, .inl (gJ g, 48, .inr (.inl fm0))), (h2, .inr (5, [.ref h4, .ref h5, .int z131, .int x12, .long z132, .long z133, .int 1])), (h4, .inl (gB g, 400, .inl f134)), (h5, .inl (gJ g, 2400, .inr (.inl f135)))] rfl ?_
                  have gz132 := fb_rngL z132
                  have gz133 := fb_rngL z133
                  have p139 : 0 ≤ (Int32.toInt r136) := w137.1
                  have p140 : (Int32.toInt r136) ≤ 6 := w137.2.1
                  have p141 : 0 ≤ (Int32.toInt z131) := w137.2.2.1
                  have p142 : (Int32.toInt z131) ≤ 400 := w137.2.2.2
                  refine r_goto 134 155 C dX0_straightCurves_134 (by decide) ?_
                  refine r_istore 155 C dX0_straightCurves_155 [(6, .int r136), (14, .long r113), (12, .long r110), (10, .long r107), (8, .long r104), (7, .int z80), (4, .long z82), (3, .int z4), (2, .int x9), (0, .ref h0), (1, .int x0)] (by decide) rfl ?_
                  refine r_lconst 157 0 C dX0_straightCurves_157 (by decide) ?_
                  refine r_lstore 158 C dX0_straightCurves_158 [(4, .long 0), (6, .int r136), (14, .long r113), (12, .long r110), (10, .long r107), (8, .long r104), (7, .int z80), (3, .int z4), (2, .int x9), (0, .ref h0), (1, .int x0)] (by decide) rfl ?_
                  obtain ⟨z143, ez143⟩ : ∃ z_9, z80 + Int32.ofInt 4 = z_9 := ⟨_, rfl⟩
                  have tz143 : (Int32.toInt z143) = (Int32.toInt z80) + 4 := by rw [← ez143]; exact fb_addIv (a := 1) (b := 48) (c := 4) (d := 4) ⟨i93a, i93b⟩ ⟨by decide, by decide⟩ (by decide) (by decide)
                  refine r_iinc 160 6 z143 C dX0_straightCurves_160 rfl ez143 [(7, .int z143), (4, .long 0), (6, .int r136), (14, .long r113), (12, .long r110), (10, .long r107), (8, .long r104), (3, .int z4), (2, .int x9), (0, .ref h0), (1, .int x0)] (by decide) rfl ?_
                  refine r_goto 163 49 C dX0_straightCurves_163 (by decide) ?_
                  refine r_lv [(7, .int z143), (6, .int r136), (4, .long 0), (3, .int z4), (2, .int x9), (0, .ref h0), (1, .int x0)] [0, 2, 1, 7, 8, 9, 10] rfl ?_
                  refine r_pick [(h0, .inr (0, [.ref h1, .ref h2, .ref h6, .int x1, .int x2, .long y0, .int x3, .int x4, .int x5, .int x6, .ref h7, .ref h8, .ref h9, .int x7, .int x8])), (h2, .inr (5, [.ref h4, .ref h5, .int z131, .int x12, .long z132, .long z133, .int 1])), (h4, .inl (gB g, 400, .inl f134)), (h5, .inl (gJ g, 2400, .inr (.inl f135))), (h1, .inr (6, [.ref h3, .ref h10, .int x9, .int x10])), (h3, .inl (gJ g, 48, .inr (.inl fm0)))] [0, 3, 4, 5, 1, 2] (by decide) rfl ?_
                  exact ih91 z143 r136 0 z131 z132 z133 1 f134 f135 ⟨by omega, by omega⟩ ⟨p139, p140⟩ ⟨p141, p142⟩ (by decide) (by omega)
        exact lp90 _ z4 0 r78 x11 y1 y2 x13 fn0 fm1 ⟨by omega, by omega⟩ (by decide) i_x11 i_x13 (Nat.lt_succ_self _)
    · skip
      have k144 : ¬ ((Int32.toInt z4) ≤ 1) := fun h_9 => c8 ((fa_le z4 1).mpr h_9)
      refine r_iconst 22 2 C dX0_straightCurves_22 (by decide) ?_
      exact r_iret 23 Rt dX0_straightCurves_23 (x11, y1, y2, x13, fn0, fm1) (show 0 ≤ (Int32.toInt 2) ∧ (Int32.toInt 2) ≤ 6 ∧ 0 ≤ (Int32.toInt x11) ∧ (Int32.toInt x11) ≤ 400 ∧ 0 ≤ (Int32.toInt x13) ∧ (Int32.toInt x13) ≤ 1 from ⟨(by ((repeat' apply And.intro) <;> first | trivial | rfl | assumption | omega | decide | exact Or.inl rfl | exact Or.inr (Or.inl rfl) | exact Or.inr (Or.inr rfl))), (by ((repeat' apply And.intro) <;> first | trivial | rfl | assumption | omega | decide | exact Or.inl rfl | exact Or.inr (Or.inl rfl) | exact Or.inr (Or.inr rfl))), i_x11.1, i_x11.2, i_x13.1, i_x13.2⟩) [0, 5, 1, 2, 3, 4] (by decide) rfl (Nat.le_of_ble_eq_true rfl) (Nat.le_of_ble_eq_true rfl)
