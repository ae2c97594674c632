set_option maxHeartbeats 4000000 in
set_option maxRecDepth 100000 in
theorem c114_X12_curve (l : Launch) (g : GD) (h0 : Nat) (h1 : Nat) (h2 : Nat) (y0 : Int64) (y1 : Int64) (y2 : Int64) (y3 : Int64) (y4 : Int64) (y5 : Int64) (h3 : Nat) (x0 : Int32) (h4 : Nat) (x1 : Int32) (x2 : Int32) (x3 : Int32) (h5 : Nat) (h6 : Nat) (h7 : Nat) (h8 : Nat) (x4 : Int32) (x5 : Int32) (x6 : Int32) (h9 : Nat) (h10 : Nat) (h11 : Nat) (h12 : Nat) (x7 : Int32) (x8 : Int32) (x9 : Int32) (y6 : Int64) (x10 : Int32) (x11 : Int32) (y7 : Int64) (y8 : Int64) (h13 : Nat) (h14 : Nat) (h15 : Nat) (h16 : Nat) (y9 : Int64) (x12 : Int32) (h17 : Nat) (x13 : Int32) (x14 : Int32) (x15 : Int32) (x16 : Int32) (h18 : Nat) (h19 : Nat) (h20 : Nat) (h21 : Nat) (h22 : Nat) (h23 : Nat) (h24 : Nat) (h25 : Nat) (h26 : Nat) (h27 : Nat) (h28 : Nat) (x17 : Int32) (x18 : Int32) (x19 : Int32) (x20 : Int32) (x21 : Int32) (x22 : Int32) (x23 : Int32) (y10 : Int64) (x24 : Int32) (y11 : Int64) (y12 : Int64) (x25 : Int32) (h29 : Nat) (x26 : Int32) (h30 : Nat) (h31 : Nat) (h32 : Nat) (h33 : Nat) (x27 : Int32) (x28 : Int32) (x29 : Int32) (x30 : Int32) (h34 : Nat) (h35 : Nat) (x31 : Int32) (x32 : Int32) (h36 : Nat) (fn0 : Nat → Int32) (fm0 : Nat → Int64) (i_x0 : (0 ≤ (Int32.toInt x0) ∧ (Int32.toInt x0) ≤ 1500)) (i_x1 : (0 ≤ (Int32.toInt x1) ∧ (Int32.toInt x1) ≤ 1508)) (i_x3 : (0 ≤ (Int32.toInt x3) ∧ (Int32.toInt x3) ≤ 0)) (i_x6 : (0 ≤ (Int32.toInt x6) ∧ (Int32.toInt x6) ≤ 3)) (i_x7 : (0 ≤ (Int32.toInt x7) ∧ (Int32.toInt x7) ≤ 4500)) (i_x10 : (0 ≤ (Int32.toInt x10) ∧ (Int32.toInt x10) ≤ 65535)) (i_x11 : (0 ≤ (Int32.toInt x11) ∧ (Int32.toInt x11) ≤ 255)) (i_y7 : (0 ≤ (Int64.toInt y7) ∧ (Int64.toInt y7) ≤ 1500)) (i_y8 : (0 ≤ (Int64.toInt y8) ∧ (Int64.toInt y8) ≤ 1500)) (i_x12 : (0 ≤ (Int32.toInt x12) ∧ (Int32.toInt x12) ≤ 1)) (i_x13 : (0 ≤ (Int32.toInt x13) ∧ (Int32.toInt x13) ≤ 1500)) (i_x14 : (0 ≤ (Int32.toInt x14) ∧ (Int32.toInt x14) ≤ 1501)) (i_x15 : (0 ≤ (Int32.toInt x15) ∧ (Int32.toInt x15) ≤ 1500)) (i_x16 : (0 ≤ (Int32.toInt x16) ∧ (Int32.toInt x16) ≤ 1500)) (i_x18 : (0 ≤ (Int32.toInt x18) ∧ (Int32.toInt x18) ≤ 1)) (i_x19 : (0 ≤ (Int32.toInt x19) ∧ (Int32.toInt x19) ≤ 9)) (i_x20 : (0 ≤ (Int32.toInt x20) ∧ (Int32.toInt x20) ≤ 400)) (i_x21 : (0 ≤ (Int32.toInt x21) ∧ (Int32.toInt x21) ≤ 400)) (i_x22 : (0 ≤ (Int32.toInt x22) ∧ (Int32.toInt x22) ≤ 3000)) (i_x24 : (0 ≤ (Int32.toInt x24) ∧ (Int32.toInt x24) ≤ 1)) (i_x25 : (0 ≤ (Int32.toInt x25) ∧ (Int32.toInt x25) ≤ 1)) (i_x26 : (0 ≤ (Int32.toInt x26) ∧ (Int32.toInt x26) ≤ 48)) (i_x27 : (0 ≤ (Int32.toInt x27) ∧ (Int32.toInt x27) ≤ 10)) (i_x28 : (0 ≤ (Int32.toInt x28) ∧ (Int32.toInt x28) ≤ 1)) (i_x29 : (0 ≤ (Int32.toInt x29) ∧ (Int32.toInt x29) ≤ 1)) (i_x30 : (0 ≤ (Int32.toInt x30) ∧ (Int32.toInt x30) ≤ 7)) (i_x31 : (0 ≤ (Int32.toInt x31) ∧ (Int32.toInt x31) ≤ 24)) (i_x32 : (0 ≤ (Int32.toInt x32) ∧ (Int32.toInt x32) ≤ 1)) (pre0 : ((Int32.toInt x20) ≤ (Int32.toInt x21))) (sz : Nat) : Met l yX12_curve wsX12_curve ({ frames := 2, cells := 0, slots := 0, locals := 42 }) (va_Pc [.ref h0, .long y0, .long y1, .long y2, .long y3, .long y4, .long y5] (PW g [(h0, .inr (11, [.ref h3, .int x0, .ref h4, .int x1, .int x2, .int x3, .ref h5, .ref h6, .ref h7, .ref h8, .int x4, .int x5, .int x6, .ref h9, .ref h10, .ref h11, .ref h12, .int x7, .int x8, .int x9, .long y6, .int x10, .int x11, .long y7, .long y8, .ref h13, .ref h14, .ref h15, .ref h16, .long y9, .int x12, .ref h17, .int x13, .int x14, .int x15, .int x16, .ref h18, .ref h19, .ref h20, .ref h21, .ref h22, .ref h23, .ref h24, .ref h25, .ref h26, .ref h27, .ref h28, .int x17, .int x18, .int x19, .int x20, .int x21, .int x22, .int x23, .long y10, .int x24, .ref h1, .ref h2, .long y11, .long y12, .int x25, .ref h29, .int x26, .ref h30, .ref h31, .ref h32, .ref h33, .int x27, .int x28, .int x29, .int x30, .ref h34, .ref h35, .int x31, .int x32, .ref h36])), (h1, .inl (gI g, 400, .inl fn0)), (h2, .inl (gJ g, 2400, .inr (.inl fm0)))] sz)) (va_Qi (fun (r : Int32) (u : (Int32) × (Int32) × (Int64) × (Int64) × (Int32) × (Nat → Int32) × (Nat → Int64)) => 0 ≤ (Int32.toInt r) ∧ (Int32.toInt r) ≤ 1 ∧ 0 ≤ (Int32.toInt (u.1)) ∧ (Int32.toInt (u.1)) ≤ 9 ∧ 0 ≤ (Int32.toInt (u.2.1)) ∧ (Int32.toInt (u.2.1)) ≤ 400 ∧ 0 ≤ (Int32.toInt (u.2.2.2.2.1)) ∧ (Int32.toInt (u.2.2.2.2.1)) ≤ 1 ∧ ((Int32.toInt (u.2.1)) ≤ (Int32.toInt x21)) ∧ (((Int32.toInt r) = 0 ∧ 1 ≤ (Int32.toInt (u.1))) ∨ ((Int32.toInt r) = 1 ∧ (Int32.toInt (u.1)) = (Int32.toInt x19)))) (BW g (va_A [(h0, .inr (11, [.ref h3, .int x0, .ref h4, .int x1, .int x2, .int x3, .ref h5, .ref h6, .ref h7, .ref h8, .int x4, .int x5, .int x6, .ref h9, .ref h10, .ref h11, .ref h12, .int x7, .int x8, .int x9, .long y6, .int x10, .int x11, .long y7, .long y8, .ref h13, .ref h14, .ref h15, .ref h16, .long y9, .int x12, .ref h17, .int x13, .int x14, .int x15, .int x16, .ref h18, .ref h19, .ref h20, .ref h21, .ref h22, .ref h23, .ref h24, .ref h25, .ref h26, .ref h27, .ref h28, .int x17, .int x18, .int x19, .int x20, .int x21, .int x22, .int x23, .long y10, .int x24, .ref h1, .ref h2, .long y11, .long y12, .int x25, .ref h29, .int x26, .ref h30, .ref h31, .ref h32, .ref h33, .int x27, .int x28, .int x29, .int x30, .ref h34, .ref h35, .int x31, .int x32, .ref h36])), (h1, .inl (gI g, 400, .inl fn0)), (h2, .inl (gJ g, 2400, .inr (.inl fm0)))] sz) (fun u : (Int32) × (Int32) × (Int64) × (Int64) × (Int32) × (Nat → Int32) × (Nat → Int64) => [(h0, .inr (11, [.ref h3, .int x0, .ref h4, .int x1, .int x2, .int x3, .ref h5, .ref h6, .ref h7, .ref h8, .int x4, .int x5, .int x6, .ref h9, .ref h10, .ref h11, .ref h12, .int x7, .int x8, .int x9, .long y6, .int x10, .int x11, .long y7, .long y8, .ref h13, .ref h14, .ref h15, .ref h16, .long y9, .int x12, .ref h17, .int x13, .int x14, .int x15, .int x16, .ref h18, .ref h19, .ref h20, .ref h21, .ref h22, .ref h23, .ref h24, .ref h25, .ref h26, .ref h27, .ref h28, .int x17, .int x18, .int u.1, .int u.2.1, .int x21, .int x22, .int x23, .long y10, .int x24, .ref h1, .ref h2, .long u.2.2.1, .long u.2.2.2.1, .int u.2.2.2.2.1, .ref h29, .int x26, .ref h30, .ref h31, .ref h32, .ref h33, .int x27, .int x28, .int x29, .int x30, .ref h34, .ref h35, .int x31, .int x32, .ref h36])), (h1, .inl (gI g, 400, .inl u.2.2.2.2.2.1)), (h2, .inl (gJ g, 2400, .inr (.inl u.2.2.2.2.2.2)))])) (va_A [(h0, .inr (11, [.ref h3, .int x0, .ref h4, .int x1, .int x2, .int x3, .ref h5, .ref h6, .ref h7, .ref h8, .int x4, .int x5, .int x6, .ref h9, .ref h10, .ref h11, .ref h12, .int x7, .int x8, .int x9, .long y6, .int x10, .int x11, .long y7, .long y8, .ref h13, .ref h14, .ref h15, .ref h16, .long y9, .int x12, .ref h17, .int x13, .int x14, .int x15, .int x16, .ref h18, .ref h19, .ref h20, .ref h21, .ref h22, .ref h23, .ref h24, .ref h25, .ref h26, .ref h27, .ref h28, .int x17, .int x18, .int x19, .int x20, .int x21, .int x22, .int x23, .long y10, .int x24, .ref h1, .ref h2, .long y11, .long y12, .int x25, .ref h29, .int x26, .ref h30, .ref h31, .ref h32, .ref h33, .int x27, .int x28, .int x29, .int x30, .ref h34, .ref h35, .int x31, .int x32, .ref h36])), (h1, .inl (gI g, 400, .inl fn0)), (h2, .inl (gJ g, 2400, .inr (.inl fm0)))] sz)) 0 0 (va_A [(h0, .inr (11, [.ref h3, .int x0, .ref h4, .int x1, .int x2, .int x3, .ref h5, .ref h6, .ref h7, .ref h8, .int x4, .int x5, .int x6, .ref h9, .ref h10, .ref h11, .ref h12, .int x7, .int x8, .int x9, .long y6, .int x10, .int x11, .long y7, .long y8, .ref h13, .ref h14, .ref h15, .ref h16, .long y9, .int x12, .ref h17, .int x13, .int x14, .int x15, .int x16, .ref h18, .ref h19, .ref h20, .ref h21, .ref h22, .ref h23, .ref h24, .ref h25, .ref h26, .ref h27, .ref h28, .int x17, .int x18, .int x19, .int x20, .int x21, .int x22, .int x23, .long y10, .int x24, .ref h1, .ref h2, .long y11, .long y12, .int x25, .ref h29, .int x26, .ref h30, .ref h31, .ref h32, .ref h33, .int x27, .int x28, .int x29, .int x30, .ref h34, .ref h35, .int x31, .int x32, .ref h36])), (h1, .inl (gI g, 400, .inl fn0)), (h2, .inl (gJ g, 2400, .inr (.inl fm0)))] sz) := by
  refine met_z RX12 (by decide) rfl rfl (Nat.le_of_ble_eq_true rfl) [(0, .ref h0), (1, .long y0), (3, .long y1), (5, .long y2), (7, .long y3), (9, .long y4), (11, .long y5)] rfl ?_
  intro p e s m args below meth c A Q C hnm Rt
  have hiX12 : ∀ w ∈ wsX120, w ∈ wsX12_curve := fun w h => List.mem_cons_of_mem _ (List.mem_append_right _ (h))
  refine r_aload_n 0 0 C dX12_curve_0 rfl ?_
  refine r_iconst 1 2 C dX12_curve_1 (by decide) ?_
  refine r_callVi 2 C dX12_curve_2 [] [(h0, .inr (11, [.ref h3, .int x0, .ref h4, .int x1, .int x2, .int x3, .ref h5, .ref h6, .ref h7, .ref h8, .int x4, .int x5, .int x6, .ref h9, .ref h10, .ref h11, .ref h12, .int x7, .int x8, .int x9, .long y6, .int x10, .int x11, .long y7, .long y8, .ref h13, .ref h14, .ref h15, .ref h16, .long y9, .int x12, .ref h17, .int x13, .int x14, .int x15, .int x16, .ref h18, .ref h19, .ref h20, .ref h21, .ref h22, .ref h23, .ref h24, .ref h25, .ref h26, .ref h27, .ref h28, .int x17, .int x18, .int x19, .int x20, .int x21, .int x22, .int x23, .long y10, .int x24, .ref h1, .ref h2, .long y11, .long y12, .int x25, .ref h29, .int x26, .ref h30, .ref h31, .ref h32, .ref h33, .int x27, .int x28, .int x29, .int x30, .ref h34, .ref h35, .int x31, .int x32, .ref h36])), (h1, .inl (gI g, 400, .inl fn0))] [(h2, .inl (gJ g, 2400, .inr (.inl fm0)))] (fun sz => c71_X12_adds l g h0 h1 2 h3 x0 h4 x1 x2 x3 h5 h6 h7 h8 x4 x5 x6 h9 h10 h11 h12 x7 x8 x9 y6 x10 x11 y7 y8 h13 h14 h15 h16 y9 x12 h17 x13 x14 x15 x16 h18 h19 h20 h21 h22 h23 h24 h25 h26 h27 h28 x17 x18 x19 x20 x21 x22 x23 y10 x24 h2 y11 y12 x25 h29 x26 h30 h31 h32 h33 x27 x28 x29 x30 h34 h35 x31 x32 h36 fn0 i_x0 i_x1 i_x3 i_x6 i_x7 i_x10 i_x11 i_y7 i_y8 i_x12 i_x13 i_x14 i_x15 i_x16 i_x18 i_x19 i_x20 i_x21 i_x22 i_x24 i_x25 i_x26 i_x27 i_x28 i_x29 i_x30 i_x31 i_x32 (by show ((Int32.toInt x20) ≤ (Int32.toInt x21)); first | assumption | omega) sz) gX12_curve_X12_adds rfl ⟨rfl, rfl⟩ 1 (by decide) ⟨Nat.le_of_ble_eq_true rfl, Nat.le_of_ble_eq_true rfl⟩ 0 rfl rfl [0, 1] [2] rfl rfl (by decide) (by decide) (by decide) rfl rfl (Nat.le_of_ble_eq_true rfl) ⟨Nat.le_of_ble_eq_true rfl, Nat.le_of_ble_eq_true rfl⟩ (fun r4 u6 w5 => ?_)
  obtain ⟨z1, z2, f3⟩ := u6
  refine r_ws [(h2, .inl (gJ g, 2400, .inr (.inl fm0))), (h0, .inr (11, [.ref h3, .int x0, .ref h4, .int x1, .int x2, .int x3, .ref h5, .ref h6, .ref h7, .ref h8, .int x4, .int x5, .int x6, .ref h9, .ref h10, .ref h11, .ref h12, .int x7, .int x8, .int x9, .long y6, .int x10, .int x11, .long y7, .long y8, .ref h13, .ref h14, .ref h15, .ref h16, .long y9, .int x12, .ref h17, .int x13, .int x14, .int x15, .int x16, .ref h18, .ref h19, .ref h20, .ref h21, .ref h22, .ref h23, .ref h24, .ref h25, .ref h26, .ref h27, .ref h28, .int x17, .int x18, .int z1, .int z2, .int x21, .int x22, .int x23, .long y10, .int x24, .ref h1, .ref h2, .long y11, .long y12, .int x25, .ref h29, .int x26, .ref h30, .ref h31, .ref h32, .ref h33, .int x27, .int x28, .int x29, .int x30, .ref h34, .ref h35, .int x31, .int x32, .ref h36])), (h1, .inl (gI g, 400, .inl f3))] rfl ?_
  have p7 : 0 ≤ (Int32.toInt r4) := w5.1
  have p8 : (Int32.toInt r4) ≤ 1 := w5.2.1
  have p9 : 0 ≤ (Int32.toInt z1) := w5.2.2.1
  have p10 : (Int32.toInt z1) ≤ 9 := w5.2.2.2.1
  have p11 : 0 ≤ (Int32.toInt z2) := w5.2.2.2.2.1
  have p12 : (Int32.toInt z2) ≤ 400 := w5.2.2.2.2.2.1
  have p13 : ((Int32.toInt z2) ≤ (Int32.toInt x21)) := w5.2.2.2.2.2.2.1
  have p14 : (((Int32.toInt r4) = 0 ∧ 1 ≤ (Int32.toInt z1)) ∨ ((Int32.toInt r4) = 1 ∧ (Int32.toInt z1) = (Int32.toInt x19) ∧ (Int32.toInt z2) = (Int32.toInt x20) + 1)) := w5.2.2.2.2.2.2.2
  rcases p14 with ⟨k15, k16⟩ | p14
  · skip
    refine r_if_ne_f 5 10 C dX12_curve_5 (by decide) ((fa_eq r4 0).mpr (by show (Int32.toInt r4) = 0; omega)) ?_
    refine r_iconst 8 0 C dX12_curve_8 (by decide) ?_
    exact r_zret 9 Rt dX12_curve_9 (by decide) (z1, z2, y11, y12, x25, f3, fm0) (show 0 ≤ (Int32.toInt 0) ∧ (Int32.toInt 0) ≤ 1 ∧ 0 ≤ (Int32.toInt z1) ∧ (Int32.toInt z1) ≤ 9 ∧ 0 ≤ (Int32.toInt z2) ∧ (Int32.toInt z2) ≤ 400 ∧ 0 ≤ (Int32.toInt x25) ∧ (Int32.toInt x25) ≤ 1 ∧ ((Int32.toInt z2) ≤ (Int32.toInt x21)) ∧ ((0 = 0 ∧ 1 ≤ (Int32.toInt z1)) ∨ (0 = 1 ∧ (Int32.toInt z1) = (Int32.toInt x19))) from ⟨(by decide), (by decide), (show _ ∧ _ from ⟨p9, p10⟩).1, (show _ ∧ _ from ⟨p9, p10⟩).2, (show _ ∧ _ from ⟨p11, p12⟩).1, (show _ ∧ _ from ⟨p11, p12⟩).2, i_x25.1, i_x25.2, (by first | omega | ((repeat' apply And.intro) <;> first | trivial | rfl | assumption | omega | decide | exact Or.inl rfl | exact Or.inr (Or.inl rfl) | exact Or.inr (Or.inr rfl) | exact Or.inr (Or.inr (by assumption)))), (by first | omega | ((repeat' apply And.intro) <;> first | trivial | rfl | assumption | omega | decide | exact Or.inl rfl | exact Or.inr (Or.inl rfl) | exact Or.inr (Or.inr rfl) | exact Or.inr (Or.inr (by assumption))))⟩) [1, 2, 0] (by decide) rfl (Nat.le_of_ble_eq_true rfl) (Nat.le_of_ble_eq_true rfl)
  obtain ⟨k17, k18, k19⟩ := p14
  refine r_if_ne_t 5 10 C dX12_curve_5 (by decide) (fun h_9 => by have h_8 : (Int32.toInt r4) = 0 := (fa_eq r4 0).mp h_9; omega) ?_
  refine r_aload_n 10 0 C dX12_curve_10 rfl ?_
  refine r_iconst 11 1 C dX12_curve_11 (by decide) ?_
  refine r_put 12 C dX12_curve_12 (k := 60) 1 rfl rfl hiX12 tyX12 tyX12_ok nmX12 (by decide) rfl (mg 1 rfl) (Or.inl rfl) rfl rfl rfl rfl (Nat.le_of_ble_eq_true rfl) [(h2, .inl (gJ g, 2400, .inr (.inl fm0))), (h0, .inr (11, [.ref h3, .int x0, .ref h4, .int x1, .int x2, .int x3, .ref h5, .ref h6, .ref h7, .ref h8, .int x4, .int x5, .int x6, .ref h9, .ref h10, .ref h11, .ref h12, .int x7, .int x8, .int x9, .long y6, .int x10, .int x11, .long y7, .long y8, .ref h13, .ref h14, .ref h15, .ref h16, .long y9, .int x12, .ref h17, .int x13, .int x14, .int x15, .int x16, .ref h18, .ref h19, .ref h20, .ref h21, .ref h22, .ref h23, .ref h24, .ref h25, .ref h26, .ref h27, .ref h28, .int x17, .int x18, .int z1, .int z2, .int x21, .int x22, .int x23, .long y10, .int x24, .ref h1, .ref h2, .long y11, .long y12, .int 1, .ref h29, .int x26, .ref h30, .ref h31, .ref h32, .ref h33, .int x27, .int x28, .int x29, .int x30, .ref h34, .ref h35, .int x31, .int x32, .ref h36])), (h1, .inl (gI g, 400, .inl f3))] rfl ?_
  refine r_aload_n 15 0 C dX12_curve_15 rfl ?_
  refine r_dup 16 C dX12_curve_16 rfl ?_
  refine r_get 17 C dX12_curve_17 (k := 58) 1 rfl rfl hiX12 (by decide) rfl (mg 2 rfl) (Or.inl rfl) rfl ?_
  refine r_lload_n 20 1 C dX12_curve_20 rfl ?_
  obtain ⟨z20, ez20⟩ : ∃ z_9, y11 + y0 = z_9 := ⟨_, rfl⟩
  have gz20 := fb_rngL z20
  refine r_ladd 21 z20 C dX12_curve_21 ez20 ?_
  refine r_put 22 C dX12_curve_22 (k := 58) 1 rfl rfl hiX12 tyX12 tyX12_ok nmX12 (by decide) rfl (mg 2 rfl) (Or.inl rfl) rfl rfl rfl rfl (Nat.le_of_ble_eq_true rfl) [(h2, .inl (gJ g, 2400, .inr (.inl fm0))), (h0, .inr (11, [.ref h3, .int x0, .ref h4, .int x1, .int x2, .int x3, .ref h5, .ref h6, .ref h7, .ref h8, .int x4, .int x5, .int x6, .ref h9, .ref h10, .ref h11, .ref h12, .int x7, .int x8, .int x9, .long y6, .int x10, .int x11, .long y7, .long y8, .ref h13, .ref h14, .ref h15, .ref h16, .long y9, .int x12, .ref h17, .int x13, .int x14, .int x15, .int x16, .ref h18, .ref h19, .ref h20, .ref h21, .ref h22, .ref h23, .ref h24, .ref h25, .ref h26, .ref h27, .ref h28, .int x17, .int x18, .int z1, .int z2, .int x21, .int x22, .int x23, .long y10, .int x24, .ref h1, .ref h2, .long z20, .long y12, .int 1, .ref h29, .int x26, .ref h30, .ref h31, .ref h32, .ref h33, .int x27, .int x28, .int x29, .int x30, .ref h34, .ref h35, .int x31, .int x32, .ref h36])), (h1, .inl (gI g, 400, .inl f3))] rfl ?_
  refine r_aload_n 25 0 C dX12_curve_25 rfl ?_
  refine r_dup 26 C dX12_curve_26 rfl ?_
  refine r_get 27 C dX12_curve_27 (k := 59) 1 rfl rfl hiX12 (by decide) rfl (mg 3 rfl) (Or.inl rfl) rfl ?_
  refine r_lload_n 30 2 C dX12_curve_30 rfl ?_
  obtain ⟨z21, ez21⟩ : ∃ z_9, y12 + y1 = z_9 := ⟨_, rfl⟩
  have gz21 := fb_rngL z21
  refine r_ladd 31 z21 C dX12_curve_31 ez21 ?_
  refine r_put 32 C dX12_curve_32 (k := 59) 1 rfl rfl hiX12 tyX12 tyX12_ok nmX12 (by decide) rfl (mg 3 rfl) (Or.inl rfl) rfl rfl rfl rfl (Nat.le_of_ble_eq_true rfl) [(h2, .inl (gJ g, 2400, .inr (.inl fm0))), (h0, .inr (11, [.ref h3, .int x0, .ref h4, .int x1, .int x2, .int x3, .ref h5, .ref h6, .ref h7, .ref h8, .int x4, .int x5, .int x6, .ref h9, .ref h10, .ref h11, .ref h12, .int x7, .int x8, .int x9, .long y6, .int x10, .int x11, .long y7, .long y8, .ref h13, .ref h14, .ref h15, .ref h16, .long y9, .int x12, .ref h17, .int x13, .int x14, .int x15, .int x16, .ref h18, .ref h19, .ref h20, .ref h21, .ref h22, .ref h23, .ref h24, .ref h25, .ref h26, .ref h27, .ref h28, .int x17, .int x18, .int z1, .int z2, .int x21, .int x22, .int x23, .long y10, .int x24, .ref h1, .ref h2, .long z20, .long z21, .int 1, .ref h29, .int x26, .ref h30, .ref h31, .ref h32, .ref h33, .int x27, .int x28, .int x29, .int x30, .ref h34, .ref h35, .int x31, .int x32, .ref h36])), (h1, .inl (gI g, 400, .inl f3))] rfl ?_
  refine r_aload_n 35 0 C dX12_curve_35 rfl ?_
  refine r_iconst 36 0 C dX12_curve_36 (by decide) ?_
  refine r_callVv 37 C dX12_curve_37 [] [(h0, .inr (11, [.ref h3, .int x0, .ref h4, .int x1, .int x2, .int x3, .ref h5, .ref h6, .ref h7, .ref h8, .int x4, .int x5, .int x6, .ref h9, .ref h10, .ref h11, .ref h12, .int x7, .int x8, .int x9, .long y6, .int x10, .int x11, .long y7, .long y8, .ref h13, .ref h14, .ref h15, .ref h16, .long y9, .int x12, .ref h17, .int x13, .int x14, .int x15, .int x16, .ref h18, .ref h19, .ref h20, .ref h21, .ref h22, .ref h23, .ref h24, .ref h25, .ref h26, .ref h27, .ref h28, .int x17, .int x18, .int z1, .int z2, .int x21, .int x22, .int x23, .long y10, .int x24, .ref h1, .ref h2, .long z20, .long z21, .int 1, .ref h29, .int x26, .ref h30, .ref h31, .ref h32, .ref h33, .int x27, .int x28, .int x29, .int x30, .ref h34, .ref h35, .int x31, .int x32, .ref h36])), (h2, .inl (gJ g, 2400, .inr (.inl fm0)))] [(h1, .inl (gI g, 400, .inl f3))] (fun sz => c72_X12_point l g h0 h2 0 h3 x0 h4 x1 x2 x3 h5 h6 h7 h8 x4 x5 x6 h9 h10 h11 h12 x7 x8 x9 y6 x10 x11 y7 y8 h13 h14 h15 h16 y9 x12 h17 x13 x14 x15 x16 h18 h19 h20 h21 h22 h23 h24 h25 h26 h27 h28 x17 x18 z1 z2 x21 x22 x23 y10 x24 h1 z20 z21 1 h29 x26 h30 h31 h32 h33 x27 x28 x29 x30 h34 h35 x31 x32 h36 fm0 (by decide) i_x0 i_x1 i_x3 i_x6 i_x7 i_x10 i_x11 i_y7 i_y8 i_x12 i_x13 i_x14 i_x15 i_x16 i_x18 ⟨p9, p10⟩ ⟨by omega, by omega⟩ i_x21 i_x22 i_x24 (by decide) i_x26 i_x27 i_x28 i_x29 i_x30 i_x31 i_x32 sz) gX12_curve_X12_point rfl ⟨rfl, rfl⟩ 1 (by decide) ⟨Nat.le_of_ble_eq_true rfl, Nat.le_of_ble_eq_true rfl⟩ 1 rfl rfl [1, 0] [2] rfl rfl (by decide) (by decide) (by decide) rfl rfl (Nat.le_of_ble_eq_true rfl) ⟨Nat.le_of_ble_eq_true rfl, Nat.le_of_ble_eq_true rfl⟩ (fun  f22 w23 => ?_)
  refine r_ws [(h1, .inl (gI g, 400, .inl f3)), (h0, .inr (11, [.ref h3, .int x0, .ref h4, .int x1, .int x2, .int x3, .ref h5, .ref h6, .ref h7, .ref h8, .int x4, .int x5, .int x6, .ref h9, .ref h10, .ref h11, .ref h12, .int x7, .int x8, .int x9, .long y6, .int x10, .int x11, .long y7, .long y8, .ref h13, .ref h14, .ref h15, .ref h16, .long y9, .int x12, .ref h17, .int x13, .int x14, .int x15, .int x16, .ref h18, .ref h19, .ref h20, .ref h21, .ref h22, .ref h23, .ref h24, .ref h25, .ref h26, .ref h27, .ref h28, .int x17, .int x18, .int z1, .int z2, .int x21, .int x22, .int x23, .long y10, .int x24, .ref h1, .ref h2, .long z20, .long z21, .int 1, .ref h29, .int x26, .ref h30, .ref h31, .ref h32, .ref h33, .int x27, .int x28, .int x29, .int x30, .ref h34, .ref h35, .int x31, .int x32, .ref h36])), (h2, .inl (gJ g, 2400, .inr (.inl f22)))] rfl ?_
  refine r_aload_n 40 0 C dX12_curve_40 rfl ?_
  refine r_dup 41 C dX12_curve_41 rfl ?_
  refine r_get 42 C dX12_curve_42 (k := 58) 1 rfl rfl hiX12 (by decide) rfl (mg 2 rfl) (Or.inl rfl) rfl ?_
  refine r_lload 45 3 C dX12_curve_45 rfl ?_
  obtain ⟨z24, ez24⟩ : ∃ z_9, z20 + y2 = z_9 := ⟨_, rfl⟩
  have gz24 := fb_rngL z24
  refine r_ladd 47 z24 C dX12_curve_47 ez24 ?_
  refine r_put 48 C dX12_curve_48 (k := 58) 1 rfl rfl hiX12 tyX12 tyX12_ok nmX12 (by decide) rfl (mg 2 rfl) (Or.inl rfl) rfl rfl rfl rfl (Nat.le_of_ble_eq_true rfl) [(h1, .inl (gI g, 400, .inl f3)), (h0, .inr (11, [.ref h3, .int x0, .ref h4, .int x1, .int x2, .int x3, .ref h5, .ref h6, .ref h7, .ref h8, .int x4, .int x5, .int x6, .ref h9, .ref h10, .ref h11, .ref h12, .int x7, .int x8, .int x9, .long y6, .int x10, .int x11, .long y7, .long y8, .ref h13, .ref h14, .ref h15, .ref h16, .long y9, .int x12, .ref h17, .int x13, .int x14, .int x15, .int x16, .ref h18, .ref h19, .ref h20, .ref h21, .ref h22, .ref h23, .ref h24, .ref h25, .ref h26, .ref h27, .ref h28, .int x17, .int x18, .int z1, .int z2, .int x21, .int x22, .int x23, .long y10, .int x24, .ref h1, .ref h2, .long z24, .long z21, .int 1, .ref h29, .int x26, .ref h30, .ref h31, .ref h32, .ref h33, .int x27, .int x28, .int x29, .int x30, .ref h34, .ref h35, .int x31, .int x32, .ref h36])), (h2, .inl (gJ g, 2400, .inr (.inl f22)))] rfl ?_
  refine r_aload_n 51 0 C dX12_curve_51 rfl ?_
  refine r_dup 52 C dX12_curve_52 rfl ?_
  refine r_get 53 C dX12_curve_53 (k := 59) 1 rfl rfl hiX12 (by decide) rfl (mg 3 rfl) (Or.inl rfl) rfl ?_
  refine r_lload 56 4 C dX12_curve_56 rfl ?_
  obtain ⟨z25, ez25⟩ : ∃ z_9, z21 + y3 = z_9 := ⟨_, rfl⟩
  have gz25 := fb_rngL z25
  refine r_ladd 58 z25 C dX12_curve_58 ez25 ?_
  refine r_put 59 C dX12_curve_59 (k := 59) 1 rfl rfl hiX12 tyX12 tyX12_ok nmX12 (by decide) rfl (mg 3 rfl) (Or.inl rfl) rfl rfl rfl rfl (Nat.le_of_ble_eq_true rfl) [(h1, .inl (gI g, 400, .inl f3)), (h0, .inr (11, [.ref h3, .int x0, .ref h4, .int x1, .int x2, .int x3, .ref h5, .ref h6, .ref h7, .ref h8, .int x4, .int x5, .int x6, .ref h9, .ref h10, .ref h11, .ref h12, .int x7, .int x8, .int x9, .long y6, .int x10, .int x11, .long y7, .long y8, .ref h13, .ref h14, .ref h15, .ref h16, .long y9, .int x12, .ref h17, .int x13, .int x14, .int x15, .int x16, .ref h18, .ref h19, .ref h20, .ref h21, .ref h22, .ref h23, .ref h24, .ref h25, .ref h26, .ref h27, .ref h28, .int x17, .int x18, .int z1, .int z2, .int x21, .int x22, .int x23, .long y10, .int x24, .ref h1, .ref h2, .long z24, .long z25, .int 1, .ref h29, .int x26, .ref h30, .ref h31, .ref h32, .ref h33, .int x27, .int x28, .int x29, .int x30, .ref h34, .ref h35, .int x31, .int x32, .ref h36])), (h2, .inl (gJ g, 2400, .inr (.inl f22)))] rfl ?_
  refine r_aload_n 62 0 C dX12_curve_62 rfl ?_
  refine r_iconst 63 1 C dX12_curve_63 (by decide) ?_
  refine r_callVv 64 C dX12_curve_64 [] [(h0, .inr (11, [.ref h3, .int x0, .ref h4, .int x1, .int x2, .int x3, .ref h5, .ref h6, .ref h7, .ref h8, .int x4, .int x5, .int x6, .ref h9, .ref h10, .ref h11, .ref h12, .int x7, .int x8, .int x9, .long y6, .int x10, .int x11, .long y7, .long y8, .ref h13, .ref h14, .ref h15, .ref h16, .long y9, .int x12, .ref h17, .int x13, .int x14, .int x15, .int x16, .ref h18, .ref h19, .ref h20, .ref h21, .ref h22, .ref h23, .ref h24, .ref h25, .ref h26, .ref h27, .ref h28, .int x17, .int x18, .int z1, .int z2, .int x21, .int x22, .int x23, .long y10, .int x24, .ref h1, .ref h2, .long z24, .long z25, .int 1, .ref h29, .int x26, .ref h30, .ref h31, .ref h32, .ref h33, .int x27, .int x28, .int x29, .int x30, .ref h34, .ref h35, .int x31, .int x32, .ref h36])), (h2, .inl (gJ g, 2400, .inr (.inl f22)))] [(h1, .inl (gI g, 400, .inl f3))] (fun sz => c72_X12_point l g h0 h2 1 h3 x0 h4 x1 x2 x3 h5 h6 h7 h8 x4 x5 x6 h9 h10 h11 h12 x7 x8 x9 y6 x10 x11 y7 y8 h13 h14 h15 h16 y9 x12 h17 x13 x14 x15 x16 h18 h19 h20 h21 h22 h23 h24 h25 h26 h27 h28 x17 x18 z1 z2 x21 x22 x23 y10 x24 h1 z24 z25 1 h29 x26 h30 h31 h32 h33 x27 x28 x29 x30 h34 h35 x31 x32 h36 f22 (by decide) i_x0 i_x1 i_x3 i_x6 i_x7 i_x10 i_x11 i_y7 i_y8 i_x12 i_x13 i_x14 i_x15 i_x16 i_x18 ⟨p9, p10⟩ ⟨by omega, by omega⟩ i_x21 i_x22 i_x24 (by decide) i_x26 i_x27 i_x28 i_x29 i_x30 i_x31 i_x32 sz) gX12_curve_X12_point rfl ⟨rfl, rfl⟩ 1 (by decide) ⟨Nat.le_of_ble_eq_true rfl, Nat.le_of_ble_eq_true rfl⟩ 1 rfl rfl [1, 2] [0] rfl rfl (by decide) (by decide) (by decide) rfl rfl (Nat.le_of_ble_eq_true rfl) ⟨Nat.le_of_ble_eq_true rfl, Nat.le_of_ble_eq_true rfl⟩ (fun  f26 w27 => ?_)
  refine r_ws [(h1, .inl (gI g, 400, .inl f3)), (h0, .inr (11, [.ref h3, .int x0, .ref h4, .int x1, .int x2, .int x3, .ref h5, .ref h6, .ref h7, .ref h8, .int x4, .int x5, .int x6, .ref h9, .ref h10, .ref h11, .ref h12, .int x7, .int x8, .int x9, .long y6, .int x10, .int x11, .long y7, .long y8, .ref h13, .ref h14, .ref h15, .ref h16, .long y9, .int x12, .ref h17, .int x13, .int x14, .int x15, .int x16, .ref h18, .ref h19, .ref h20, .ref h21, .ref h22, .ref h23, .ref h24, .ref h25, .ref h26, .ref h27, .ref h28, .int x17, .int x18, .int z1, .int z2, .int x21, .int x22, .int x23, .long y10, .int x24, .ref h1, .ref h2, .long z24, .long z25, .int 1, .ref h29, .int x26, .ref h30, .ref h31, .ref h32, .ref h33, .int x27, .int x28, .int x29, .int x30, .ref h34, .ref h35, .int x31, .int x32, .ref h36])), (h2, .inl (gJ g, 2400, .inr (.inl f26)))] rfl ?_
  refine r_aload_n 67 0 C dX12_curve_67 rfl ?_
  refine r_dup 68 C dX12_curve_68 rfl ?_
  refine r_get 69 C dX12_curve_69 (k := 58) 1 rfl rfl hiX12 (by decide) rfl (mg 2 rfl) (Or.inl rfl) rfl ?_
  refine r_lload 72 5 C dX12_curve_72 rfl ?_
  obtain ⟨z28, ez28⟩ : ∃ z_9, z24 + y4 = z_9 := ⟨_, rfl⟩
  have gz28 := fb_rngL z28
  refine r_ladd 74 z28 C dX12_curve_74 ez28 ?_
  refine r_put 75 C dX12_curve_75 (k := 58) 1 rfl rfl hiX12 tyX12 tyX12_ok nmX12 (by decide) rfl (mg 2 rfl) (Or.inl rfl) rfl rfl rfl rfl (Nat.le_of_ble_eq_true rfl) [(h1, .inl (gI g, 400, .inl f3)), (h0, .inr (11, [.ref h3, .int x0, .ref h4, .int x1, .int x2, .int x3, .ref h5, .ref h6, .ref h7, .ref h8, .int x4, .int x5, .int x6, .ref h9, .ref h10, .ref h11, .ref h12, .int x7, .int x8, .int x9, .long y6, .int x10, .int x11, .long y7, .long y8, .ref h13, .ref h14, .ref h15, .ref h16, .long y9, .int x12, .ref h17, .int x13, .int x14, .int x15, .int x16, .ref h18, .ref h19, .ref h20, .ref h21, .ref h22, .ref h23, .ref h24, .ref h25, .ref h26, .ref h27, .ref h28, .int x17, .int x18, .int z1, .int z2, .int x21, .int x22, .int x23, .long y10, .int x24, .ref h1, .ref h2, .long z28, .long z25, .int 1, .ref h29, .int x26, .ref h30, .ref h31, .ref h32, .ref h33, .int x27, .int x28, .int x29, .int x30, .ref h34, .ref h35, .int x31, .int x32, .ref h36])), (h2, .inl (gJ g, 2400, .inr (.inl f26)))] rfl ?_
  refine r_aload_n 78 0 C dX12_curve_78 rfl ?_
  refine r_dup 79 C dX12_curve_79 rfl ?_
  refine r_get 80 C dX12_curve_80 (k := 59) 1 rfl rfl hiX12 (by decide) rfl (mg 3 rfl) (Or.inl rfl) rfl ?_
  refine r_lload 83 6 C dX12_curve_83 rfl ?_
  obtain ⟨z29, ez29⟩ : ∃ z_9, z25 + y5 = z_9 := ⟨_, rfl⟩
  have gz29 := fb_rngL z29
  refine r_ladd 85 z29 C dX12_curve_85 ez29 ?_
  refine r_put 86 C dX12_curve_86 (k := 59) 1 rfl rfl hiX12 tyX12 tyX12_ok nmX12 (by decide) rfl (mg 3 rfl) (Or.inl rfl) rfl rfl rfl rfl (Nat.le_of_ble_eq_true rfl) [(h1, .inl (gI g, 400, .inl f3)), (h0, .inr (11, [.ref h3, .int x0, .ref h4, .int x1, .int x2, .int x3, .ref h5, .ref h6, .ref h7, .ref h8, .int x4, .int x5, .int x6, .ref h9, .ref h10, .ref h11, .ref h12, .int x7, .int x8, .int x9, .long y6, .int x10, .int x11, .long y7, .long y8, .ref h13, .ref h14, .ref h15, .ref h16, .long y9, .int x12, .ref h17, .int x13, .int x14, .int x15, .int x16, .ref h18, .ref h19, .ref h20, .ref h21, .ref h22, .ref h23, .ref h24, .ref h25, .ref h26, .ref h27, .ref h28, .int x17, .int x18, .int z1, .int z2, .int x21, .int x22, .int x23, .long y10, .int x24, .ref h1, .ref h2, .long z28, .long z29, .int 1, .ref h29, .int x26, .ref h30, .ref h31, .ref h32, .ref h33, .int x27, .int x28, .int x29, .int x30, .ref h34, .ref h35, .int x31, .int x32, .ref h36])), (h2, .inl (gJ g, 2400, .inr (.inl f26)))] rfl ?_
  refine r_aload_n 89 0 C dX12_curve_89 rfl ?_
  refine r_iconst 90 2 C dX12_curve_90 (by decide) ?_
  refine r_callVv 91 C dX12_curve_91 [] [(h0, .inr (11, [.ref h3, .int x0, .ref h4, .int x1, .int x2, .int x3, .ref h5, .ref h6, .ref h7, .ref h8, .int x4, .int x5, .int x6, .ref h9, .ref h10, .ref h11, .ref h12, .int x7, .int x8, .int x9, .long y6, .int x10, .int x11, .long y7, .long y8, .ref h13, .ref h14, .ref h15, .ref h16, .long y9, .int x12, .ref h17, .int x13, .int x14, .int x15, .int x16, .ref h18, .ref h19, .ref h20, .ref h21, .ref h22, .ref h23, .ref h24, .ref h25, .ref h26, .ref h27, .ref h28, .int x17, .int x18, .int z1, .int z2, .int x21, .int x22, .int x23, .long y10, .int x24, .ref h1, .ref h2, .long z28, .long z29, .int 1, .ref h29, .int x26, .ref h30, .ref h31, .ref h32, .ref h33, .int x27, .int x28, .int x29, .int x30, .ref h34, .ref h35, .int x31, .int x32, .ref h36])), (h2, .inl (gJ g, 2400, .inr (.inl f26)))] [(h1, .inl (gI g, 400, .inl f3))] (fun sz => c72_X12_point l g h0 h2 2 h3 x0 h4 x1 x2 x3 h5 h6 h7 h8 x4 x5 x6 h9 h10 h11 h12 x7 x8 x9 y6 x10 x11 y7 y8 h13 h14 h15 h16 y9 x12 h17 x13 x14 x15 x16 h18 h19 h20 h21 h22 h23 h24 h25 h26 h27 h28 x17 x18 z1 z2 x21 x22 x23 y10 x24 h1 z28 z29 1 h29 x26 h30 h31 h32 h33 x27 x28 x29 x30 h34 h35 x31 x32 h36 f26 (by decide) i_x0 i_x1 i_x3 i_x6 i_x7 i_x10 i_x11 i_y7 i_y8 i_x12 i_x13 i_x14 i_x15 i_x16 i_x18 ⟨p9, p10⟩ ⟨by omega, by omega⟩ i_x21 i_x22 i_x24 (by decide) i_x26 i_x27 i_x28 i_x29 i_x30 i_x31 i_x32 sz) gX12_curve_X12_point rfl ⟨rfl, rfl⟩ 1 (by decide) ⟨Nat.le_of_ble_eq_true rfl, Nat.le_of_ble_eq_true rfl⟩ 1 rfl rfl [1, 2] [0] rfl rfl (by decide) (by decide) (by decide) rfl rfl (Nat.le_of_ble_eq_true rfl) ⟨Nat.le_of_ble_eq_true rfl, Nat.le_of_ble_eq_true rfl⟩ (fun  f30 w31 => ?_)
  refine r_ws [(h1, .inl (gI g, 400, .inl f3)), (h0, .inr (11, [.ref h3, .int x0, .ref h4, .int x1, .int x2, .int x3, .ref h5, .ref h6, .ref h7, .ref h8, .int x4, .int x5, .int x6, .ref h9, .ref h10, .ref h11, .ref h12, .int x7, .int x8, .int x9, .long y6, .int x10, .int x11, .long y7, .long y8, .ref h13, .ref h14, .ref h15, .ref h16, .long y9, .int x12, .ref h17, .int x13, .int x14, .int x15, .int x16, .ref h18, .ref h19, .ref h20, .ref h21, .ref h22, .ref h23, .ref h24, .ref h25, .ref h26, .ref h27, .ref h28, .int x17, .int x18, .int z1, .int z2, .int x21, .int x22, .int x23, .long y10, .int x24, .ref h1, .ref h2, .long z28, .long z29, .int 1, .ref h29, .int x26, .ref h30, .ref h31, .ref h32, .ref h33, .int x27, .int x28, .int x29, .int x30, .ref h34, .ref h35, .int x31, .int x32, .ref h36])), (h2, .inl (gJ g, 2400, .inr (.inl f30)))] rfl ?_
  refine r_iconst 94 1 C dX12_curve_94 (by decide) ?_
  exact r_zret 95 Rt dX12_curve_95 (by decide) (z1, z2, z28, z29, 1, f3, f30) (show 0 ≤ (Int32.toInt 1) ∧ (Int32.toInt 1) ≤ 1 ∧ 0 ≤ (Int32.toInt z1) ∧ (Int32.toInt z1) ≤ 9 ∧ 0 ≤ (Int32.toInt z2) ∧ (Int32.toInt z2) ≤ 400 ∧ 0 ≤ (Int32.toInt 1) ∧ (Int32.toInt 1) ≤ 1 ∧ ((Int32.toInt z2) ≤ (Int32.toInt x21)) ∧ ((1 = 0 ∧ 1 ≤ (Int32.toInt z1)) ∨ (1 = 1 ∧ (Int32.toInt z1) = (Int32.toInt x19))) from ⟨(by decide), (by decide), (show _ ∧ _ from ⟨p9, p10⟩).1, (show _ ∧ _ from ⟨p9, p10⟩).2, (show _ ∧ _ from ⟨p11, p12⟩).1, (show _ ∧ _ from ⟨p11, p12⟩).2, (by decide), (by decide), (by first | omega | ((repeat' apply And.intro) <;> first | trivial | rfl | assumption | omega | decide | exact Or.inl rfl | exact Or.inr (Or.inl rfl) | exact Or.inr (Or.inr rfl) | exact Or.inr (Or.inr (by assumption)))), (by first | omega | ((repeat' apply And.intro) <;> first | trivial | rfl | assumption | omega | decide | exact Or.inl rfl | exact Or.inr (Or.inl rfl) | exact Or.inr (Or.inr rfl) | exact Or.inr (Or.inr (by assumption))))⟩) [1, 0, 2] (by decide) rfl (Nat.le_of_ble_eq_true rfl) (Nat.le_of_ble_eq_true rfl)
set_option maxHeartbeats 4000000 in
set_option maxRecDepth 100000 in
theorem c115_X12_sixes (l : Launch) (g : GD) (h0 : Nat) (h1 : Nat) (h2 : Nat) (h3 : Nat) (x0 : Int32) (x1 : Int32) (h4 : Nat) (x2 : Int32) (h5 : Nat) (x3 : Int32) (x4 : Int32) (x5 : Int32) (h6 : Nat) (h7 : Nat) (h8 : Nat) (h9 : Nat) (x6 : Int32) (x7 : Int32) (x8 : Int32) (h10 : Nat) (h11 : Nat) (h12 : Nat) (h13 : Nat) (x9 : Int32) (x10 : Int32) (x11 : Int32) (y0 : Int64) (x12 : Int32) (x13 : Int32) (y1 : Int64) (y2 : Int64) (h14 : Nat) (h15 : Nat) (h16 : Nat) (h17 : Nat) (y3 : Int64) (x14 : Int32) (h18 : Nat) (x15 : Int32) (x16 : Int32) (x17 : Int32) (x18 : Int32) (h19 : Nat) (h20 : Nat) (h21 : Nat) (h22 : Nat) (h23 : Nat) (h24 : Nat) (h25 : Nat) (h26 : Nat) (h27 : Nat) (h28 : Nat) (h29 : Nat) (x19 : Int32) (x20 : Int32) (x21 : Int32) (x22 : Int32) (x23 : Int32) (x24 : Int32) (x25 : Int32) (y4 : Int64) (x26 : Int32) (y5 : Int64) (y6 : Int64) (x27 : Int32) (x28 : Int32) (h30 : Nat) (h31 : Nat) (h32 : Nat) (h33 : Nat) (x29 : Int32) (x30 : Int32) (x31 : Int32) (x32 : Int32) (h34 : Nat) (h35 : Nat) (x33 : Int32) (x34 : Int32) (h36 : Nat) (fn0 : Nat → Int32) (fm0 : Nat → Int64) (fm1 : Nat → Int64) (i_x0 : (0 ≤ (Int32.toInt x0) ∧ (Int32.toInt x0) ≤ 48)) (i_x1 : (0 ≤ (Int32.toInt x1) ∧ (Int32.toInt x1) ≤ 48)) (i_x2 : (0 ≤ (Int32.toInt x2) ∧ (Int32.toInt x2) ≤ 1500)) (i_x3 : (0 ≤ (Int32.toInt x3) ∧ (Int32.toInt x3) ≤ 1508)) (i_x5 : (0 ≤ (Int32.toInt x5) ∧ (Int32.toInt x5) ≤ 0)) (i_x8 : (0 ≤ (Int32.toInt x8) ∧ (Int32.toInt x8) ≤ 3)) (i_x9 : (0 ≤ (Int32.toInt x9) ∧ (Int32.toInt x9) ≤ 4500)) (i_x12 : (0 ≤ (Int32.toInt x12) ∧ (Int32.toInt x12) ≤ 65535)) (i_x13 : (0 ≤ (Int32.toInt x13) ∧ (Int32.toInt x13) ≤ 255)) (i_y1 : (0 ≤ (Int64.toInt y1) ∧ (Int64.toInt y1) ≤ 1500)) (i_y2 : (0 ≤ (Int64.toInt y2) ∧ (Int64.toInt y2) ≤ 1500)) (i_x14 : (0 ≤ (Int32.toInt x14) ∧ (Int32.toInt x14) ≤ 1)) (i_x15 : (0 ≤ (Int32.toInt x15) ∧ (Int32.toInt x15) ≤ 1500)) (i_x16 : (0 ≤ (Int32.toInt x16) ∧ (Int32.toInt x16) ≤ 1501)) (i_x17 : (0 ≤ (Int32.toInt x17) ∧ (Int32.toInt x17) ≤ 1500)) (i_x18 : (0 ≤ (Int32.toInt x18) ∧ (Int32.toInt x18) ≤ 1500)) (i_x20 : (0 ≤ (Int32.toInt x20) ∧ (Int32.toInt x20) ≤ 1)) (i_x21 : (0 ≤ (Int32.toInt x21) ∧ (Int32.toInt x21) ≤ 9)) (i_x22 : (0 ≤ (Int32.toInt x22) ∧ (Int32.toInt x22) ≤ 400)) (i_x23 : (0 ≤ (Int32.toInt x23) ∧ (Int32.toInt x23) ≤ 400)) (i_x24 : (0 ≤ (Int32.toInt x24) ∧ (Int32.toInt x24) ≤ 3000)) (i_x26 : (0 ≤ (Int32.toInt x26) ∧ (Int32.toInt x26) ≤ 1)) (i_x27 : (0 ≤ (Int32.toInt x27) ∧ (Int32.toInt x27) ≤ 1)) (i_x28 : (0 ≤ (Int32.toInt x28) ∧ (Int32.toInt x28) ≤ 48)) (i_x29 : (0 ≤ (Int32.toInt x29) ∧ (Int32.toInt x29) ≤ 10)) (i_x30 : (0 ≤ (Int32.toInt x30) ∧ (Int32.toInt x30) ≤ 1)) (i_x31 : (0 ≤ (Int32.toInt x31) ∧ (Int32.toInt x31) ≤ 1)) (i_x32 : (0 ≤ (Int32.toInt x32) ∧ (Int32.toInt x32) ≤ 7)) (i_x33 : (0 ≤ (Int32.toInt x33) ∧ (Int32.toInt x33) ≤ 24)) (i_x34 : (0 ≤ (Int32.toInt x34) ∧ (Int32.toInt x34) ≤ 1)) (pre0 : ((Int32.toInt x22) ≤ (Int32.toInt x23))) (sz : Nat) : Met l yX12_sixes wsX12_sixes ({ frames := 3, cells := 0, slots := 0, locals := 74 }) (va_Pc [.ref h0, .int x0, .int x1, .int 1] (PW g [(h0, .inr (11, [.ref h4, .int x2, .ref h5, .int x3, .int x4, .int x5, .ref h6, .ref h7, .ref h8, .ref h9, .int x6, .int x7, .int x8, .ref h10, .ref h11, .ref h12, .ref h13, .int x9, .int x10, .int x11, .long y0, .int x12, .int x13, .long y1, .long y2, .ref h14, .ref h15, .ref h16, .ref h17, .long y3, .int x14, .ref h18, .int x15, .int x16, .int x17, .int x18, .ref h19, .ref h20, .ref h21, .ref h22, .ref h23, .ref h24, .ref h25, .ref h26, .ref h27, .ref h28, .ref h29, .int x19, .int x20, .int x21, .int x22, .int x23, .int x24, .int x25, .long y4, .int x26, .ref h1, .ref h2, .long y5, .long y6, .int x27, .ref h3, .int x28, .ref h30, .ref h31, .ref h32, .ref h33, .int x29, .int x30, .int x31, .int x32, .ref h34, .ref h35, .int x33, .int x34, .ref h36])), (h1, .inl (gI g, 400, .inl fn0)), (h2, .inl (gJ g, 2400, .inr (.inl fm0))), (h3, .inl (gJ g, 48, .inr (.inl fm1)))] sz)) (va_Qi (fun (r : Int32) (u : (Int32) × (Int32) × (Int64) × (Int64) × (Int32) × (Nat → Int32) × (Nat → Int64)) => 0 ≤ (Int32.toInt r) ∧ (Int32.toInt r) ≤ 1 ∧ 0 ≤ (Int32.toInt (u.1)) ∧ (Int32.toInt (u.1)) ≤ 9 ∧ 0 ≤ (Int32.toInt (u.2.1)) ∧ (Int32.toInt (u.2.1)) ≤ 400 ∧ 0 ≤ (Int32.toInt (u.2.2.2.2.1)) ∧ (Int32.toInt (u.2.2.2.2.1)) ≤ 1 ∧ ((Int32.toInt (u.2.1)) ≤ (Int32.toInt x23)) ∧ (((Int32.toInt r) = 0 ∧ 1 ≤ (Int32.toInt (u.1))) ∨ ((Int32.toInt r) = 1 ∧ (Int32.toInt (u.1)) = (Int32.toInt x21)))) (BW g (va_A [(h0, .inr (11, [.ref h4, .int x2, .ref h5, .int x3, .int x4, .int x5, .ref h6, .ref h7, .ref h8, .ref h9, .int x6, .int x7, .int x8, .ref h10, .ref h11, .ref h12, .ref h13, .int x9, .int x10, .int x11, .long y0, .int x12, .int x13, .long y1, .long y2, .ref h14, .ref h15, .ref h16, .ref h17, .long y3, .int x14, .ref h18, .int x15, .int x16, .int x17, .int x18, .ref h19, .ref h20, .ref h21, .ref h22, .ref h23, .ref h24, .ref h25, .ref h26, .ref h27, .ref h28, .ref h29, .int x19, .int x20, .int x21, .int x22, .int x23, .int x24, .int x25, .long y4, .int x26, .ref h1, .ref h2, .long y5, .long y6, .int x27, .ref h3, .int x28, .ref h30, .ref h31, .ref h32, .ref h33, .int x29, .int x30, .int x31, .int x32, .ref h34, .ref h35, .int x33, .int x34, .ref h36])), (h1, .inl (gI g, 400, .inl fn0)), (h2, .inl (gJ g, 2400, .inr (.inl fm0))), (h3, .inl (gJ g, 48, .inr (.inl fm1)))] sz) (fun u : (Int32) × (Int32) × (Int64) × (Int64) × (Int32) × (Nat → Int32) × (Nat → Int64) => [(h0, .inr (11, [.ref h4, .int x2, .ref h5, .int x3, .int x4, .int x5, .ref h6, .ref h7, .ref h8, .ref h9, .int x6, .int x7, .int x8, .ref h10, .ref h11, .ref h12, .ref h13, .int x9, .int x10, .int x11, .long y0, .int x12, .int x13, .long y1, .long y2, .ref h14, .ref h15, .ref h16, .ref h17, .long y3, .int x14, .ref h18, .int x15, .int x16, .int x17, .int x18, .ref h19, .ref h20, .ref h21, .ref h22, .ref h23, .ref h24, .ref h25, .ref h26, .ref h27, .ref h28, .ref h29, .int x19, .int x20, .int u.1, .int u.2.1, .int x23, .int x24, .int x25, .long y4, .int x26, .ref h1, .ref h2, .long u.2.2.1, .long u.2.2.2.1, .int u.2.2.2.2.1, .ref h3, .int x28, .ref h30, .ref h31, .ref h32, .ref h33, .int x29, .int x30, .int x31, .int x32, .ref h34, .ref h35, .int x33, .int x34, .ref h36])), (h1, .inl (gI g, 400, .inl u.2.2.2.2.2.1)), (h2, .inl (gJ g, 2400, .inr (.inl u.2.2.2.2.2.2))), (h3, .inl (gJ g, 48, .inr (.inl fm1)))])) (va_A [(h0, .inr (11, [.ref h4, .int x2, .ref h5, .int x3, .int x4, .int x5, .ref h6, .ref h7, .ref h8, .ref h9, .int x6, .int x7, .int x8, .ref h10, .ref h11, .ref h12, .ref h13, .int x9, .int x10, .int x11, .long y0, .int x12, .int x13, .long y1, .long y2, .ref h14, .ref h15, .ref h16, .ref h17, .long y3, .int x14, .ref h18, .int x15, .int x16, .int x17, .int x18, .ref h19, .ref h20, .ref h21, .ref h22, .ref h23, .ref h24, .ref h25, .ref h26, .ref h27, .ref h28, .ref h29, .int x19, .int x20, .int x21, .int x22, .int x23, .int x24, .int x25, .long y4, .int x26, .ref h1, .ref h2, .long y5, .long y6, .int x27, .ref h3, .int x28, .ref h30, .ref h31, .ref h32, .ref h33, .int x29, .int x30, .int x31, .int x32, .ref h34, .ref h35, .int x33, .int x34, .ref h36])), (h1, .inl (gI g, 400, .inl fn0)), (h2, .inl (gJ g, 2400, .inr (.inl fm0))), (h3, .inl (gJ g, 48, .inr (.inl fm1)))] sz)) 0 0 (va_A [(h0, .inr (11, [.ref h4, .int x2, .ref h5, .int x3, .int x4, .int x5, .ref h6, .ref h7, .ref h8, .ref h9, .int x6, .int x7, .int x8, .ref h10, .ref h11, .ref h12, .ref h13, .int x9, .int x10, .int x11, .long y0, .int x12, .int x13, .long y1, .long y2, .ref h14, .ref h15, .ref h16, .ref h17, .long y3, .int x14, .ref h18, .int x15, .int x16, .int x17, .int x18, .ref h19, .ref h20, .ref h21, .ref h22, .ref h23, .ref h24, .ref h25, .ref h26, .ref h27, .ref h28, .ref h29, .int x19, .int x20, .int x21, .int x22, .int x23, .int x24, .int x25, .long y4, .int x26, .ref h1, .ref h2, .long y5, .long y6, .int x27, .ref h3, .int x28, .ref h30, .ref h31, .ref h32, .ref h33, .int x29, .int x30, .int x31, .int x32, .ref h34, .ref h35, .int x33, .int x34, .ref h36])), (h1, .inl (gI g, 400, .inl fn0)), (h2, .inl (gJ g, 2400, .inr (.inl fm0))), (h3, .inl (gJ g, 48, .inr (.inl fm1)))] sz) := by
  refine met_z RX12 (by decide) rfl rfl (Nat.le_of_ble_eq_true rfl) [(0, .ref h0), (1, .int x0), (2, .int x1), (3, .int 1)] rfl ?_
  intro p e s m args below meth c A Q C hnm Rt
  have hiX12 : ∀ w ∈ wsX120, w ∈ wsX12_sixes := fun w h => List.mem_cons_of_mem _ (List.mem_append_right _ (h))
  refine r_iload_n 0 2 C dX12_sixes_0 rfl ?_
  refine r_iload_n 1 1 C dX12_sixes_1 rfl ?_
  obtain ⟨z1, ez1⟩ : ∃ z_9, x1 - x0 = z_9 := ⟨_, rfl⟩
  have tz1 : (Int32.toInt z1) = (Int32.toInt x1) - (Int32.toInt x0) := by rw [← ez1]; exact fb_subIv (a := 0) (b := 48) (c := 0) (d := 48) i_x1 i_x0 (by decide) (by decide)
  refine r_isub 2 z1 C dX12_sixes_2 ez1 ?_
  refine r_istore 3 C dX12_sixes_3 [(4, .int z1), (0, .ref h0), (1, .int x0), (2, .int x1), (3, .int 1)] (by decide) rfl ?_
  refine r_iload 5 0 C dX12_sixes_5 rfl ?_
  refine r_bipush 7 6 C dX12_sixes_7 (by decide) ?_
  obtain ⟨z2, ez2⟩ : ∃ z_9, z1 - z1 / 6 * 6 = z_9 := ⟨_, rfl⟩
  have tz2 : (0 ≤ (Int32.toInt z1) → (Int32.toInt z2) = (Int32.toInt z1) % 6) ∧ ((Int32.toInt z1) < 0 → (Int32.toInt z2) ≤ 0) := by rw [← ez2]; exact rem_pn z1 (n := 6) (by decide) (by decide)
  have gz2 := fb_rng z2
  have gz2 := fb_rng z2
  refine r_irem 9 z2 C dX12_sixes_9 (by decide) ez2 ?_
  refine r_if_ne 10 22 C dX12_sixes_10 (by decide) (fun c3 => ?_) (fun c3 => ?_)
  · skip
    have k4 : ¬ ((Int32.toInt z2) = 0) := fun h_9 => c3 ((fa_eq z2 0).mpr h_9)
    refine r_aload_n 22 1 C dX12_sixes_22 rfl ?_
    refine r_iconst 23 2 C dX12_sixes_23 (by decide) ?_
    refine r_callVi 24 C dX12_sixes_24 [] [(h0, .inr (11, [.ref h4, .int x2, .ref h5, .int x3, .int x4, .int x5, .ref h6, .ref h7, .ref h8, .ref h9, .int x6, .int x7, .int x8, .ref h10, .ref h11, .ref h12, .ref h13, .int x9, .int x10, .int x11, .long y0, .int x12, .int x13, .long y1, .long y2, .ref h14, .ref h15, .ref h16, .ref h17, .long y3, .int x14, .ref h18, .int x15, .int x16, .int x17, .int x18, .ref h19, .ref h20, .ref h21, .ref h22, .ref h23, .ref h24, .ref h25, .ref h26, .ref h27, .ref h28, .ref h29, .int x19, .int x20, .int x21, .int x22, .int x23, .int x24, .int x25, .long y4, .int x26, .ref h1, .ref h2, .long y5, .long y6, .int x27, .ref h3, .int x28, .ref h30, .ref h31, .ref h32, .ref h33, .int x29, .int x30, .int x31, .int x32, .ref h34, .ref h35, .int x33, .int x34, .ref h36]))] [(h1, .inl (gI g, 400, .inl fn0)), (h2, .inl (gJ g, 2400, .inr (.inl fm0))), (h3, .inl (gJ g, 48, .inr (.inl fm1)))] (fun sz => c65_X12_stops l g h0 2 h4 x2 h5 x3 x4 x5 h6 h7 h8 h9 x6 x7 x8 h10 h11 h12 h13 x9 x10 x11 y0 x12 x13 y1 y2 h14 h15 h16 h17 y3 x14 h18 x15 x16 x17 x18 h19 h20 h21 h22 h23 h24 h25 h26 h27 h28 h29 x19 x20 x21 x22 x23 x24 x25 y4 x26 h1 h2 y5 y6 x27 h3 x28 h30 h31 h32 h33 x29 x30 x31 x32 h34 h35 x33 x34 h36 (by decide) i_x2 i_x3 i_x5 i_x8 i_x9 i_x12 i_x13 i_y1 i_y2 i_x14 i_x15 i_x16 i_x17 i_x18 i_x20 i_x21 i_x22 i_x23 i_x24 i_x26 i_x27 i_x28 i_x29 i_x30 i_x31 i_x32 i_x33 i_x34 sz) gX12_sixes_X12_stops rfl ⟨rfl, rfl⟩ 1 (by decide) ⟨Nat.le_of_ble_eq_true rfl, Nat.le_of_ble_eq_true rfl⟩ 0 rfl rfl [0] [1, 2, 3] rfl rfl (by decide) (by decide) (by decide) rfl rfl (Nat.le_of_ble_eq_true rfl) ⟨Nat.le_of_ble_eq_true rfl, Nat.le_of_ble_eq_true rfl⟩ (fun r6 z5 w7 => ?_)
    refine r_ws [(h1, .inl (gI g, 400, .inl fn0)), (h2, .inl (gJ g, 2400, .inr (.inl fm0))), (h3, .inl (gJ g, 48, .inr (.inl fm1))), (h0, .inr (11, [.ref h4, .int x2, .ref h5, .int x3, .int x4, .int x5, .ref h6, .ref h7, .ref h8, .ref h9, .int x6, .int x7, .int x8, .ref h10, .ref h11, .ref h12, .ref h13, .int x9, .int x10, .int x11, .long y0, .int x12, .int x13, .long y1, .long y2, .ref h14, .ref h15, .ref h16, .ref h17, .long y3, .int x14, .ref h18, .int x15, .int x16, .int x17, .int x18, .ref h19, .ref h20, .ref h21, .ref h22, .ref h23, .ref h24, .ref h25, .ref h26, .ref h27, .ref h28, .ref h29, .int x19, .int x20, .int z5, .int x22, .int x23, .int x24, .int x25, .long y4, .int x26, .ref h1, .ref h2, .long y5, .long y6, .int x27, .ref h3, .int x28, .ref h30, .ref h31, .ref h32, .ref h33, .int x29, .int x30, .int x31, .int x32, .ref h34, .ref h35, .int x33, .int x34, .ref h36]))] rfl ?_
    have p8 : 0 = r6 := (w7.1).symm
    subst p8
    have p9 : 0 ≤ (Int32.toInt z5) := w7.2.1
    have p10 : (Int32.toInt z5) ≤ 9 := w7.2.2.1
    have p11 : (1 ≤ (Int32.toInt z5)) := w7.2.2.2
    exact r_zret 27 Rt dX12_sixes_27 (by decide) (z5, x22, y5, y6, x27, fn0, fm0) (show 0 ≤ (Int32.toInt 0) ∧ (Int32.toInt 0) ≤ 1 ∧ 0 ≤ (Int32.toInt z5) ∧ (Int32.toInt z5) ≤ 9 ∧ 0 ≤ (Int32.toInt x22) ∧ (Int32.toInt x22) ≤ 400 ∧ 0 ≤ (Int32.toInt x27) ∧ (Int32.toInt x27) ≤ 1 ∧ ((Int32.toInt x22) ≤ (Int32.toInt x23)) ∧ ((0 = 0 ∧ 1 ≤ (Int32.toInt z5)) ∨ (0 = 1 ∧ (Int32.toInt z5) = (Int32.toInt x21))) from ⟨(by decide), (by decide), (show _ ∧ _ from ⟨p9, p10⟩).1, (show _ ∧ _ from ⟨p9, p10⟩).2, i_x22.1, i_x22.2, i_x27.1, i_x27.2, (by first | omega | ((repeat' apply And.intro) <;> first | trivial | rfl | assumption | omega | decide | exact Or.inl rfl | exact Or.inr (Or.inl rfl) | exact Or.inr (Or.inr rfl) | exact Or.inr (Or.inr (by assumption)))), (by first | omega | ((repeat' apply And.intro) <;> first | trivial | rfl | assumption | omega | decide | exact Or.inl rfl | exact Or.inr (Or.inl rfl) | exact Or.inr (Or.inr rfl) | exact Or.inr (Or.inr (by assumption))))⟩) [3, 0, 1, 2] (by decide) rfl (Nat.le_of_ble_eq_true rfl) (Nat.le_of_ble_eq_true rfl)
  · skip
    have k12 : (Int32.toInt z2) = 0 := (fa_eq z2 0).mp c3
    refine r_iload 13 0 C dX12_sixes_13 rfl ?_
    refine r_bipush 15 6 C dX12_sixes_15 (by decide) ?_
    refine r_iload_n 17 4 C dX12_sixes_17 rfl ?_
    refine r_imul 18 6 C dX12_sixes_18 (by decide) ?_
    refine r_icmp_ge 19 28 C dX12_sixes_19 (by decide) (fun c13 => ?_) (fun c13 => ?_)
    · skip
      have k14 : 6 ≤ (Int32.toInt z1) := (fa_le 6 z1).mp c13
      refine r_iload_n 28 2 C dX12_sixes_28 rfl ?_
      refine r_istore 29 C dX12_sixes_29 [(5, .int x0), (4, .int z1), (0, .ref h0), (1, .int x0), (2, .int x1), (3, .int 1)] (by decide) rfl ?_
      have lp24 : ∀ (n23 : Nat) (z15 : Int32) (z16 : Int32) (z17 : Int32) (z18 : Int64) (z19 : Int64) (z20 : Int32) (f21 : Nat → Int32) (f22 : Nat → Int64), (0 ≤ (Int32.toInt z15) ∧ (Int32.toInt z15) ≤ 53) → (0 ≤ (Int32.toInt z16) ∧ (Int32.toInt z16) ≤ 9) → (0 ≤ (Int32.toInt z17) ∧ (Int32.toInt z17) ≤ 400) → (0 ≤ (Int32.toInt z20) ∧ (Int32.toInt z20) ≤ 1) → (((Int32.toInt x1) - (Int32.toInt z15)) % 6 = 0 ∧ (Int32.toInt z15) ≤ (Int32.toInt x1) ∧ (Int32.toInt z17) ≤ (Int32.toInt x23)) → ((Int32.toInt z16) = (Int32.toInt x21)) → Int.toNat (53 - (Int32.toInt z15)) < n23 → WW p l e ({ frames := 3, cells := 0, slots := 0, locals := 74 } : Room) s m args below meth c A Q g 6 0 0 [(h0, .inr (11, [.ref h4, .int x2, .ref h5, .int x3, .int x4, .int x5, .ref h6, .ref h7, .ref h8, .ref h9, .int x6, .int x7, .int x8, .ref h10, .ref h11, .ref h12, .ref h13, .int x9, .int x10, .int x11, .long y0, .int x12, .int x13, .long y1, .long y2, .ref h14, .ref h15, .ref h16, .ref h17, .long y3, .int x14, .ref h18, .int x15, .int x16, .int x17, .int x18, .ref h19, .ref h20, .ref h21, .ref h22, .ref h23, .ref h24, .ref h25, .ref h26, .ref h27, .ref h28, .ref h29, .int x19, .int x20, .int z16, .int z17, .int x23, .int x24, .int x25, .long y4, .int x26, .ref h1, .ref h2, .long z18, .long z19, .int z20, .ref h3, .int x28, .ref h30, .ref h31, .ref h32, .ref h33, .int x29, .int x30, .int x31, .int x32, .ref h34, .ref h35, .int x33, .int x34, .ref h36])), (h1, .inl (gI g, 400, .inl f21)), (h2, .inl (gJ g, 2400, .inr (.inl f22))), (h3, .inl (gJ g, 48, .inr (.inl fm1)))] 31 [(5, .int z15), (4, .int z1), (0, .ref h0), (1, .int x0), (2, .int x1), (3, .int 1)] [] := by
        intro n23
        induction n23 with
        | zero => intro z15 z16 z17 z18 z19 z20 f21 f22 i27 i28 i29 i30 j31 j32 hm26; exact absurd hm26 (Nat.not_lt_zero _)
        | succ n23 ih25 =>
          intro z15 z16 z17 z18 z19 z20 f21 f22 i27 i28 i29 i30 j31 j32 hm26
          obtain ⟨i27a, i27b⟩ := i27
          obtain ⟨i28a, i28b⟩ := i28
          obtain ⟨i29a, i29b⟩ := i29
          obtain ⟨i30a, i30b⟩ := i30
          have gz18 := fb_rngL z18
          have gz19 := fb_rngL z19
          refine r_iload 31 0 C dX12_sixes_31 rfl ?_
          refine r_iload_n 33 4 C dX12_sixes_33 rfl ?_
          refine r_icmp_ge 34 104 C dX12_sixes_34 (by decide) (fun c33 => ?_) (fun c33 => ?_)
          · skip
            have k34 : (Int32.toInt x1) ≤ (Int32.toInt z15) := (fa_le x1 z15).mp c33
            refine r_iconst 104 1 C dX12_sixes_104 (by decide) ?_
            exact r_zret 105 Rt dX12_sixes_105 (by decide) (z16, z17, z18, z19, z20, f21, f22) (show 0 ≤ (Int32.toInt 1) ∧ (Int32.toInt 1) ≤ 1 ∧ 0 ≤ (Int32.toInt z16) ∧ (Int32.toInt z16) ≤ 9 ∧ 0 ≤ (Int32.toInt z17) ∧ (Int32.toInt z17) ≤ 400 ∧ 0 ≤ (Int32.toInt z20) ∧ (Int32.toInt z20) ≤ 1 ∧ ((Int32.toInt z17) ≤ (Int32.toInt x23)) ∧ ((1 = 0 ∧ 1 ≤ (Int32.toInt z16)) ∨ (1 = 1 ∧ (Int32.toInt z16) = (Int32.toInt x21))) from ⟨(by decide), (by decide), (show _ ∧ _ from ⟨i28a, i28b⟩).1, (show _ ∧ _ from ⟨i28a, i28b⟩).2, (show _ ∧ _ from ⟨i29a, i29b⟩).1, (show _ ∧ _ from ⟨i29a, i29b⟩).2, (show _ ∧ _ from ⟨i30a, i30b⟩).1, (show _ ∧ _ from ⟨i30a, i30b⟩).2, (by first | omega | ((repeat' apply And.intro) <;> first | trivial | rfl | assumption | omega | decide | exact Or.inl rfl | exact Or.inr (Or.inl rfl) | exact Or.inr (Or.inr rfl) | exact Or.inr (Or.inr (by assumption)))), (by first | omega | ((repeat' apply And.intro) <;> first | trivial | rfl | assumption | omega | decide | exact Or.inl rfl | exact Or.inr (Or.inl rfl) | exact Or.inr (Or.inr rfl) | exact Or.inr (Or.inr (by assumption))))⟩) [0, 1, 2, 3] (by decide) rfl (Nat.le_of_ble_eq_true rfl) (Nat.le_of_ble_eq_true rfl)
          · skip
            have k35 : ¬ ((Int32.toInt x1) ≤ (Int32.toInt z15)) := fun h_9 => c33 ((fa_le x1 z15).mpr h_9)
            refine r_aload_n 37 2 C dX12_sixes_37 rfl ?_
            refine r_aload_n 38 2 C dX12_sixes_38 rfl ?_
            refine r_get 39 C dX12_sixes_39 (k := 61) 0 rfl rfl hiX12 (by decide) rfl (mg 1 rfl) (Or.inl rfl) rfl ?_
            refine r_iload 42 0 C dX12_sixes_42 rfl ?_
            obtain ⟨z36, ez36⟩ : ∃ z_9, fm1 (Int32.toNatClampNeg z15) = z_9 := ⟨_, rfl⟩
            refine r_lald 44 z36 C dX12_sixes_44 3 rfl (vinI (by omega) (by omega)) ez36 ?_
            have gz36 := fb_rngL z36
            refine r_aload_n 45 2 C dX12_sixes_45 rfl ?_
            refine r_get 46 C dX12_sixes_46 (k := 61) 0 rfl rfl hiX12 (by decide) rfl (mg 1 rfl) (Or.inl rfl) rfl ?_
            refine r_iload 49 0 C dX12_sixes_49 rfl ?_
            refine r_iconst 51 1 C dX12_sixes_51 (by decide) ?_
            obtain ⟨z37, ez37⟩ : ∃ z_9, z15 + 1 = z_9 := ⟨_, rfl⟩
            have tz37 : (Int32.toInt z37) = (Int32.toInt z15) + 1 := by rw [← ez37]; exact fb_addIv (a := 0) (b := 53) (c := 1) (d := 1) ⟨i27a, i27b⟩ ⟨by decide, by decide⟩ (by decide) (by decide)
            refine r_iadd 52 z37 C dX12_sixes_52 ez37 ?_
            obtain ⟨z38, ez38⟩ : ∃ z_9, fm1 (Int32.toNatClampNeg z37) = z_9 := ⟨_, rfl⟩
            refine r_lald 53 z38 C dX12_sixes_53 3 rfl (vinI (by omega) (by omega)) ez38 ?_
            have gz38 := fb_rngL z38
            refine r_aload_n 54 2 C dX12_sixes_54 rfl ?_
            refine r_get 55 C dX12_sixes_55 (k := 61) 0 rfl rfl hiX12 (by decide) rfl (mg 1 rfl) (Or.inl rfl) rfl ?_
            refine r_iload 58 0 C dX12_sixes_58 rfl ?_
            refine r_iconst 60 2 C dX12_sixes_60 (by decide) ?_
            obtain ⟨z39, ez39⟩ : ∃ z_9, z15 + 2 = z_9 := ⟨_, rfl⟩
            have tz39 : (Int32.toInt z39) = (Int32.toInt z15) + 2 := by rw [← ez39]; exact fb_addIv (a := 0) (b := 53) (c := 2) (d := 2) ⟨i27a, i27b⟩ ⟨by decide, by decide⟩ (by decide) (by decide)
            refine r_iadd 61 z39 C dX12_sixes_61 ez39 ?_
            obtain ⟨z40, ez40⟩ : ∃ z_9, fm1 (Int32.toNatClampNeg z39) = z_9 := ⟨_, rfl⟩
            refine r_lald 62 z40 C dX12_sixes_62 3 rfl (vinI (by omega) (by omega)) ez40 ?_
            have gz40 := fb_rngL z40
            refine r_aload_n 63 2 C dX12_sixes_63 rfl ?_
            refine r_get 64 C dX12_sixes_64 (k := 61) 0 rfl rfl hiX12 (by decide) rfl (mg 1 rfl) (Or.inl rfl) rfl ?_
            refine r_iload 67 0 C dX12_sixes_67 rfl ?_
            refine r_iconst 69 3 C dX12_sixes_69 (by decide) ?_
            obtain ⟨z41, ez41⟩ : ∃ z_9, z15 + 3 = z_9 := ⟨_, rfl⟩
            have tz41 : (Int32.toInt z41) = (Int32.toInt z15) + 3 := by rw [← ez41]; exact fb_addIv (a := 0) (b := 53) (c := 3) (d := 3) ⟨i27a, i27b⟩ ⟨by decide, by decide⟩ (by decide) (by decide)
            refine r_iadd 70 z41 C dX12_sixes_70 ez41 ?_
            obtain ⟨z42, ez42⟩ : ∃ z_9, fm1 (Int32.toNatClampNeg z41) = z_9 := ⟨_, rfl⟩
            refine r_lald 71 z42 C dX12_sixes_71 3 rfl (vinI (by omega) (by omega)) ez42 ?_
            have gz42 := fb_rngL z42
            refine r_aload_n 72 2 C dX12_sixes_72 rfl ?_
            refine r_get 73 C dX12_sixes_73 (k := 61) 0 rfl rfl hiX12 (by decide) rfl (mg 1 rfl) (Or.inl rfl) rfl ?_
            refine r_iload 76 0 C dX12_sixes_76 rfl ?_
            refine r_iconst 78 4 C dX12_sixes_78 (by decide) ?_
            obtain ⟨z43, ez43⟩ : ∃ z_9, z15 + 4 = z_9 := ⟨_, rfl⟩
            have tz43 : (Int32.toInt z43) = (Int32.toInt z15) + 4 := by rw [← ez43]; exact fb_addIv (a := 0) (b := 53) (c := 4) (d := 4) ⟨i27a, i27b⟩ ⟨by decide, by decide⟩ (by decide) (by decide)
            refine r_iadd 79 z43 C dX12_sixes_79 ez43 ?_
            obtain ⟨z44, ez44⟩ : ∃ z_9, fm1 (Int32.toNatClampNeg z43) = z_9 := ⟨_, rfl⟩
            refine r_lald 80 z44 C dX12_sixes_80 3 rfl (vinI (by omega) (by omega)) ez44 ?_
            have gz44 := fb_rngL z44
            refine r_aload_n 81 2 C dX12_sixes_81 rfl ?_
            refine r_get 82 C dX12_sixes_82 (k := 61) 0 rfl rfl hiX12 (by decide) rfl (mg 1 rfl) (Or.inl rfl) rfl ?_
            refine r_iload 85 0 C dX12_sixes_85 rfl ?_
            refine r_iconst 87 5 C dX12_sixes_87 (by decide) ?_
            obtain ⟨z45, ez45⟩ : ∃ z_9, z15 + 5 = z_9 := ⟨_, rfl⟩
            have tz45 : (Int32.toInt z45) = (Int32.toInt z15) + 5 := by rw [← ez45]; exact fb_addIv (a := 0) (b := 53) (c := 5) (d := 5) ⟨i27a, i27b⟩ ⟨by decide, by decide⟩ (by decide) (by decide)
            refine r_iadd 88 z45 C dX12_sixes_88 ez45 ?_
            obtain ⟨z46, ez46⟩ : ∃ z_9, fm1 (Int32.toNatClampNeg z45) = z_9 := ⟨_, rfl⟩
            refine r_lald 89 z46 C dX12_sixes_89 3 rfl (vinI (by omega) (by omega)) ez46 ?_
            have gz46 := fb_rngL z46
            refine r_callVi 90 C dX12_sixes_90 [] [(h0, .inr (11, [.ref h4, .int x2, .ref h5, .int x3, .int x4, .int x5, .ref h6, .ref h7, .ref h8, .ref h9, .int x6, .int x7, .int x8, .ref h10, .ref h11, .ref h12, .ref h13, .int x9, .int x10, .int x11, .long y0, .int x12, .int x13, .long y1, .long y2, .ref h14, .ref h15, .ref h16, .ref h17, .long y3, .int x14, .ref h18, .int x15, .int x16, .int x17, .int x18, .ref h19, .ref h20, .ref h21, .ref h22, .ref h23, .ref h24, .ref h25, .ref h26, .ref h27, .ref h28, .ref h29, .int x19, .int x20, .int z16, .int z17, .int x23, .int x24, .int x25, .long y4, .int x26, .ref h1, .ref h2, .long z18, .long z19, .int z20, .ref h3, .int x28, .ref h30, .ref h31, .ref h32, .ref h33, .int x29, .int x30, .int x31, .int x32, .ref h34, .ref h35, .int x33, .int x34, .ref h36])), (h1, .inl (gI g, 400, .inl f21)), (h2, .inl (gJ g, 2400, .inr (.inl f22)))] [(h3, .inl (gJ g, 48, .inr (.inl fm1)))] (fun sz => c114_X12_curve l g h0 h1 h2 z36 z38 z40 z42 z44 z46 h4 x2 h5 x3 x4 x5 h6 h7 h8 h9 x6 x7 x8 h10 h11 h12 h13 x9 x10 x11 y0 x12 x13 y1 y2 h14 h15 h16 h17 y3 x14 h18 x15 x16 x17 x18 h19 h20 h21 h22 h23 h24 h25 h26 h27 h28 h29 x19 x20 z16 z17 x23 x24 x25 y4 x26 z18 z19 z20 h3 x28 h30 h31 h32 h33 x29 x30 x31 x32 h34 h35 x33 x34 h36 f21 f22 i_x2 i_x3 i_x5 i_x8 i_x9 i_x12 i_x13 i_y1 i_y2 i_x14 i_x15 i_x16 i_x17 i_x18 i_x20 ⟨i28a, i28b⟩ ⟨i29a, i29b⟩ i_x23 i_x24 i_x26 ⟨i30a, i30b⟩ i_x28 i_x29 i_x30 i_x31 i_x32 i_x33 i_x34 (by show ((Int32.toInt z17) ≤ (Int32.toInt x23)); first | assumption | omega) sz) gX12_sixes_X12_curve rfl ⟨rfl, rfl⟩ 6 (by decide) ⟨Nat.le_of_ble_eq_true rfl, Nat.le_of_ble_eq_true rfl⟩ 0 rfl rfl [0, 1, 2] [3] rfl rfl (by decide) (by decide) (by decide) rfl rfl (Nat.le_of_ble_eq_true rfl) ⟨Nat.le_of_ble_eq_true rfl, Nat.le_of_ble_eq_true rfl⟩ (fun r54 u56 w55 => ?_)
            obtain ⟨z47, z48, z49, z50, z51, f52, f53⟩ := u56
            refine r_ws [(h3, .inl (gJ g, 48, .inr (.inl fm1))), (h0, .inr (11, [.ref h4, .int x2, .ref h5, .int x3, .int x4, .int x5, .ref h6, .ref h7, .ref h8, .ref h9, .int x6, .int x7, .int x8, .ref h10, .ref h11, .ref h12, .ref h13, .int x9, .int x10, .int x11, .long y0, .int x12, .int x13, .long y1, .long y2, .ref h14, .ref h15, .ref h16, .ref h17, .long y3, .int x14, .ref h18, .int x15, .int x16, .int x17, .int x18, .ref h19, .ref h20, .ref h21, .ref h22, .ref h23, .ref h24, .ref h25, .ref h26, .ref h27, .ref h28, .ref h29, .int x19, .int x20, .int z47, .int z48, .int x23, .int x24, .int x25, .long y4, .int x26, .ref h1, .ref h2, .long z49, .long z50, .int z51, .ref h3, .int x28, .ref h30, .ref h31, .ref h32, .ref h33, .int x29, .int x30, .int x31, .int x32, .ref h34, .ref h35, .int x33, .int x34, .ref h36])), (h1, .inl (gI g, 400, .inl f52)), (h2, .inl (gJ g, 2400, .inr (.inl f53)))] rfl ?_
            have gz49 := fb_rngL z49
            have gz50 := fb_rngL z50
            have p57 : 0 ≤ (Int32.toInt r54) := w55.1
            have p58 : (Int32.toInt r54) ≤ 1 := w55.2.1
            have p59 : 0 ≤ (Int32.toInt z47) := w55.2.2.1
            have p60 : (Int32.toInt z47) ≤ 9 := w55.2.2.2.1
            have p61 : 0 ≤ (Int32.toInt z48) := w55.2.2.2.2.1
            have p62 : (Int32.toInt z48) ≤ 400 := w55.2.2.2.2.2.1
            have p63 : 0 ≤ (Int32.toInt z51) := w55.2.2.2.2.2.2.1
            have p64 : (Int32.toInt z51) ≤ 1 := w55.2.2.2.2.2.2.2.1
            have p65 : ((Int32.toInt z48) ≤ (Int32.toInt x23)) := w55.2.2.2.2.2.2.2.2.1
            have p66 : (((Int32.toInt r54) = 0 ∧ 1 ≤ (Int32.toInt z47)) ∨ ((Int32.toInt r54) = 1 ∧ (Int32.toInt z47) = (Int32.toInt z16))) := w55.2.2.2.2.2.2.2.2.2
            rcases p66 with ⟨k67, k68⟩ | p66
            · skip
              refine r_if_ne_f 93 98 C dX12_sixes_93 (by decide) ((fa_eq r54 0).mpr (by show (Int32.toInt r54) = 0; omega)) ?_
              refine r_iconst 96 0 C dX12_sixes_96 (by decide) ?_
              exact r_zret 97 Rt dX12_sixes_97 (by decide) (z47, z48, z49, z50, z51, f52, f53) (show 0 ≤ (Int32.toInt 0) ∧ (Int32.toInt 0) ≤ 1 ∧ 0 ≤ (Int32.toInt z47) ∧ (Int32.toInt z47) ≤ 9 ∧ 0 ≤ (Int32.toInt z48) ∧ (Int32.toInt z48) ≤ 400 ∧ 0 ≤ (Int32.toInt z51) ∧ (Int32.toInt z51) ≤ 1 ∧ ((Int32.toInt z48) ≤ (Int32.toInt x23)) ∧ ((0 = 0 ∧ 1 ≤ (Int32.toInt z47)) ∨ (0 = 1 ∧ (Int32.toInt z47) = (Int32.toInt x21))) from ⟨(by decide), (by decide), (show _ ∧ _ from ⟨p59, p60⟩).1, (show _ ∧ _ from ⟨p59, p60⟩).2, (show _ ∧ _ from ⟨p61, p62⟩).1, (show _ ∧ _ from ⟨p61, p62⟩).2, (show _ ∧ _ from ⟨p63, p64⟩).1, (show _ ∧ _ from ⟨p63, p64⟩).2, (by first | omega | ((repeat' apply And.intro) <;> first | trivial | rfl | assumption | omega | decide | exact Or.inl rfl | exact Or.inr (Or.inl rfl) | exact Or.inr (Or.inr rfl) | exact Or.inr (Or.inr (by assumption)))), (by first | omega | ((repeat' apply And.intro) <;> first | trivial | rfl | assumption | omega | decide | exact Or.inl rfl | exact Or.inr (Or.inl rfl) | exact Or.inr (Or.inr rfl) | exact Or.inr (Or.inr (by assumption))))⟩) [1, 2, 3, 0] (by decide) rfl (Nat.le_of_ble_eq_true rfl) (Nat.le_of_ble_eq_true rfl)
            obtain ⟨k69, k70⟩ := p66
            refine r_if_ne_t 93 98 C dX12_sixes_93 (by decide) (fun h_9 => by have h_8 : (Int32.toInt r54) = 0 := (fa_eq r54 0).mp h_9; omega) ?_
            obtain ⟨z71, ez71⟩ : ∃ z_9, z15 + Int32.ofInt 6 = z_9 := ⟨_, rfl⟩
            have tz71 : (Int32.toInt z71) = (Int32.toInt z15) + 6 := by rw [← ez71]; exact fb_addIv (a := 0) (b := 53) (c := 6) (d := 6) ⟨i27a, i27b⟩ ⟨by decide, by decide⟩ (by decide) (by decide)
            refine r_iinc 98 0 z71 C dX12_sixes_98 rfl ez71 [(5, .int z71), (4, .int z1), (0, .ref h0), (1, .int x0), (2, .int x1), (3, .int 1)] (by decide) rfl ?_
            refine r_goto 101 31 C dX12_sixes_101 (by decide) ?_
            refine r_pick [(h0, .inr (11, [.ref h4, .int x2, .ref h5, .int x3, .int x4, .int x5, .ref h6, .ref h7, .ref h8, .ref h9, .int x6, .int x7, .int x8, .ref h10, .ref h11, .ref h12, .ref h13, .int x9, .int x10, .int x11, .long y0, .int x12, .int x13, .long y1, .long y2, .ref h14, .ref h15, .ref h16, .ref h17, .long y3, .int x14, .ref h18, .int x15, .int x16, .int x17, .int x18, .ref h19, .ref h20, .ref h21, .ref h22, .ref h23, .ref h24, .ref h25, .ref h26, .ref h27, .ref h28, .ref h29, .int x19, .int x20, .int z47, .int z48, .int x23, .int x24, .int x25, .long y4, .int x26, .ref h1, .ref h2, .long z49, .long z50, .int z51, .ref h3, .int x28, .ref h30, .ref h31, .ref h32, .ref h33, .int x29, .int x30, .int x31, .int x32, .ref h34, .ref h35, .int x33, .int x34, .ref h36])), (h1, .inl (gI g, 400, .inl f52)), (h2, .inl (gJ g, 2400, .inr (.inl f53))), (h3, .inl (gJ g, 48, .inr (.inl fm1)))] [1, 2, 3, 0] (by decide) rfl ?_
            exact ih25 z71 z47 z48 z49 z50 z51 f52 f53 ⟨by omega, by omega⟩ ⟨p59, p60⟩ ⟨p61, p62⟩ ⟨p63, p64⟩ (by show ((Int32.toInt x1) - (Int32.toInt z71)) % 6 = 0 ∧ (Int32.toInt z71) ≤ (Int32.toInt x1) ∧ (Int32.toInt z48) ≤ (Int32.toInt x23); omega) (by show (Int32.toInt z47) = (Int32.toInt x21); omega) (by omega)
      exact lp24 _ x0 x21 x22 y5 y6 x27 fn0 fm0 (iv_wide (c := 0) (d := 53) i_x0 (by decide) (by decide)) i_x21 i_x22 i_x27 (by show ((Int32.toInt x1) - (Int32.toInt x0)) % 6 = 0 ∧ (Int32.toInt x0) ≤ (Int32.toInt x1) ∧ (Int32.toInt x22) ≤ (Int32.toInt x23); omega) (by show (Int32.toInt x21) = (Int32.toInt x21); omega) (Nat.lt_succ_self _)
    · skip
      have k72 : ¬ (6 ≤ (Int32.toInt z1)) := fun h_9 => c13 ((fa_le 6 z1).mpr h_9)
      refine r_aload_n 22 1 C dX12_sixes_22 rfl ?_
      refine r_iconst 23 2 C dX12_sixes_23 (by decide) ?_
      refine r_callVi 24 C dX12_sixes_24 [] [(h0, .inr (11, [.ref h4, .int x2, .ref h5, .int x3, .int x4, .int x5, .ref h6, .ref h7, .ref h8, .ref h9, .int x6, .int x7, .int x8, .ref h10, .ref h11, .ref h12, .ref h13, .int x9, .int x10, .int x11, .long y0, .int x12, .int x13, .long y1, .long y2, .ref h14, .ref h15, .ref h16, .ref h17, .long y3, .int x14, .ref h18, .int x15, .int x16, .int x17, .int x18, .ref h19, .ref h20, .ref h21, .ref h22, .ref h23, .ref h24, .ref h25, .ref h26, .ref h27, .ref h28, .ref h29, .int x19, .int x20, .int x21, .int x22, .int x23, .int x24, .int x25, .long y4, .int x26, .ref h1, .ref h2, .long y5, .long y6, .int x27, .ref h3, .int x28, .ref h30, .ref h31, .ref h32, .ref h33, .int x29, .int x30, .int x31, .int x32, .ref h34, .ref h35, .int x33, .int x34, .ref h36]))] [(h1, .inl (gI g, 400, .inl fn0)), (h2, .inl (gJ g, 2400, .inr (.inl fm0))), (h3, .inl (gJ g, 48, .inr (.inl fm1)))] (fun sz => c65_X12_stops l g h0 2 h4 x2 h5 x3 x4 x5 h6 h7 h8 h9 x6 x7 x8 h10 h11 h12 h13 x9 x10 x11 y0 x12 x13 y1 y2 h14 h15 h16 h17 y3 x14 h18 x15 x16 x17 x18 h19 h20 h21 h22 h23 h24 h25 h26 h27 h28 h29 x19 x20 x21 x22 x23 x24 x25 y4 x26 h1 h2 y5 y6 x27 h3 x28 h30 h31 h32 h33 x29 x30 x31 x32 h34 h35 x33 x34 h36 (by decide) i_x2 i_x3 i_x5 i_x8 i_x9 i_x12 i_x13 i_y1 i_y2 i_x14 i_x15 i_x16 i_x17 i_x18 i_x20 i_x21 i_x22 i_x23 i_x24 i_x26 i_x27 i_x28 i_x29 i_x30 i_x31 i_x32 i_x33 i_x34 sz) gX12_sixes_X12_stops rfl ⟨rfl, rfl⟩ 1 (by decide) ⟨Nat.le_of_ble_eq_true rfl, Nat.le_of_ble_eq_true rfl⟩ 0 rfl rfl [0] [1, 2, 3] rfl rfl (by decide) (by decide) (by decide) rfl rfl (Nat.le_of_ble_eq_true rfl) ⟨Nat.le_of_ble_eq_true rfl, Nat.le_of_ble_eq_true rfl⟩ (fun r74 z73 w75 => ?_)
      refine r_ws [(h1, .inl (gI g, 400, .inl fn0)), (h2, .inl (gJ g, 2400, .inr (.inl fm0))), (h3, .inl (gJ g, 48, .inr (.inl fm1))), (h0, .inr (11, [.ref h4, .int x2, .ref h5, .int x3, .int x4, .int x5, .ref h6, .ref h7, .ref h8, .ref h9, .int x6, .int x7, .int x8, .ref h10, .ref h11, .ref h12, .ref h13, .int x9, .int x10, .int x11, .long y0, .int x12, .int x13, .long y1, .long y2, .ref h14, .ref h15, .ref h16, .ref h17, .long y3, .int x14, .ref h18, .int x15, .int x16, .int x17, .int x18, .ref h19, .ref h20, .ref h21, .ref h22, .ref h23, .ref h24, .ref h25, .ref h26, .ref h27, .ref h28, .ref h29, .int x19, .int x20, .int z73, .int x22, .int x23, .int x24, .int x25, .long y4, .int x26, .ref h1, .ref h2, .long y5, .long y6, .int x27, .ref h3, .int x28, .ref h30, .ref h31, .ref h32, .ref h33, .int x29, .int x30, .int x31, .int x32, .ref h34, .ref h35, .int x33, .int x34, .ref h36]))] rfl ?_
      have p76 : 0 = r74 := (w75.1).symm
      subst p76
      have p77 : 0 ≤ (Int32.toInt z73) := w75.2.1
      have p78 : (Int32.toInt z73) ≤ 9 := w75.2.2.1
      have p79 : (1 ≤ (Int32.toInt z73)) := w75.2.2.2
      exact r_zret 27 Rt dX12_sixes_27 (by decide) (z73, x22, y5, y6, x27, fn0, fm0) (show 0 ≤ (Int32.toInt 0) ∧ (Int32.toInt 0) ≤ 1 ∧ 0 ≤ (Int32.toInt z73) ∧ (Int32.toInt z73) ≤ 9 ∧ 0 ≤ (Int32.toInt x22) ∧ (Int32.toInt x22) ≤ 400 ∧ 0 ≤ (Int32.toInt x27) ∧ (Int32.toInt x27) ≤ 1 ∧ ((Int32.toInt x22) ≤ (Int32.toInt x23)) ∧ ((0 = 0 ∧ 1 ≤ (Int32.toInt z73)) ∨ (0 = 1 ∧ (Int32.toInt z73) = (Int32.toInt x21))) from ⟨(by decide), (by decide), (show _ ∧ _ from ⟨p77, p78⟩).1, (show _ ∧ _ from ⟨p77, p78⟩).2, i_x22.1, i_x22.2, i_x27.1, i_x27.2, (by first | omega | ((repeat' apply And.intro) <;> first | trivial | rfl | assumption | omega | decide | exact Or.inl rfl | exact Or.inr (Or.inl rfl) | exact Or.inr (Or.inr rfl) | exact Or.inr (Or.inr (by assumption)))), (by first | omega | ((repeat' apply And.intro) <;> first | trivial | rfl | assumption | omega | decide | exact Or.inl rfl | exact Or.inr (Or.inl rfl) | exact Or.inr (Or.inr rfl) | exact Or.inr (Or.inr (by assumption))))⟩) [3, 0, 1, 2] (by decide) rfl (Nat.le_of_ble_eq_true rfl) (Nat.le_of_ble_eq_true rfl)
set_option maxHeartbeats 4000000 in
set_option maxRecDepth 100000 in
theorem c116_X12_straight (l : Launch) (g : GD) (h0 : Nat) (h1 : Nat) (h2 : Nat) (h3 : Nat) (x0 : Int32) (h4 : Nat) (x1 : Int32) (h5 : Nat) (x2 : Int32) (x3 : Int32) (x4 : Int32) (h6 : Nat) (h7 : Nat) (h8 : Nat) (h9 : Nat) (x5 : Int32) (x6 : Int32) (x7 : Int32) (h10 : Nat) (h11 : Nat) (h12 : Nat) (h13 : Nat) (x8 : Int32) (x9 : Int32) (x10 : Int32) (y0 : Int64) (x11 : Int32) (x12 : Int32) (y1 : Int64) (y2 : Int64) (h14 : Nat) (h15 : Nat) (h16 : Nat) (h17 : Nat) (y3 : Int64) (x13 : Int32) (h18 : Nat) (x14 : Int32) (x15 : Int32) (x16 : Int32) (x17 : Int32) (h19 : Nat) (h20 : Nat) (h21 : Nat) (h22 : Nat) (h23 : Nat) (h24 : Nat) (h25 : Nat) (h26 : Nat) (h27 : Nat) (h28 : Nat) (h29 : Nat) (x18 : Int32) (x19 : Int32) (x20 : Int32) (x21 : Int32) (x22 : Int32) (x23 : Int32) (x24 : Int32) (y4 : Int64) (x25 : Int32) (y5 : Int64) (y6 : Int64) (x26 : Int32) (x27 : Int32) (h30 : Nat) (h31 : Nat) (h32 : Nat) (h33 : Nat) (x28 : Int32) (x29 : Int32) (x30 : Int32) (x31 : Int32) (h34 : Nat) (h35 : Nat) (x32 : Int32) (x33 : Int32) (h36 : Nat) (fn0 : Nat → Int32) (fm0 : Nat → Int64) (fm1 : Nat → Int64) (i_x0 : (0 ≤ (Int32.toInt x0) ∧ (Int32.toInt x0) ≤ 1)) (i_x1 : (0 ≤ (Int32.toInt x1) ∧ (Int32.toInt x1) ≤ 1500)) (i_x2 : (0 ≤ (Int32.toInt x2) ∧ (Int32.toInt x2) ≤ 1508)) (i_x4 : (0 ≤ (Int32.toInt x4) ∧ (Int32.toInt x4) ≤ 0)) (i_x7 : (0 ≤ (Int32.toInt x7) ∧ (Int32.toInt x7) ≤ 3)) (i_x8 : (0 ≤ (Int32.toInt x8) ∧ (Int32.toInt x8) ≤ 4500)) (i_x11 : (0 ≤ (Int32.toInt x11) ∧ (Int32.toInt x11) ≤ 65535)) (i_x12 : (0 ≤ (Int32.toInt x12) ∧ (Int32.toInt x12) ≤ 255)) (i_y1 : (0 ≤ (Int64.toInt y1) ∧ (Int64.toInt y1) ≤ 1500)) (i_y2 : (0 ≤ (Int64.toInt y2) ∧ (Int64.toInt y2) ≤ 1500)) (i_x13 : (0 ≤ (Int32.toInt x13) ∧ (Int32.toInt x13) ≤ 1)) (i_x14 : (0 ≤ (Int32.toInt x14) ∧ (Int32.toInt x14) ≤ 1500)) (i_x15 : (0 ≤ (Int32.toInt x15) ∧ (Int32.toInt x15) ≤ 1501)) (i_x16 : (0 ≤ (Int32.toInt x16) ∧ (Int32.toInt x16) ≤ 1500)) (i_x17 : (0 ≤ (Int32.toInt x17) ∧ (Int32.toInt x17) ≤ 1500)) (i_x19 : (0 ≤ (Int32.toInt x19) ∧ (Int32.toInt x19) ≤ 1)) (i_x20 : (0 ≤ (Int32.toInt x20) ∧ (Int32.toInt x20) ≤ 9)) (i_x21 : (0 ≤ (Int32.toInt x21) ∧ (Int32.toInt x21) ≤ 400)) (i_x22 : (0 ≤ (Int32.toInt x22) ∧ (Int32.toInt x22) ≤ 400)) (i_x23 : (0 ≤ (Int32.toInt x23) ∧ (Int32.toInt x23) ≤ 3000)) (i_x25 : (0 ≤ (Int32.toInt x25) ∧ (Int32.toInt x25) ≤ 1)) (i_x26 : (0 ≤ (Int32.toInt x26) ∧ (Int32.toInt x26) ≤ 1)) (i_x27 : (0 ≤ (Int32.toInt x27) ∧ (Int32.toInt x27) ≤ 48)) (i_x28 : (0 ≤ (Int32.toInt x28) ∧ (Int32.toInt x28) ≤ 10)) (i_x29 : (0 ≤ (Int32.toInt x29) ∧ (Int32.toInt x29) ≤ 1)) (i_x30 : (0 ≤ (Int32.toInt x30) ∧ (Int32.toInt x30) ≤ 1)) (i_x31 : (0 ≤ (Int32.toInt x31) ∧ (Int32.toInt x31) ≤ 7)) (i_x32 : (0 ≤ (Int32.toInt x32) ∧ (Int32.toInt x32) ≤ 24)) (i_x33 : (0 ≤ (Int32.toInt x33) ∧ (Int32.toInt x33) ≤ 1)) (pre0 : ((Int32.toInt x21) ≤ (Int32.toInt x22))) (sz : Nat) : Met l yX12_straight wsX12_straight ({ frames := 3, cells := 0, slots := 0, locals := 74 }) (va_Pc [.ref h0, .int x0] (PW g [(h0, .inr (11, [.ref h4, .int x1, .ref h5, .int x2, .int x3, .int x4, .ref h6, .ref h7, .ref h8, .ref h9, .int x5, .int x6, .int x7, .ref h10, .ref h11, .ref h12, .ref h13, .int x8, .int x9, .int x10, .long y0, .int x11, .int x12, .long y1, .long y2, .ref h14, .ref h15, .ref h16, .ref h17, .long y3, .int x13, .ref h18, .int x14, .int x15, .int x16, .int x17, .ref h19, .ref h20, .ref h21, .ref h22, .ref h23, .ref h24, .ref h25, .ref h26, .ref h27, .ref h28, .ref h29, .int x18, .int x19, .int x20, .int x21, .int x22, .int x23, .int x24, .long y4, .int x25, .ref h1, .ref h2, .long y5, .long y6, .int x26, .ref h3, .int x27, .ref h30, .ref h31, .ref h32, .ref h33, .int x28, .int x29, .int x30, .int x31, .ref h34, .ref h35, .int x32, .int x33, .ref h36])), (h1, .inl (gI g, 400, .inl fn0)), (h2, .inl (gJ g, 2400, .inr (.inl fm0))), (h3, .inl (gJ g, 48, .inr (.inl fm1)))] sz)) (va_Qi (fun (r : Int32) (u : (Int32) × (Int32) × (Int64) × (Int64) × (Int32) × (Nat → Int32) × (Nat → Int64)) => 0 ≤ (Int32.toInt r) ∧ (Int32.toInt r) ≤ 1 ∧ 0 ≤ (Int32.toInt (u.1)) ∧ (Int32.toInt (u.1)) ≤ 9 ∧ 0 ≤ (Int32.toInt (u.2.1)) ∧ (Int32.toInt (u.2.1)) ≤ 400 ∧ 0 ≤ (Int32.toInt (u.2.2.2.2.1)) ∧ (Int32.toInt (u.2.2.2.2.1)) ≤ 1 ∧ ((Int32.toInt (u.2.1)) ≤ (Int32.toInt x22)) ∧ (((Int32.toInt r) = 0 ∧ 1 ≤ (Int32.toInt (u.1))) ∨ ((Int32.toInt r) = 1 ∧ (Int32.toInt (u.1)) = (Int32.toInt x20)))) (BW g (va_A [(h0, .inr (11, [.ref h4, .int x1, .ref h5, .int x2, .int x3, .int x4, .ref h6, .ref h7, .ref h8, .ref h9, .int x5, .int x6, .int x7, .ref h10, .ref h11, .ref h12, .ref h13, .int x8, .int x9, .int x10, .long y0, .int x11, .int x12, .long y1, .long y2, .ref h14, .ref h15, .ref h16, .ref h17, .long y3, .int x13, .ref h18, .int x14, .int x15, .int x16, .int x17, .ref h19, .ref h20, .ref h21, .ref h22, .ref h23, .ref h24, .ref h25, .ref h26, .ref h27, .ref h28, .ref h29, .int x18, .int x19, .int x20, .int x21, .int x22, .int x23, .int x24, .long y4, .int x25, .ref h1, .ref h2, .long y5, .long y6, .int x26, .ref h3, .int x27, .ref h30, .ref h31, .ref h32, .ref h33, .int x28, .int x29, .int x30, .int x31, .ref h34, .ref h35, .int x32, .int x33, .ref h36])), (h1, .inl (gI g, 400, .inl fn0)), (h2, .inl (gJ g, 2400, .inr (.inl fm0))), (h3, .inl (gJ g, 48, .inr (.inl fm1)))] sz) (fun u : (Int32) × (Int32) × (Int64) × (Int64) × (Int32) × (Nat → Int32) × (Nat → Int64) => [(h0, .inr (11, [.ref h4, .int x1, .ref h5, .int x2, .int x3, .int x4, .ref h6, .ref h7, .ref h8, .ref h9, .int x5, .int x6, .int x7, .ref h10, .ref h11, .ref h12, .ref h13, .int x8, .int x9, .int x10, .long y0, .int x11, .int x12, .long y1, .long y2, .ref h14, .ref h15, .ref h16, .ref h17, .long y3, .int x13, .ref h18, .int x14, .int x15, .int x16, .int x17, .ref h19, .ref h20, .ref h21, .ref h22, .ref h23, .ref h24, .ref h25, .ref h26, .ref h27, .ref h28, .ref h29, .int x18, .int x19, .int u.1, .int u.2.1, .int x22, .int x23, .int x24, .long y4, .int x25, .ref h1, .ref h2, .long u.2.2.1, .long u.2.2.2.1, .int u.2.2.2.2.1, .ref h3, .int x27, .ref h30, .ref h31, .ref h32, .ref h33, .int x28, .int x29, .int x30, .int x31, .ref h34, .ref h35, .int x32, .int x33, .ref h36])), (h1, .inl (gI g, 400, .inl u.2.2.2.2.2.1)), (h2, .inl (gJ g, 2400, .inr (.inl u.2.2.2.2.2.2))), (h3, .inl (gJ g, 48, .inr (.inl fm1)))])) (va_A [(h0, .inr (11, [.ref h4, .int x1, .ref h5, .int x2, .int x3, .int x4, .ref h6, .ref h7, .ref h8, .ref h9, .int x5, .int x6, .int x7, .ref h10, .ref h11, .ref h12, .ref h13, .int x8, .int x9, .int x10, .long y0, .int x11, .int x12, .long y1, .long y2, .ref h14, .ref h15, .ref h16, .ref h17, .long y3, .int x13, .ref h18, .int x14, .int x15, .int x16, .int x17, .ref h19, .ref h20, .ref h21, .ref h22, .ref h23, .ref h24, .ref h25, .ref h26, .ref h27, .ref h28, .ref h29, .int x18, .int x19, .int x20, .int x21, .int x22, .int x23, .int x24, .long y4, .int x25, .ref h1, .ref h2, .long y5, .long y6, .int x26, .ref h3, .int x27, .ref h30, .ref h31, .ref h32, .ref h33, .int x28, .int x29, .int x30, .int x31, .ref h34, .ref h35, .int x32, .int x33, .ref h36])), (h1, .inl (gI g, 400, .inl fn0)), (h2, .inl (gJ g, 2400, .inr (.inl fm0))), (h3, .inl (gJ g, 48, .inr (.inl fm1)))] sz)) 0 0 (va_A [(h0, .inr (11, [.ref h4, .int x1, .ref h5, .int x2, .int x3, .int x4, .ref h6, .ref h7, .ref h8, .ref h9, .int x5, .int x6, .int x7, .ref h10, .ref h11, .ref h12, .ref h13, .int x8, .int x9, .int x10, .long y0, .int x11, .int x12, .long y1, .long y2, .ref h14, .ref h15, .ref h16, .ref h17, .long y3, .int x13, .ref h18, .int x14, .int x15, .int x16, .int x17, .ref h19, .ref h20, .ref h21, .ref h22, .ref h23, .ref h24, .ref h25, .ref h26, .ref h27, .ref h28, .ref h29, .int x18, .int x19, .int x20, .int x21, .int x22, .int x23, .int x24, .long y4, .int x25, .ref h1, .ref h2, .long y5, .long y6, .int x26, .ref h3, .int x27, .ref h30, .ref h31, .ref h32, .ref h33, .int x28, .int x29, .int x30, .int x31, .ref h34, .ref h35, .int x32, .int x33, .ref h36])), (h1, .inl (gI g, 400, .inl fn0)), (h2, .inl (gJ g, 2400, .inr (.inl fm0))), (h3, .inl (gJ g, 48, .inr (.inl fm1)))] sz) := by
  refine met_z RX12 (by decide) rfl rfl (Nat.le_of_ble_eq_true rfl) [(0, .ref h0), (1, .int x0)] rfl ?_
  intro p e s m args below meth c A Q C hnm Rt
  have hiX12 : ∀ w ∈ wsX120, w ∈ wsX12_straight := fun w h => List.mem_cons_of_mem _ (List.mem_append_right _ (h))
  refine r_aload_n 0 0 C dX12_straight_0 rfl ?_
  refine r_get 1 C dX12_straight_1 (k := 62) 0 rfl rfl hiX12 (by decide) rfl (mg 1 rfl) (Or.inl rfl) rfl ?_
  refine r_iconst 4 4 C dX12_straight_4 (by decide) ?_
  obtain ⟨z1, ez1⟩ : ∃ z_9, x27 - x27 / 4 * 4 = z_9 := ⟨_, rfl⟩
  have tz1 : (Int32.toInt z1) = (Int32.toInt x27) % 4 := by rw [← ez1]; exact rem_nn (by omega) (n := 4) (by decide) (by decide)
  refine r_irem 5 z1 C dX12_straight_5 (by decide) ez1 ?_
  refine r_istore_n 6 C dX12_straight_6 [(2, .int z1), (0, .ref h0), (1, .int x0)] (by decide) rfl ?_
  refine r_aload_n 7 1 C dX12_straight_7 rfl ?_
  refine r_get 8 C dX12_straight_8 (k := 62) 0 rfl rfl hiX12 (by decide) rfl (mg 1 rfl) (Or.inl rfl) rfl ?_
  refine r_iconst 11 4 C dX12_straight_11 (by decide) ?_
  refine r_icmp_lt 12 20 C dX12_straight_12 (by decide) (fun c2 => ?_) (fun c2 => ?_)
  · skip
    have k3 : (Int32.toInt x27) < 4 := (fa_lt x27 4).mp c2
    refine r_aload_n 20 1 C dX12_straight_20 rfl ?_
    refine r_iconst 21 2 C dX12_straight_21 (by decide) ?_
    refine r_callVi 22 C dX12_straight_22 [] [(h0, .inr (11, [.ref h4, .int x1, .ref h5, .int x2, .int x3, .int x4, .ref h6, .ref h7, .ref h8, .ref h9, .int x5, .int x6, .int x7, .ref h10, .ref h11, .ref h12, .ref h13, .int x8, .int x9, .int x10, .long y0, .int x11, .int x12, .long y1, .long y2, .ref h14, .ref h15, .ref h16, .ref h17, .long y3, .int x13, .ref h18, .int x14, .int x15, .int x16, .int x17, .ref h19, .ref h20, .ref h21, .ref h22, .ref h23, .ref h24, .ref h25, .ref h26, .ref h27, .ref h28, .ref h29, .int x18, .int x19, .int x20, .int x21, .int x22, .int x23, .int x24, .long y4, .int x25, .ref h1, .ref h2, .long y5, .long y6, .int x26, .ref h3, .int x27, .ref h30, .ref h31, .ref h32, .ref h33, .int x28, .int x29, .int x30, .int x31, .ref h34, .ref h35, .int x32, .int x33, .ref h36]))] [(h1, .inl (gI g, 400, .inl fn0)), (h2, .inl (gJ g, 2400, .inr (.inl fm0))), (h3, .inl (gJ g, 48, .inr (.inl fm1)))] (fun sz => c65_X12_stops l g h0 2 h4 x1 h5 x2 x3 x4 h6 h7 h8 h9 x5 x6 x7 h10 h11 h12 h13 x8 x9 x10 y0 x11 x12 y1 y2 h14 h15 h16 h17 y3 x13 h18 x14 x15 x16 x17 h19 h20 h21 h22 h23 h24 h25 h26 h27 h28 h29 x18 x19 x20 x21 x22 x23 x24 y4 x25 h1 h2 y5 y6 x26 h3 x27 h30 h31 h32 h33 x28 x29 x30 x31 h34 h35 x32 x33 h36 (by decide) i_x1 i_x2 i_x4 i_x7 i_x8 i_x11 i_x12 i_y1 i_y2 i_x13 i_x14 i_x15 i_x16 i_x17 i_x19 i_x20 i_x21 i_x22 i_x23 i_x25 i_x26 i_x27 i_x28 i_x29 i_x30 i_x31 i_x32 i_x33 sz) gX12_straight_X12_stops rfl ⟨rfl, rfl⟩ 1 (by decide) ⟨Nat.le_of_ble_eq_true rfl, Nat.le_of_ble_eq_true rfl⟩ 0 rfl rfl [0] [1, 2, 3] rfl rfl (by decide) (by decide) (by decide) rfl rfl (Nat.le_of_ble_eq_true rfl) ⟨Nat.le_of_ble_eq_true rfl, Nat.le_of_ble_eq_true rfl⟩ (fun r5 z4 w6 => ?_)
    refine r_ws [(h1, .inl (gI g, 400, .inl fn0)), (h2, .inl (gJ g, 2400, .inr (.inl fm0))), (h3, .inl (gJ g, 48, .inr (.inl fm1))), (h0, .inr (11, [.ref h4, .int x1, .ref h5, .int x2, .int x3, .int x4, .ref h6, .ref h7, .ref h8, .ref h9, .int x5, .int x6, .int x7, .ref h10, .ref h11, .ref h12, .ref h13, .int x8, .int x9, .int x10, .long y0, .int x11, .int x12, .long y1, .long y2, .ref h14, .ref h15, .ref h16, .ref h17, .long y3, .int x13, .ref h18, .int x14, .int x15, .int x16, .int x17, .ref h19, .ref h20, .ref h21, .ref h22, .ref h23, .ref h24, .ref h25, .ref h26, .ref h27, .ref h28, .ref h29, .int x18, .int x19, .int z4, .int x21, .int x22, .int x23, .int x24, .long y4, .int x25, .ref h1, .ref h2, .long y5, .long y6, .int x26, .ref h3, .int x27, .ref h30, .ref h31, .ref h32, .ref h33, .int x28, .int x29, .int x30, .int x31, .ref h34, .ref h35, .int x32, .int x33, .ref h36]))] rfl ?_
    have p7 : 0 = r5 := (w6.1).symm
    subst p7
    have p8 : 0 ≤ (Int32.toInt z4) := w6.2.1
    have p9 : (Int32.toInt z4) ≤ 9 := w6.2.2.1
    have p10 : (1 ≤ (Int32.toInt z4)) := w6.2.2.2
    exact r_zret 25 Rt dX12_straight_25 (by decide) (z4, x21, y5, y6, x26, fn0, fm0) (show 0 ≤ (Int32.toInt 0) ∧ (Int32.toInt 0) ≤ 1 ∧ 0 ≤ (Int32.toInt z4) ∧ (Int32.toInt z4) ≤ 9 ∧ 0 ≤ (Int32.toInt x21) ∧ (Int32.toInt x21) ≤ 400 ∧ 0 ≤ (Int32.toInt x26) ∧ (Int32.toInt x26) ≤ 1 ∧ ((Int32.toInt x21) ≤ (Int32.toInt x22)) ∧ ((0 = 0 ∧ 1 ≤ (Int32.toInt z4)) ∨ (0 = 1 ∧ (Int32.toInt z4) = (Int32.toInt x20))) from ⟨(by decide), (by decide), (show _ ∧ _ from ⟨p8, p9⟩).1, (show _ ∧ _ from ⟨p8, p9⟩).2, i_x21.1, i_x21.2, i_x26.1, i_x26.2, (by first | omega | ((repeat' apply And.intro) <;> first | trivial | rfl | assumption | omega | decide | exact Or.inl rfl | exact Or.inr (Or.inl rfl) | exact Or.inr (Or.inr rfl) | exact Or.inr (Or.inr (by assumption)))), (by first | omega | ((repeat' apply And.intro) <;> first | trivial | rfl | assumption | omega | decide | exact Or.inl rfl | exact Or.inr (Or.inl rfl) | exact Or.inr (Or.inr rfl) | exact Or.inr (Or.inr (by assumption))))⟩) [3, 0, 1, 2] (by decide) rfl (Nat.le_of_ble_eq_true rfl) (Nat.le_of_ble_eq_true rfl)
  · skip
    have k11 : ¬ ((Int32.toInt x27) < 4) := fun h_9 => c2 ((fa_lt x27 4).mpr h_9)
    refine r_iload_n 15 0 C dX12_straight_15 rfl ?_
    refine r_iconst 16 1 C dX12_straight_16 (by decide) ?_
    refine r_icmp_le 17 26 C dX12_straight_17 (by decide) (fun c12 => ?_) (fun c12 => ?_)
    · skip
      have k13 : (Int32.toInt z1) ≤ 1 := (fa_le z1 1).mp c12
      refine r_iload_n 26 0 C dX12_straight_26 rfl ?_
      refine r_istore_n 27 C dX12_straight_27 [(3, .int z1), (2, .int z1), (0, .ref h0), (1, .int x0)] (by decide) rfl ?_
      have lp23 : ∀ (n22 : Nat) (z14 : Int32) (z15 : Int32) (z16 : Int32) (z17 : Int64) (z18 : Int64) (z19 : Int32) (f20 : Nat → Int32) (f21 : Nat → Int64), (0 ≤ (Int32.toInt z14) ∧ (Int32.toInt z14) ≤ 51) → (0 ≤ (Int32.toInt z15) ∧ (Int32.toInt z15) ≤ 9) → (0 ≤ (Int32.toInt z16) ∧ (Int32.toInt z16) ≤ 400) → (0 ≤ (Int32.toInt z19) ∧ (Int32.toInt z19) ≤ 1) → (((Int32.toInt x27) - (Int32.toInt z14)) % 4 = 0 ∧ (Int32.toInt z14) ≤ (Int32.toInt x27) ∧ (Int32.toInt z16) ≤ (Int32.toInt x22)) → ((Int32.toInt z15) = (Int32.toInt x20)) → Int.toNat (51 - (Int32.toInt z14)) < n22 → WW p l e ({ frames := 3, cells := 0, slots := 0, locals := 74 } : Room) s m args below meth c A Q g 6 0 0 [(h0, .inr (11, [.ref h4, .int x1, .ref h5, .int x2, .int x3, .int x4, .ref h6, .ref h7, .ref h8, .ref h9, .int x5, .int x6, .int x7, .ref h10, .ref h11, .ref h12, .ref h13, .int x8, .int x9, .int x10, .long y0, .int x11, .int x12, .long y1, .long y2, .ref h14, .ref h15, .ref h16, .ref h17, .long y3, .int x13, .ref h18, .int x14, .int x15, .int x16, .int x17, .ref h19, .ref h20, .ref h21, .ref h22, .ref h23, .ref h24, .ref h25, .ref h26, .ref h27, .ref h28, .ref h29, .int x18, .int x19, .int z15, .int z16, .int x22, .int x23, .int x24, .long y4, .int x25, .ref h1, .ref h2, .long z17, .long z18, .int z19, .ref h3, .int x27, .ref h30, .ref h31, .ref h32, .ref h33, .int x28, .int x29, .int x30, .int x31, .ref h34, .ref h35, .int x32, .int x33, .ref h36])), (h1, .inl (gI g, 400, .inl f20)), (h2, .inl (gJ g, 2400, .inr (.inl f21))), (h3, .inl (gJ g, 48, .inr (.inl fm1)))] 28 [(3, .int z14), (2, .int z1), (0, .ref h0), (1, .int x0)] [] := by
        intro n22
        induction n22 with
        | zero => intro z14 z15 z16 z17 z18 z19 f20 f21 i26 i27 i28 i29 j30 j31 hm25; exact absurd hm25 (Nat.not_lt_zero _)
        | succ n22 ih24 =>
          intro z14 z15 z16 z17 z18 z19 f20 f21 i26 i27 i28 i29 j30 j31 hm25
          obtain ⟨i26a, i26b⟩ := i26
          obtain ⟨i27a, i27b⟩ := i27
          obtain ⟨i28a, i28b⟩ := i28
          obtain ⟨i29a, i29b⟩ := i29
          have gz17 := fb_rngL z17
          have gz18 := fb_rngL z18
          refine r_iload_n 28 0 C dX12_straight_28 rfl ?_
          refine r_aload_n 29 2 C dX12_straight_29 rfl ?_
          refine r_get 30 C dX12_straight_30 (k := 62) 0 rfl rfl hiX12 (by decide) rfl (mg 1 rfl) (Or.inl rfl) rfl ?_
          refine r_icmp_ge 33 148 C dX12_straight_33 (by decide) (fun c32 => ?_) (fun c32 => ?_)
          · skip
            have k33 : (Int32.toInt x27) ≤ (Int32.toInt z14) := (fa_le x27 z14).mp c32
            refine r_iconst 148 1 C dX12_straight_148 (by decide) ?_
            exact r_zret 149 Rt dX12_straight_149 (by decide) (z15, z16, z17, z18, z19, f20, f21) (show 0 ≤ (Int32.toInt 1) ∧ (Int32.toInt 1) ≤ 1 ∧ 0 ≤ (Int32.toInt z15) ∧ (Int32.toInt z15) ≤ 9 ∧ 0 ≤ (Int32.toInt z16) ∧ (Int32.toInt z16) ≤ 400 ∧ 0 ≤ (Int32.toInt z19) ∧ (Int32.toInt z19) ≤ 1 ∧ ((Int32.toInt z16) ≤ (Int32.toInt x22)) ∧ ((1 = 0 ∧ 1 ≤ (Int32.toInt z15)) ∨ (1 = 1 ∧ (Int32.toInt z15) = (Int32.toInt x20))) from ⟨(by decide), (by decide), (show _ ∧ _ from ⟨i27a, i27b⟩).1, (show _ ∧ _ from ⟨i27a, i27b⟩).2, (show _ ∧ _ from ⟨i28a, i28b⟩).1, (show _ ∧ _ from ⟨i28a, i28b⟩).2, (show _ ∧ _ from ⟨i29a, i29b⟩).1, (show _ ∧ _ from ⟨i29a, i29b⟩).2, (by first | omega | ((repeat' apply And.intro) <;> first | trivial | rfl | assumption | omega | decide | exact Or.inl rfl | exact Or.inr (Or.inl rfl) | exact Or.inr (Or.inr rfl) | exact Or.inr (Or.inr (by assumption)))), (by first | omega | ((repeat' apply And.intro) <;> first | trivial | rfl | assumption | omega | decide | exact Or.inl rfl | exact Or.inr (Or.inl rfl) | exact Or.inr (Or.inr rfl) | exact Or.inr (Or.inr (by assumption))))⟩) [0, 1, 2, 3] (by decide) rfl (Nat.le_of_ble_eq_true rfl) (Nat.le_of_ble_eq_true rfl)
          · skip
            have k34 : ¬ ((Int32.toInt x27) ≤ (Int32.toInt z14)) := fun h_9 => c32 ((fa_le x27 z14).mpr h_9)
            refine r_iload_n 36 0 C dX12_straight_36 rfl ?_
            refine r_iconst 37 1 C dX12_straight_37 (by decide) ?_
            refine r_icmp_ne 38 50 C dX12_straight_38 (by decide) (fun c35 => ?_) (fun c35 => ?_)
            · skip
              have k36 : ¬ ((Int32.toInt z14) = 1) := fun h_9 => c35 ((fa_eq z14 1).mpr h_9)
              refine r_lconst 50 0 C dX12_straight_50 (by decide) ?_
              refine r_lstore 51 C dX12_straight_51 [(4, .long 0), (3, .int z14), (2, .int z1), (0, .ref h0), (1, .int x0)] (by decide) rfl ?_
              refine r_iload_n 53 4 C dX12_straight_53 rfl ?_
              refine r_if_eq 54 100 C dX12_straight_54 (by decide) (fun c37 => ?_) (fun c37 => ?_)
              · skip
                have k38 : (Int32.toInt x0) = 0 := (fa_eq x0 0).mp c37
                refine r_aload_n 100 3 C dX12_straight_100 rfl ?_
                refine r_aload_n 101 3 C dX12_straight_101 rfl ?_
                refine r_get 102 C dX12_straight_102 (k := 61) 0 rfl rfl hiX12 (by decide) rfl (mg 2 rfl) (Or.inl rfl) rfl ?_
                refine r_iload_n 105 1 C dX12_straight_105 rfl ?_
                obtain ⟨z39, ez39⟩ : ∃ z_9, fm1 (Int32.toNatClampNeg z14) = z_9 := ⟨_, rfl⟩
                refine r_lald 106 z39 C dX12_straight_106 3 rfl (vinI (by omega) (by omega)) ez39 ?_
                have gz39 := fb_rngL z39
                refine r_lload 107 0 C dX12_straight_107 rfl ?_
                refine r_aload_n 109 3 C dX12_straight_109 rfl ?_
                refine r_get 110 C dX12_straight_110 (k := 61) 0 rfl rfl hiX12 (by decide) rfl (mg 2 rfl) (Or.inl rfl) rfl ?_
                refine r_iload_n 113 1 C dX12_straight_113 rfl ?_
                refine r_iconst 114 1 C dX12_straight_114 (by decide) ?_
                obtain ⟨z40, ez40⟩ : ∃ z_9, z14 + 1 = z_9 := ⟨_, rfl⟩
                have tz40 : (Int32.toInt z40) = (Int32.toInt z14) + 1 := by rw [← ez40]; exact fb_addIv (a := 0) (b := 51) (c := 1) (d := 1) ⟨i26a, i26b⟩ ⟨by decide, by decide⟩ (by decide) (by decide)
                refine r_iadd 115 z40 C dX12_straight_115 ez40 ?_
                obtain ⟨z41, ez41⟩ : ∃ z_9, fm1 (Int32.toNatClampNeg z40) = z_9 := ⟨_, rfl⟩
                refine r_lald 116 z41 C dX12_straight_116 3 rfl (vinI (by omega) (by omega)) ez41 ?_
                have gz41 := fb_rngL z41
                refine r_aload_n 117 3 C dX12_straight_117 rfl ?_
                refine r_get 118 C dX12_straight_118 (k := 61) 0 rfl rfl hiX12 (by decide) rfl (mg 2 rfl) (Or.inl rfl) rfl ?_
                refine r_iload_n 121 1 C dX12_straight_121 rfl ?_
                refine r_iconst 122 2 C dX12_straight_122 (by decide) ?_
                obtain ⟨z42, ez42⟩ : ∃ z_9, z14 + 2 = z_9 := ⟨_, rfl⟩
                have tz42 : (Int32.toInt z42) = (Int32.toInt z14) + 2 := by rw [← ez42]; exact fb_addIv (a := 0) (b := 51) (c := 2) (d := 2) ⟨i26a, i26b⟩ ⟨by decide, by decide⟩ (by decide) (by decide)
                refine r_iadd 123 z42 C dX12_straight_123 ez42 ?_
                obtain ⟨z43, ez43⟩ : ∃ z_9, fm1 (Int32.toNatClampNeg z42) = z_9 := ⟨_, rfl⟩
                refine r_lald 124 z43 C dX12_straight_124 3 rfl (vinI (by omega) (by omega)) ez43 ?_
                have gz43 := fb_rngL z43
                refine r_aload_n 125 3 C dX12_straight_125 rfl ?_
                refine r_get 126 C dX12_straight_126 (k := 61) 0 rfl rfl hiX12 (by decide) rfl (mg 2 rfl) (Or.inl rfl) rfl ?_
                refine r_iload_n 129 1 C dX12_straight_129 rfl ?_
                refine r_iconst 130 3 C dX12_straight_130 (by decide) ?_
                obtain ⟨z44, ez44⟩ : ∃ z_9, z14 + 3 = z_9 := ⟨_, rfl⟩
                have tz44 : (Int32.toInt z44) = (Int32.toInt z14) + 3 := by rw [← ez44]; exact fb_addIv (a := 0) (b := 51) (c := 3) (d := 3) ⟨i26a, i26b⟩ ⟨by decide, by decide⟩ (by decide) (by decide)
                refine r_iadd 131 z44 C dX12_straight_131 ez44 ?_
                obtain ⟨z45, ez45⟩ : ∃ z_9, fm1 (Int32.toNatClampNeg z44) = z_9 := ⟨_, rfl⟩
                refine r_lald 132 z45 C dX12_straight_132 3 rfl (vinI (by omega) (by omega)) ez45 ?_
                have gz45 := fb_rngL z45
                refine r_lconst 133 0 C dX12_straight_133 (by decide) ?_
                refine r_callVi 134 C dX12_straight_134 [] [(h0, .inr (11, [.ref h4, .int x1, .ref h5, .int x2, .int x3, .int x4, .ref h6, .ref h7, .ref h8, .ref h9, .int x5, .int x6, .int x7, .ref h10, .ref h11, .ref h12, .ref h13, .int x8, .int x9, .int x10, .long y0, .int x11, .int x12, .long y1, .long y2, .ref h14, .ref h15, .ref h16, .ref h17, .long y3, .int x13, .ref h18, .int x14, .int x15, .int x16, .int x17, .ref h19, .ref h20, .ref h21, .ref h22, .ref h23, .ref h24, .ref h25, .ref h26, .ref h27, .ref h28, .ref h29, .int x18, .int x19, .int z15, .int z16, .int x22, .int x23, .int x24, .long y4, .int x25, .ref h1, .ref h2, .long z17, .long z18, .int z19, .ref h3, .int x27, .ref h30, .ref h31, .ref h32, .ref h33, .int x28, .int x29, .int x30, .int x31, .ref h34, .ref h35, .int x32, .int x33, .ref h36])), (h1, .inl (gI g, 400, .inl f20)), (h2, .inl (gJ g, 2400, .inr (.inl f21)))] [(h3, .inl (gJ g, 48, .inr (.inl fm1)))] (fun sz => c114_X12_curve l g h0 h1 h2 z39 0 z41 z43 z45 0 h4 x1 h5 x2 x3 x4 h6 h7 h8 h9 x5 x6 x7 h10 h11 h12 h13 x8 x9 x10 y0 x11 x12 y1 y2 h14 h15 h16 h17 y3 x13 h18 x14 x15 x16 x17 h19 h20 h21 h22 h23 h24 h25 h26 h27 h28 h29 x18 x19 z15 z16 x22 x23 x24 y4 x25 z17 z18 z19 h3 x27 h30 h31 h32 h33 x28 x29 x30 x31 h34 h35 x32 x33 h36 f20 f21 i_x1 i_x2 i_x4 i_x7 i_x8 i_x11 i_x12 i_y1 i_y2 i_x13 i_x14 i_x15 i_x16 i_x17 i_x19 ⟨i27a, i27b⟩ ⟨i28a, i28b⟩ i_x22 i_x23 i_x25 ⟨i29a, i29b⟩ i_x27 i_x28 i_x29 i_x30 i_x31 i_x32 i_x33 (by show ((Int32.toInt z16) ≤ (Int32.toInt x22)); first | assumption | omega) sz) gX12_straight_X12_curve rfl ⟨rfl, rfl⟩ 6 (by decide) ⟨Nat.le_of_ble_eq_true rfl, Nat.le_of_ble_eq_true rfl⟩ 0 rfl rfl [0, 1, 2] [3] rfl rfl (by decide) (by decide) (by decide) rfl rfl (Nat.le_of_ble_eq_true rfl) ⟨Nat.le_of_ble_eq_true rfl, Nat.le_of_ble_eq_true rfl⟩ (fun r53 u55 w54 => ?_)
                obtain ⟨z46, z47, z48, z49, z50, f51, f52⟩ := u55
                refine r_ws [(h3, .inl (gJ g, 48, .inr (.inl fm1))), (h0, .inr (11, [.ref h4, .int x1, .ref h5, .int x2, .int x3, .int x4, .ref h6, .ref h7, .ref h8, .ref h9, .int x5, .int x6, .int x7, .ref h10, .ref h11, .ref h12, .ref h13, .int x8, .int x9, .int x10, .long y0, .int x11, .int x12, .long y1, .long y2, .ref h14, .ref h15, .ref h16, .ref h17, .long y3, .int x13, .ref h18, .int x14, .int x15, .int x16, .int x17, .ref h19, .ref h20, .ref h21, .ref h22, .ref h23, .ref h24, .ref h25, .ref h26, .ref h27, .ref h28, .ref h29, .int x18, .int x19, .int z46, .int z47, .int x22, .int x23, .int x24, .long y4, .int x25, .ref h1, .ref h2, .long z48, .long z49, .int z50, .ref h3, .int x27, .ref h30, .ref h31, .ref h32, .ref h33, .int x28, .int x29, .int x30, .int x31, .ref h34, .ref h35, .int x32, .int x33, .ref h36])), (h1, .inl (gI g, 400, .inl f51)), (h2, .inl (gJ g, 2400, .inr (.inl f52)))] rfl ?_
                have gz48 := fb_rngL z48
                have gz49 := fb_rngL z49
                have p56 : 0 ≤ (Int32.toInt r53) := w54.1
                have p57 : (Int32.toInt r53) ≤ 1 := w54.2.1
                have p58 : 0 ≤ (Int32.toInt z46) := w54.2.2.1
                have p59 : (Int32.toInt z46) ≤ 9 := w54.2.2.2.1
                have p60 : 0 ≤ (Int32.toInt z47) := w54.2.2.2.2.1
                have p61 : (Int32.toInt z47) ≤ 400 := w54.2.2.2.2.2.1
                have p62 : 0 ≤ (Int32.toInt z50) := w54.2.2.2.2.2.2.1
                have p63 : (Int32.toInt z50) ≤ 1 := w54.2.2.2.2.2.2.2.1
                have p64 : ((Int32.toInt z47) ≤ (Int32.toInt x22)) := w54.2.2.2.2.2.2.2.2.1
                have p65 : (((Int32.toInt r53) = 0 ∧ 1 ≤ (Int32.toInt z46)) ∨ ((Int32.toInt r53) = 1 ∧ (Int32.toInt z46) = (Int32.toInt z15))) := w54.2.2.2.2.2.2.2.2.2
                rcases p65 with ⟨k66, k67⟩ | p65
                · skip
                  refine r_if_ne_f 137 142 C dX12_straight_137 (by decide) ((fa_eq r53 0).mpr (by show (Int32.toInt r53) = 0; omega)) ?_
                  refine r_iconst 140 0 C dX12_straight_140 (by decide) ?_
                  exact r_zret 141 Rt dX12_straight_141 (by decide) (z46, z47, z48, z49, z50, f51, f52) (show 0 ≤ (Int32.toInt 0) ∧ (Int32.toInt 0) ≤ 1 ∧ 0 ≤ (Int32.toInt z46) ∧ (Int32.toInt z46) ≤ 9 ∧ 0 ≤ (Int32.toInt z47) ∧ (Int32.toInt z47) ≤ 400 ∧ 0 ≤ (Int32.toInt z50) ∧ (Int32.toInt z50) ≤ 1 ∧ ((Int32.toInt z47) ≤ (Int32.toInt x22)) ∧ ((0 = 0 ∧ 1 ≤ (Int32.toInt z46)) ∨ (0 = 1 ∧ (Int32.toInt z46) = (Int32.toInt x20))) from ⟨(by decide), (by decide), (show _ ∧ _ from ⟨p58, p59⟩).1, (show _ ∧ _ from ⟨p58, p59⟩).2, (show _ ∧ _ from ⟨p60, p61⟩).1, (show _ ∧ _ from ⟨p60, p61⟩).2, (show _ ∧ _ from ⟨p62, p63⟩).1, (show _ ∧ _ from ⟨p62, p63⟩).2, (by first | omega | ((repeat' apply And.intro) <;> first | trivial | rfl | assumption | omega | decide | exact Or.inl rfl | exact Or.inr (Or.inl rfl) | exact Or.inr (Or.inr rfl) | exact Or.inr (Or.inr (by assumption)))), (by first | omega | ((repeat' apply And.intro) <;> first | trivial | rfl | assumption | omega | decide | exact Or.inl rfl | exact Or.inr (Or.inl rfl) | exact Or.inr (Or.inr rfl) | exact Or.inr (Or.inr (by assumption))))⟩) [1, 2, 3, 0] (by decide) rfl (Nat.le_of_ble_eq_true rfl) (Nat.le_of_ble_eq_true rfl)
                obtain ⟨k68, k69⟩ := p65
                refine r_if_ne_t 137 142 C dX12_straight_137 (by decide) (fun h_9 => by have h_8 : (Int32.toInt r53) = 0 := (fa_eq r53 0).mp h_9; omega) ?_
                obtain ⟨z70, ez70⟩ : ∃ z_9, z14 + Int32.ofInt 4 = z_9 := ⟨_, rfl⟩
                have tz70 : (Int32.toInt z70) = (Int32.toInt z14) + 4 := by rw [← ez70]; exact fb_addIv (a := 0) (b := 51) (c := 4) (d := 4) ⟨i26a, i26b⟩ ⟨by decide, by decide⟩ (by decide) (by decide)
                refine r_iinc 142 1 z70 C dX12_straight_142 rfl ez70 [(3, .int z70), (4, .long 0), (2, .int z1), (0, .ref h0), (1, .int x0)] (by decide) rfl ?_
                refine r_goto 145 28 C dX12_straight_145 (by decide) ?_
                refine r_lv [(3, .int z70), (2, .int z1), (0, .ref h0), (1, .int x0)] [0, 2, 3, 4] rfl ?_
                refine r_pick [(h0, .inr (11, [.ref h4, .int x1, .ref h5, .int x2, .int x3, .int x4, .ref h6, .ref h7, .ref h8, .ref h9, .int x5, .int x6, .int x7, .ref h10, .ref h11, .ref h12, .ref h13, .int x8, .int x9, .int x10, .long y0, .int x11, .int x12, .long y1, .long y2, .ref h14, .ref h15, .ref h16, .ref h17, .long y3, .int x13, .ref h18, .int x14, .int x15, .int x16, .int x17, .ref h19, .ref h20, .ref h21, .ref h22, .ref h23, .ref h24, .ref h25, .ref h26, .ref h27, .ref h28, .ref h29, .int x18, .int x19, .int z46, .int z47, .int x22, .int x23, .int x24, .long y4, .int x25, .ref h1, .ref h2, .long z48, .long z49, .int z50, .ref h3, .int x27, .ref h30, .ref h31, .ref h32, .ref h33, .int x28, .int x29, .int x30, .int x31, .ref h34, .ref h35, .int x32, .int x33, .ref h36])), (h1, .inl (gI g, 400, .inl f51)), (h2, .inl (gJ g, 2400, .inr (.inl f52))), (h3, .inl (gJ g, 48, .inr (.inl fm1)))] [1, 2, 3, 0] (by decide) rfl ?_
                exact ih24 z70 z46 z47 z48 z49 z50 f51 f52 ⟨by omega, by omega⟩ ⟨p58, p59⟩ ⟨p60, p61⟩ ⟨p62, p63⟩ (by show ((Int32.toInt x27) - (Int32.toInt z70)) % 4 = 0 ∧ (Int32.toInt z70) ≤ (Int32.toInt x27) ∧ (Int32.toInt z47) ≤ (Int32.toInt x22); omega) (by show (Int32.toInt z46) = (Int32.toInt x20); omega) (by omega)
              · skip
                have k71 : ¬ ((Int32.toInt x0) = 0) := fun h_9 => c37 ((fa_eq x0 0).mpr h_9)
                refine r_aload_n 57 3 C dX12_straight_57 rfl ?_
                refine r_lload 58 0 C dX12_straight_58 rfl ?_
                refine r_aload_n 60 3 C dX12_straight_60 rfl ?_
                refine r_get 61 C dX12_straight_61 (k := 61) 0 rfl rfl hiX12 (by decide) rfl (mg 2 rfl) (Or.inl rfl) rfl ?_
                refine r_iload_n 64 1 C dX12_straight_64 rfl ?_
                obtain ⟨z72, ez72⟩ : ∃ z_9, fm1 (Int32.toNatClampNeg z14) = z_9 := ⟨_, rfl⟩
                refine r_lald 65 z72 C dX12_straight_65 3 rfl (vinI (by omega) (by omega)) ez72 ?_
                have gz72 := fb_rngL z72
                refine r_aload_n 66 3 C dX12_straight_66 rfl ?_
                refine r_get 67 C dX12_straight_67 (k := 61) 0 rfl rfl hiX12 (by decide) rfl (mg 2 rfl) (Or.inl rfl) rfl ?_
                refine r_iload_n 70 1 C dX12_straight_70 rfl ?_
                refine r_iconst 71 1 C dX12_straight_71 (by decide) ?_
                obtain ⟨z73, ez73⟩ : ∃ z_9, z14 + 1 = z_9 := ⟨_, rfl⟩
                have tz73 : (Int32.toInt z73) = (Int32.toInt z14) + 1 := by rw [← ez73]; exact fb_addIv (a := 0) (b := 51) (c := 1) (d := 1) ⟨i26a, i26b⟩ ⟨by decide, by decide⟩ (by decide) (by decide)
                refine r_iadd 72 z73 C dX12_straight_72 ez73 ?_
                obtain ⟨z74, ez74⟩ : ∃ z_9, fm1 (Int32.toNatClampNeg z73) = z_9 := ⟨_, rfl⟩
                refine r_lald 73 z74 C dX12_straight_73 3 rfl (vinI (by omega) (by omega)) ez74 ?_
                have gz74 := fb_rngL z74
                refine r_aload_n 74 3 C dX12_straight_74 rfl ?_
                refine r_get 75 C dX12_straight_75 (k := 61) 0 rfl rfl hiX12 (by decide) rfl (mg 2 rfl) (Or.inl rfl) rfl ?_
                refine r_iload_n 78 1 C dX12_straight_78 rfl ?_
                refine r_iconst 79 2 C dX12_straight_79 (by decide) ?_
                obtain ⟨z75, ez75⟩ : ∃ z_9, z14 + 2 = z_9 := ⟨_, rfl⟩
                have tz75 : (Int32.toInt z75) = (Int32.toInt z14) + 2 := by rw [← ez75]; exact fb_addIv (a := 0) (b := 51) (c := 2) (d := 2) ⟨i26a, i26b⟩ ⟨by decide, by decide⟩ (by decide) (by decide)
                refine r_iadd 80 z75 C dX12_straight_80 ez75 ?_
                obtain ⟨z76, ez76⟩ : ∃ z_9, fm1 (Int32.toNatClampNeg z75) = z_9 := ⟨_, rfl⟩
                refine r_lald 81 z76 C dX12_straight_81 3 rfl (vinI (by omega) (by omega)) ez76 ?_
                have gz76 := fb_rngL z76
                refine r_lconst 82 0 C dX12_straight_82 (by decide) ?_
                refine r_aload_n 83 3 C dX12_straight_83 rfl ?_
                refine r_get 84 C dX12_straight_84 (k := 61) 0 rfl rfl hiX12 (by decide) rfl (mg 2 rfl) (Or.inl rfl) rfl ?_
                refine r_iload_n 87 1 C dX12_straight_87 rfl ?_
                refine r_iconst 88 3 C dX12_straight_88 (by decide) ?_
                obtain ⟨z77, ez77⟩ : ∃ z_9, z14 + 3 = z_9 := ⟨_, rfl⟩
                have tz77 : (Int32.toInt z77) = (Int32.toInt z14) + 3 := by rw [← ez77]; exact fb_addIv (a := 0) (b := 51) (c := 3) (d := 3) ⟨i26a, i26b⟩ ⟨by decide, by decide⟩ (by decide) (by decide)
                refine r_iadd 89 z77 C dX12_straight_89 ez77 ?_
                obtain ⟨z78, ez78⟩ : ∃ z_9, fm1 (Int32.toNatClampNeg z77) = z_9 := ⟨_, rfl⟩
                refine r_lald 90 z78 C dX12_straight_90 3 rfl (vinI (by omega) (by omega)) ez78 ?_
                have gz78 := fb_rngL z78
                refine r_callVi 91 C dX12_straight_91 [] [(h0, .inr (11, [.ref h4, .int x1, .ref h5, .int x2, .int x3, .int x4, .ref h6, .ref h7, .ref h8, .ref h9, .int x5, .int x6, .int x7, .ref h10, .ref h11, .ref h12, .ref h13, .int x8, .int x9, .int x10, .long y0, .int x11, .int x12, .long y1, .long y2, .ref h14, .ref h15, .ref h16, .ref h17, .long y3, .int x13, .ref h18, .int x14, .int x15, .int x16, .int x17, .ref h19, .ref h20, .ref h21, .ref h22, .ref h23, .ref h24, .ref h25, .ref h26, .ref h27, .ref h28, .ref h29, .int x18, .int x19, .int z15, .int z16, .int x22, .int x23, .int x24, .long y4, .int x25, .ref h1, .ref h2, .long z17, .long z18, .int z19, .ref h3, .int x27, .ref h30, .ref h31, .ref h32, .ref h33, .int x28, .int x29, .int x30, .int x31, .ref h34, .ref h35, .int x32, .int x33, .ref h36])), (h1, .inl (gI g, 400, .inl f20)), (h2, .inl (gJ g, 2400, .inr (.inl f21)))] [(h3, .inl (gJ g, 48, .inr (.inl fm1)))] (fun sz => c114_X12_curve l g h0 h1 h2 0 z72 z74 z76 0 z78 h4 x1 h5 x2 x3 x4 h6 h7 h8 h9 x5 x6 x7 h10 h11 h12 h13 x8 x9 x10 y0 x11 x12 y1 y2 h14 h15 h16 h17 y3 x13 h18 x14 x15 x16 x17 h19 h20 h21 h22 h23 h24 h25 h26 h27 h28 h29 x18 x19 z15 z16 x22 x23 x24 y4 x25 z17 z18 z19 h3 x27 h30 h31 h32 h33 x28 x29 x30 x31 h34 h35 x32 x33 h36 f20 f21 i_x1 i_x2 i_x4 i_x7 i_x8 i_x11 i_x12 i_y1 i_y2 i_x13 i_x14 i_x15 i_x16 i_x17 i_x19 ⟨i27a, i27b⟩ ⟨i28a, i28b⟩ i_x22 i_x23 i_x25 ⟨i29a, i29b⟩ i_x27 i_x28 i_x29 i_x30 i_x31 i_x32 i_x33 (by show ((Int32.toInt z16) ≤ (Int32.toInt x22)); first | assumption | omega) sz) gX12_straight_X12_curve rfl ⟨rfl, rfl⟩ 6 (by decide) ⟨Nat.le_of_ble_eq_true rfl, Nat.le_of_ble_eq_true rfl⟩ 0 rfl rfl [0, 1, 2] [3] rfl rfl (by decide) (by decide) (by decide) rfl rfl (Nat.le_of_ble_eq_true rfl) ⟨Nat.le_of_ble_eq_true rfl, Nat.le_of_ble_eq_true rfl⟩ (fun r86 u88 w87 => ?_)
                obtain ⟨z79, z80, z81, z82, z83, f84, f85⟩ := u88
                refine r_ws [(h3, .inl (gJ g, 48, .inr (.inl fm1))), (h0, .inr (11, [.ref h4, .int x1, .ref h5, .int x2, .int x3, .int x4, .ref h6, .ref h7, .ref h8, .ref h9, .int x5, .int x6, .int x7, .ref h10, .ref h11, .ref h12, .ref h13, .int x8, .int x9, .int x10, .long y0, .int x11, .int x12, .long y1, .long y2, .ref h14, .ref h15, .ref h16, .ref h17, .long y3, .int x13, .ref h18, .int x14, .int x15, .int x16, .int x17, .ref h19, .ref h20, .ref h21, .ref h22, .ref h23, .ref h24, .ref h25, .ref h26, .ref h27, .ref h28, .ref h29, .int x18, .int x19, .int z79, .int z80, .int x22, .int x23, .int x24, .long y4, .int x25, .ref h1, .ref h2, .long z81, .long z82, .int z83, .ref h3, .int x27, .ref h30, .ref h31, .ref h32, .ref h33, .int x28, .int x29, .int x30, .int x31, .ref h34, .ref h35, .int x32, .int x33, .ref h36])), (h1, .inl (gI g, 400, .inl f84)), (h2, .inl (gJ g, 2400, .inr (.inl f85)))] rfl ?_
                have gz81 := fb_rngL z81
                have gz82 := fb_rngL z82
                have p89 : 0 ≤ (Int32.toInt r86) := w87.1
                have p90 : (Int32.toInt r86) ≤ 1 := w87.2.1
                have p91 : 0 ≤ (Int32.toInt z79) := w87.2.2.1
                have p92 : (Int32.toInt z79) ≤ 9 := w87.2.2.2.1
                have p93 : 0 ≤ (Int32.toInt z80) := w87.2.2.2.2.1
                have p94 : (Int32.toInt z80) ≤ 400 := w87.2.2.2.2.2.1
                have p95 : 0 ≤ (Int32.toInt z83) := w87.2.2.2.2.2.2.1
                have p96 : (Int32.toInt z83) ≤ 1 := w87.2.2.2.2.2.2.2.1
                have p97 : ((Int32.toInt z80) ≤ (Int32.toInt x22)) := w87.2.2.2.2.2.2.2.2.1
                have p98 : (((Int32.toInt r86) = 0 ∧ 1 ≤ (Int32.toInt z79)) ∨ ((Int32.toInt r86) = 1 ∧ (Int32.toInt z79) = (Int32.toInt z15))) := w87.2.2.2.2.2.2.2.2.2
                rcases p98 with ⟨k99, k100⟩ | p98
                · skip
                  refine r_if_ne_f 94 142 C dX12_straight_94 (by decide) ((fa_eq r86 0).mpr (by show (Int32.toInt r86) = 0; omega)) ?_
                  refine r_goto 97 140 C dX12_straight_97 (by decide) ?_
                  refine r_iconst 140 0 C dX12_straight_140 (by decide) ?_
                  exact r_zret 141 Rt dX12_straight_141 (by decide) (z79, z80, z81, z82, z83, f84, f85) (show 0 ≤ (Int32.toInt 0) ∧ (Int32.toInt 0) ≤ 1 ∧ 0 ≤ (Int32.toInt z79) ∧ (Int32.toInt z79) ≤ 9 ∧ 0 ≤ (Int32.toInt z80) ∧ (Int32.toInt z80) ≤ 400 ∧ 0 ≤ (Int32.toInt z83) ∧ (Int32.toInt z83) ≤ 1 ∧ ((Int32.toInt z80) ≤ (Int32.toInt x22)) ∧ ((0 = 0 ∧ 1 ≤ (Int32.toInt z79)) ∨ (0 = 1 ∧ (Int32.toInt z79) = (Int32.toInt x20))) from ⟨(by decide), (by decide), (show _ ∧ _ from ⟨p91, p92⟩).1, (show _ ∧ _ from ⟨p91, p92⟩).2, (show _ ∧ _ from ⟨p93, p94⟩).1, (show _ ∧ _ from ⟨p93, p94⟩).2, (show _ ∧ _ from ⟨p95, p96⟩).1, (show _ ∧ _ from ⟨p95, p96⟩).2, (by first | omega | ((repeat' apply And.intro) <;> first | trivial | rfl | assumption | omega | decide | exact Or.inl rfl | exact Or.inr (Or.inl rfl) | exact Or.inr (Or.inr rfl) | exact Or.inr (Or.inr (by assumption)))), (by first | omega | ((repeat' apply And.intro) <;> first | trivial | rfl | assumption | omega | decide | exact Or.inl rfl | exact Or.inr (Or.inl rfl) | exact Or.inr (Or.inr rfl) | exact Or.inr (Or.inr (by assumption))))⟩) [1, 2, 3, 0] (by decide) rfl (Nat.le_of_ble_eq_true rfl) (Nat.le_of_ble_eq_true rfl)
                obtain ⟨k101, k102⟩ := p98
                refine r_if_ne_t 94 142 C dX12_straight_94 (by decide) (fun h_9 => by have h_8 : (Int32.toInt r86) = 0 := (fa_eq r86 0).mp h_9; omega) ?_
                obtain ⟨z103, ez103⟩ : ∃ z_9, z14 + Int32.ofInt 4 = z_9 := ⟨_, rfl⟩
                have tz103 : (Int32.toInt z103) = (Int32.toInt z14) + 4 := by rw [← ez103]; exact fb_addIv (a := 0) (b := 51) (c := 4) (d := 4) ⟨i26a, i26b⟩ ⟨by decide, by decide⟩ (by decide) (by decide)
                refine r_iinc 142 1 z103 C dX12_straight_142 rfl ez103 [(3, .int z103), (4, .long 0), (2, .int z1), (0, .ref h0), (1, .int x0)] (by decide) rfl ?_
                refine r_goto 145 28 C dX12_straight_145 (by decide) ?_
                refine r_lv [(3, .int z103), (2, .int z1), (0, .ref h0), (1, .int x0)] [0, 2, 3, 4] rfl ?_
                refine r_pick [(h0, .inr (11, [.ref h4, .int x1, .ref h5, .int x2, .int x3, .int x4, .ref h6, .ref h7, .ref h8, .ref h9, .int x5, .int x6, .int x7, .ref h10, .ref h11, .ref h12, .ref h13, .int x8, .int x9, .int x10, .long y0, .int x11, .int x12, .long y1, .long y2, .ref h14, .ref h15, .ref h16, .ref h17, .long y3, .int x13, .ref h18, .int x14, .int x15, .int x16, .int x17, .ref h19, .ref h20, .ref h21, .ref h22, .ref h23, .ref h24, .ref h25, .ref h26, .ref h27, .ref h28, .ref h29, .int x18, .int x19, .int z79, .int z80, .int x22, .int x23, .int x24, .long y4, .int x25, .ref h1, .ref h2, .long z81, .long z82, .int z83, .ref h3, .int x27, .ref h30, .ref h31, .ref h32, .ref h33, .int x28, .int x29, .int x30, .int x31, .ref h34, .ref h35, .int x32, .int x33, .ref h36])), (h1, .inl (gI g, 400, .inl f84)), (h2, .inl (gJ g, 2400, .inr (.inl f85))), (h3, .inl (gJ g, 48, .inr (.inl fm1)))] [1, 2, 3, 0] (by decide) rfl ?_
                exact ih24 z103 z79 z80 z81 z82 z83 f84 f85 ⟨by omega, by omega⟩ ⟨p91, p92⟩ ⟨p93, p94⟩ ⟨p95, p96⟩ (by show ((Int32.toInt x27) - (Int32.toInt z103)) % 4 = 0 ∧ (Int32.toInt z103) ≤ (Int32.toInt x27) ∧ (Int32.toInt z80) ≤ (Int32.toInt x22); omega) (by show (Int32.toInt z79) = (Int32.toInt x20); omega) (by omega)
            · skip
              have k104 : (Int32.toInt z14) = 1 := (fa_eq z14 1).mp c35
              refine r_aload_n 41 2 C dX12_straight_41 rfl ?_
              refine r_get 42 C dX12_straight_42 (k := 61) 0 rfl rfl hiX12 (by decide) rfl (mg 2 rfl) (Or.inl rfl) rfl ?_
              refine r_iconst 45 0 C dX12_straight_45 (by decide) ?_
              obtain ⟨z105, ez105⟩ : ∃ z_9, fm1 (Int32.toNatClampNeg 0) = z_9 := ⟨_, rfl⟩
              refine r_lald 46 z105 C dX12_straight_46 3 rfl (vin (by decide)) ez105 ?_
              have gz105 := fb_rngL z105
              refine r_goto 47 51 C dX12_straight_47 (by decide) ?_
              refine r_lstore 51 C dX12_straight_51 [(4, .long z105), (3, .int z14), (2, .int z1), (0, .ref h0), (1, .int x0)] (by decide) rfl ?_
              refine r_iload_n 53 4 C dX12_straight_53 rfl ?_
              refine r_if_eq 54 100 C dX12_straight_54 (by decide) (fun c106 => ?_) (fun c106 => ?_)
              · skip
                have k107 : (Int32.toInt x0) = 0 := (fa_eq x0 0).mp c106
                refine r_aload_n 100 3 C dX12_straight_100 rfl ?_
                refine r_aload_n 101 3 C dX12_straight_101 rfl ?_
                refine r_get 102 C dX12_straight_102 (k := 61) 0 rfl rfl hiX12 (by decide) rfl (mg 2 rfl) (Or.inl rfl) rfl ?_
                refine r_iload_n 105 1 C dX12_straight_105 rfl ?_
                obtain ⟨z108, ez108⟩ : ∃ z_9, fm1 (Int32.toNatClampNeg z14) = z_9 := ⟨_, rfl⟩
                refine r_lald 106 z108 C dX12_straight_106 3 rfl (vinI (by omega) (by omega)) ez108 ?_
                have gz108 := fb_rngL z108
                refine r_lload 107 0 C dX12_straight_107 rfl ?_
                refine r_aload_n 109 3 C dX12_straight_109 rfl ?_
                refine r_get 110 C dX12_straight_110 (k := 61) 0 rfl rfl hiX12 (by decide) rfl (mg 2 rfl) (Or.inl rfl) rfl ?_
                refine r_iload_n 113 1 C dX12_straight_113 rfl ?_
                refine r_iconst 114 1 C dX12_straight_114 (by decide) ?_
                obtain ⟨z109, ez109⟩ : ∃ z_9, z14 + 1 = z_9 := ⟨_, rfl⟩
                have tz109 : (Int32.toInt z109) = (Int32.toInt z14) + 1 := by rw [← ez109]; exact fb_addIv (a := 0) (b := 51) (c := 1) (d := 1) ⟨i26a, i26b⟩ ⟨by decide, by decide⟩ (by decide) (by decide)
                refine r_iadd 115 z109 C dX12_straight_115 ez109 ?_
                obtain ⟨z110, ez110⟩ : ∃ z_9, fm1 (Int32.toNatClampNeg z109) = z_9 := ⟨_, rfl⟩
                refine r_lald 116 z110 C dX12_straight_116 3 rfl (vinI (by omega) (by omega)) ez110 ?_
                have gz110 := fb_rngL z110
                refine r_aload_n 117 3 C dX12_straight_117 rfl ?_
                refine r_get 118 C dX12_straight_118 (k := 61) 0 rfl rfl hiX12 (by decide) rfl (mg 2 rfl) (Or.inl rfl) rfl ?_
                refine r_iload_n 121 1 C dX12_straight_121 rfl ?_
                refine r_iconst 122 2 C dX12_straight_122 (by decide) ?_
                obtain ⟨z111, ez111⟩ : ∃ z_9, z14 + 2 = z_9 := ⟨_, rfl⟩
                have tz111 : (Int32.toInt z111) = (Int32.toInt z14) + 2 := by rw [← ez111]; exact fb_addIv (a := 0) (b := 51) (c := 2) (d := 2) ⟨i26a, i26b⟩ ⟨by decide, by decide⟩ (by decide) (by decide)
                refine r_iadd 123 z111 C dX12_straight_123 ez111 ?_
                obtain ⟨z112, ez112⟩ : ∃ z_9, fm1 (Int32.toNatClampNeg z111) = z_9 := ⟨_, rfl⟩
                refine r_lald 124 z112 C dX12_straight_124 3 rfl (vinI (by omega) (by omega)) ez112 ?_
                have gz112 := fb_rngL z112
                refine r_aload_n 125 3 C dX12_straight_125 rfl ?_
                refine r_get 126 C dX12_straight_126 (k := 61) 0 rfl rfl hiX12 (by decide) rfl (mg 2 rfl) (Or.inl rfl) rfl ?_
                refine r_iload_n 129 1 C dX12_straight_129 rfl ?_
                refine r_iconst 130 3 C dX12_straight_130 (by decide) ?_
                obtain ⟨z113, ez113⟩ : ∃ z_9, z14 + 3 = z_9 := ⟨_, rfl⟩
                have tz113 : (Int32.toInt z113) = (Int32.toInt z14) + 3 := by rw [← ez113]; exact fb_addIv (a := 0) (b := 51) (c := 3) (d := 3) ⟨i26a, i26b⟩ ⟨by decide, by decide⟩ (by decide) (by decide)
                refine r_iadd 131 z113 C dX12_straight_131 ez113 ?_
                obtain ⟨z114, ez114⟩ : ∃ z_9, fm1 (Int32.toNatClampNeg z113) = z_9 := ⟨_, rfl⟩
                refine r_lald 132 z114 C dX12_straight_132 3 rfl (vinI (by omega) (by omega)) ez114 ?_
                have gz114 := fb_rngL z114
                refine r_lconst 133 0 C dX12_straight_133 (by decide) ?_
                refine r_callVi 134 C dX12_straight_134 [] [(h0, .inr (11, [.ref h4, .int x1, .ref h5, .int x2, .int x3, .int x4, .ref h6, .ref h7, .ref h8, .ref h9, .int x5, .int x6, .int x7, .ref h10, .ref h11, .ref h12, .ref h13, .int x8, .int x9, .int x10, .long y0, .int x11, .int x12, .long y1, .long y2, .ref h14, .ref h15, .ref h16, .ref h17, .long y3, .int x13, .ref h18, .int x14, .int x15, .int x16, .int x17, .ref h19, .ref h20, .ref h21, .ref h22, .ref h23, .ref h24, .ref h25, .ref h26, .ref h27, .ref h28, .ref h29, .int x18, .int x19, .int z15, .int z16, .int x22, .int x23, .int x24, .long y4, .int x25, .ref h1, .ref h2, .long z17, .long z18, .int z19, .ref h3, .int x27, .ref h30, .ref h31, .ref h32, .ref h33, .int x28, .int x29, .int x30, .int x31, .ref h34, .ref h35, .int x32, .int x33, .ref h36])), (h1, .inl (gI g, 400, .inl f20)), (h2, .inl (gJ g, 2400, .inr (.inl f21)))] [(h3, .inl (gJ g, 48, .inr (.inl fm1)))] (fun sz => c114_X12_curve l g h0 h1 h2 z108 z105 z110 z112 z114 0 h4 x1 h5 x2 x3 x4 h6 h7 h8 h9 x5 x6 x7 h10 h11 h12 h13 x8 x9 x10 y0 x11 x12 y1 y2 h14 h15 h16 h17 y3 x13 h18 x14 x15 x16 x17 h19 h20 h21 h22 h23 h24 h25 h26 h27 h28 h29 x18 x19 z15 z16 x22 x23 x24 y4 x25 z17 z18 z19 h3 x27 h30 h31 h32 h33 x28 x29 x30 x31 h34 h35 x32 x33 h36 f20 f21 i_x1 i_x2 i_x4 i_x7 i_x8 i_x11 i_x12 i_y1 i_y2 i_x13 i_x14 i_x15 i_x16 i_x17 i_x19 ⟨i27a, i27b⟩ ⟨i28a, i28b⟩ i_x22 i_x23 i_x25 ⟨i29a, i29b⟩ i_x27 i_x28 i_x29 i_x30 i_x31 i_x32 i_x33 (by show ((Int32.toInt z16) ≤ (Int32.toInt x22)); first | assumption | omega) sz) gX12_straight_X12_curve rfl ⟨rfl, rfl⟩ 6 (by decide) ⟨Nat.le_of_ble_eq_true rfl, Nat.le_of_ble_eq_true rfl⟩ 0 rfl rfl [0, 1, 2] [3] rfl rfl (by decide) (by decide) (by decide) rfl rfl (Nat.le_of_ble_eq_true rfl) ⟨Nat.le_of_ble_eq_true rfl, Nat.le_of_ble_eq_true rfl⟩ (fun r122 u124 w123 => ?_)
                obtain ⟨z115, z116, z117, z118, z119, f120, f121⟩ := u124
                refine r_ws [(h3, .inl (gJ g, 48, .inr (.inl fm1))), (h0, .inr (11, [.ref h4, .int x1, .ref h5, .int x2, .int x3, .int x4, .ref h6, .ref h7, .ref h8, .ref h9, .int x5, .int x6, .int x7, .ref h10, .ref h11, .ref h12, .ref h13, .int x8, .int x9, .int x10, .long y0, .int x11, .int x12, .long y1, .long y2, .ref h14, .ref h15, .ref h16, .ref h17, .long y3, .int x13, .ref h18, .int x14, .int x15, .int x16, .int x17, .ref h19, .ref h20, .ref h21, .ref h22, .ref h23, .ref h24, .ref h25, .ref h26, .ref h27, .ref h28, .ref h29, .int x18, .int x19, .int z115, .int z116, .int x22, .int x23, .int x24, .long y4, .int x25, .ref h1, .ref h2, .long z117, .long z118, .int z119, .ref h3, .int x27, .ref h30, .ref h31, .ref h32, .ref h33, .int x28, .int x29, .int x30, .int x31, .ref h34, .ref h35, .int x32, .int x33, .ref h36])), (h1, .inl (gI g, 400, .inl f120)), (h2, .inl (gJ g, 2400, .inr (.inl f121)))] rfl ?_
                have gz117 := fb_rngL z117
                have gz118 := fb_rngL z118
                have p125 : 0 ≤ (Int32.toInt r122) := w123.1
                have p126 : (Int32.toInt r122) ≤ 1 := w123.2.1
                have p127 : 0 ≤ (Int32.toInt z115) := w123.2.2.1
                have p128 : (Int32.toInt z115) ≤ 9 := w123.2.2.2.1
                have p129 : 0 ≤ (Int32.toInt z116) := w123.2.2.2.2.1
                have p130 : (Int32.toInt z116) ≤ 400 := w123.2.2.2.2.2.1
                have p131 : 0 ≤ (Int32.toInt z119) := w123.2.2.2.2.2.2.1
                have p132 : (Int32.toInt z119) ≤ 1 := w123.2.2.2.2.2.2.2.1
                have p133 : ((Int32.toInt z116) ≤ (Int32.toInt x22)) := w123.2.2.2.2.2.2.2.2.1
                have p134 : (((Int32.toInt r122) = 0 ∧ 1 ≤ (Int32.toInt z115)) ∨ ((Int32.toInt r122) = 1 ∧ (Int32.toInt z115) = (Int32.toInt z15))) := w123.2.2.2.2.2.2.2.2.2
                rcases p134 with ⟨k135, k136⟩ | p134
                · skip
                  refine r_if_ne_f 137 142 C dX12_straight_137 (by decide) ((fa_eq r122 0).mpr (by show (Int32.toInt r122) = 0; omega)) ?_
                  refine r_iconst 140 0 C dX12_straight_140 (by decide) ?_
                  exact r_zret 141 Rt dX12_straight_141 (by decide) (z115, z116, z117, z118, z119, f120, f121) (show 0 ≤ (Int32.toInt 0) ∧ (Int32.toInt 0) ≤ 1 ∧ 0 ≤ (Int32.toInt z115) ∧ (Int32.toInt z115) ≤ 9 ∧ 0 ≤ (Int32.toInt z116) ∧ (Int32.toInt z116) ≤ 400 ∧ 0 ≤ (Int32.toInt z119) ∧ (Int32.toInt z119) ≤ 1 ∧ ((Int32.toInt z116) ≤ (Int32.toInt x22)) ∧ ((0 = 0 ∧ 1 ≤ (Int32.toInt z115)) ∨ (0 = 1 ∧ (Int32.toInt z115) = (Int32.toInt x20))) from ⟨(by decide), (by decide), (show _ ∧ _ from ⟨p127, p128⟩).1, (show _ ∧ _ from ⟨p127, p128⟩).2, (show _ ∧ _ from ⟨p129, p130⟩).1, (show _ ∧ _ from ⟨p129, p130⟩).2, (show _ ∧ _ from ⟨p131, p132⟩).1, (show _ ∧ _ from ⟨p131, p132⟩).2, (by first | omega | ((repeat' apply And.intro) <;> first | trivial | rfl | assumption | omega | decide | exact Or.inl rfl | exact Or.inr (Or.inl rfl) | exact Or.inr (Or.inr rfl) | exact Or.inr (Or.inr (by assumption)))), (by first | omega | ((repeat' apply And.intro) <;> first | trivial | rfl | assumption | omega | decide | exact Or.inl rfl | exact Or.inr (Or.inl rfl) | exact Or.inr (Or.inr rfl) | exact Or.inr (Or.inr (by assumption))))⟩) [1, 2, 3, 0] (by decide) rfl (Nat.le_of_ble_eq_true rfl) (Nat.le_of_ble_eq_true rfl)
                obtain ⟨k137, k138⟩ := p134
                refine r_if_ne_t 137 142 C dX12_straight_137 (by decide) (fun h_9 => by have h_8 : (Int32.toInt r122) = 0 := (fa_eq r122 0).mp h_9; omega) ?_
                obtain ⟨z139, ez139⟩ : ∃ z_9, z14 + Int32.ofInt 4 = z_9 := ⟨_, rfl⟩
                have tz139 : (Int32.toInt z139) = (Int32.toInt z14) + 4 := by rw [← ez139]; exact fb_addIv (a := 0) (b := 51) (c := 4) (d := 4) ⟨i26a, i26b⟩ ⟨by decide, by decide⟩ (by decide) (by decide)
                refine r_iinc 142 1 z139 C dX12_straight_142 rfl ez139 [(3, .int z139), (4, .long z105), (2, .int z1), (0, .ref h0), (1, .int x0)] (by decide) rfl ?_
                refine r_goto 145 28 C dX12_straight_145 (by decide) ?_
                refine r_lv [(3, .int z139), (2, .int z1), (0, .ref h0), (1, .int x0)] [0, 2, 3, 4] rfl ?_
                refine r_pick [(h0, .inr (11, [.ref h4, .int x1, .ref h5, .int x2, .int x3, .int x4, .ref h6, .ref h7, .ref h8, .ref h9, .int x5, .int x6, .int x7, .ref h10, .ref h11, .ref h12, .ref h13, .int x8, .int x9, .int x10, .long y0, .int x11, .int x12, .long y1, .long y2, .ref h14, .ref h15, .ref h16, .ref h17, .long y3, .int x13, .ref h18, .int x14, .int x15, .int x16, .int x17, .ref h19, .ref h20, .ref h21, .ref h22, .ref h23, .ref h24, .ref h25, .ref h26, .ref h27, .ref h28, .ref h29, .int x18, .int x19, .int z115, .int z116, .int x22, .int x23, .int x24, .long y4, .int x25, .ref h1, .ref h2, .long z117, .long z118, .int z119, .ref h3, .int x27, .ref h30, .ref h31, .ref h32, .ref h33, .int x28, .int x29, .int x30, .int x31, .ref h34, .ref h35, .int x32, .int x33, .ref h36])), (h1, .inl (gI g, 400, .inl f120)), (h2, .inl (gJ g, 2400, .inr (.inl f121))), (h3, .inl (gJ g, 48, .inr (.inl fm1)))] [1, 2, 3, 0] (by decide) rfl ?_
                exact ih24 z139 z115 z116 z117 z118 z119 f120 f121 ⟨by omega, by omega⟩ ⟨p127, p128⟩ ⟨p129, p130⟩ ⟨p131, p132⟩ (by show ((Int32.toInt x27) - (Int32.toInt z139)) % 4 = 0 ∧ (Int32.toInt z139) ≤ (Int32.toInt x27) ∧ (Int32.toInt z116) ≤ (Int32.toInt x22); omega) (by show (Int32.toInt z115) = (Int32.toInt x20); omega) (by omega)
              · skip
                have k140 : ¬ ((Int32.toInt x0) = 0) := fun h_9 => c106 ((fa_eq x0 0).mpr h_9)
                refine r_aload_n 57 3 C dX12_straight_57 rfl ?_
                refine r_lload 58 0 C dX12_straight_58 rfl ?_
                refine r_aload_n 60 3 C dX12_straight_60 rfl ?_
                refine r_get 61 C dX12_straight_61 (k := 61) 0 rfl rfl hiX12 (by decide) rfl (mg 2 rfl) (Or.inl rfl) rfl ?_
                refine r_iload_n 64 1 C dX12_straight_64 rfl ?_
                obtain ⟨z141, ez141⟩ : ∃ z_9, fm1 (Int32.toNatClampNeg z14) = z_9 := ⟨_, rfl⟩
                refine r_lald 65 z141 C dX12_straight_65 3 rfl (vinI (by omega) (by omega)) ez141 ?_
                have gz141 := fb_rngL z141
                refine r_aload_n 66 3 C dX12_straight_66 rfl ?_
                refine r_get 67 C dX12_straight_67 (k := 61) 0 rfl rfl hiX12 (by decide) rfl (mg 2 rfl) (Or.inl rfl) rfl ?_
                refine r_iload_n 70 1 C dX12_straight_70 rfl ?_
                refine r_iconst 71 1 C dX12_straight_71 (by decide) ?_
                obtain ⟨z142, ez142⟩ : ∃ z_9, z14 + 1 = z_9 := ⟨_, rfl⟩
                have tz142 : (Int32.toInt z142) = (Int32.toInt z14) + 1 := by rw [← ez142]; exact fb_addIv (a := 0) (b := 51) (c := 1) (d := 1) ⟨i26a, i26b⟩ ⟨by decide, by decide⟩ (by decide) (by decide)
                refine r_iadd 72 z142 C dX12_straight_72 ez142 ?_
                obtain ⟨z143, ez143⟩ : ∃ z_9, fm1 (Int32.toNatClampNeg z142) = z_9 := ⟨_, rfl⟩
                refine r_lald 73 z143 C dX12_straight_73 3 rfl (vinI (by omega) (by omega)) ez143 ?_
                have gz143 := fb_rngL z143
                refine r_aload_n 74 3 C dX12_straight_74 rfl ?_
                refine r_get 75 C dX12_straight_75 (k := 61) 0 rfl rfl hiX12 (by decide) rfl (mg 2 rfl) (Or.inl rfl) rfl ?_
                refine r_iload_n 78 1 C dX12_straight_78 rfl ?_
                refine r_iconst 79 2 C dX12_straight_79 (by decide) ?_
                obtain ⟨z144, ez144⟩ : ∃ z_9, z14 + 2 = z_9 := ⟨_, rfl⟩
                have tz144 : (Int32.toInt z144) = (Int32.toInt z14) + 2 := by rw [← ez144]; exact fb_addIv (a := 0) (b := 51) (c := 2) (d := 2) ⟨i26a, i26b⟩ ⟨by decide, by decide⟩ (by decide) (by decide)
                refine r_iadd 80 z144 C dX12_straight_80 ez144 ?_
                obtain ⟨z145, ez145⟩ : ∃ z_9, fm1 (Int32.toNatClampNeg z144) = z_9 := ⟨_, rfl⟩
                refine r_lald 81 z145 C dX12_straight_81 3 rfl (vinI (by omega) (by omega)) ez145 ?_
                have gz145 := fb_rngL z145
                refine r_lconst 82 0 C dX12_straight_82 (by decide) ?_
                refine r_aload_n 83 3 C dX12_straight_83 rfl ?_
                refine r_get 84 C dX12_straight_84 (k := 61) 0 rfl rfl hiX12 (by decide) rfl (mg 2 rfl) (Or.inl rfl) rfl ?_
                refine r_iload_n 87 1 C dX12_straight_87 rfl ?_
                refine r_iconst 88 3 C dX12_straight_88 (by decide) ?_
                obtain ⟨z146, ez146⟩ : ∃ z_9, z14 + 3 = z_9 := ⟨_, rfl⟩
                have tz146 : (Int32.toInt z146) = (Int32.toInt z14) + 3 := by rw [← ez146]; exact fb_addIv (a := 0) (b := 51) (c := 3) (d := 3) ⟨i26a, i26b⟩ ⟨by decide, by decide⟩ (by decide) (by decide)
                refine r_iadd 89 z146 C dX12_straight_89 ez146 ?_
                obtain ⟨z147, ez147⟩ : ∃ z_9, fm1 (Int32.toNatClampNeg z146) = z_9 := ⟨_, rfl⟩
                refine r_lald 90 z147 C dX12_straight_90 3 rfl (vinI (by omega) (by omega)) ez147 ?_
                have gz147 := fb_rngL z147
                refine r_callVi 91 C dX12_straight_91 [] [(h0, .inr (11, [.ref h4, .int x1, .ref h5, .int x2, .int x3, .int x4, .ref h6, .ref h7, .ref h8, .ref h9, .int x5, .int x6, .int x7, .ref h10, .ref h11, .ref h12, .ref h13, .int x8, .int x9, .int x10, .long y0, .int x11, .int x12, .long y1, .long y2, .ref h14, .ref h15, .ref h16, .ref h17, .long y3, .int x13, .ref h18, .int x14, .int x15, .int x16, .int x17, .ref h19, .ref h20, .ref h21, .ref h22, .ref h23, .ref h24, .ref h25, .ref h26, .ref h27, .ref h28, .ref h29, .int x18, .int x19, .int z15, .int z16, .int x22, .int x23, .int x24, .long y4, .int x25, .ref h1, .ref h2, .long z17, .long z18, .int z19, .ref h3, .int x27, .ref h30, .ref h31, .ref h32, .ref h33, .int x28, .int x29, .int x30, .int x31, .ref h34, .ref h35, .int x32, .int x33, .ref h36])), (h1, .inl (gI g, 400, .inl f20)), (h2, .inl (gJ g, 2400, .inr (.inl f21)))] [(h3, .inl (gJ g, 48, .inr (.inl fm1)))] (fun sz => c114_X12_curve l g h0 h1 h2 z105 z141 z143 z145 0 z147 h4 x1 h5 x2 x3 x4 h6 h7 h8 h9 x5 x6 x7 h10 h11 h12 h13 x8 x9 x10 y0 x11 x12 y1 y2 h14 h15 h16 h17 y3 x13 h18 x14 x15 x16 x17 h19 h20 h21 h22 h23 h24 h25 h26 h27 h28 h29 x18 x19 z15 z16 x22 x23 x24 y4 x25 z17 z18 z19 h3 x27 h30 h31 h32 h33 x28 x29 x30 x31 h34 h35 x32 x33 h36 f20 f21 i_x1 i_x2 i_x4 i_x7 i_x8 i_x11 i_x12 i_y1 i_y2 i_x13 i_x14 i_x15 i_x16 i_x17 i_x19 ⟨i27a, i27b⟩ ⟨i28a, i28b⟩ i_x22 i_x23 i_x25 ⟨i29a, i29b⟩ i_x27 i_x28 i_x29 i_x30 i_x31 i_x32 i_x33 (by show ((Int32.toInt z16) ≤ (Int32.toInt x22)); first | assumption | omega) sz) gX12_straight_X12_curve rfl ⟨rfl, rfl⟩ 6 (by decide) ⟨Nat.le_of_ble_eq_true rfl, Nat.le_of_ble_eq_true rfl⟩ 0 rfl rfl [0, 1, 2] [3] rfl rfl (by decide) (by decide) (by decide) rfl rfl (Nat.le_of_ble_eq_true rfl) ⟨Nat.le_of_ble_eq_true rfl, Nat.le_of_ble_eq_true rfl⟩ (fun r155 u157 w156 => ?_)
                obtain ⟨z148, z149, z150, z151, z152, f153, f154⟩ := u157
                refine r_ws [(h3, .inl (gJ g, 48, .inr (.inl fm1))), (h0, .inr (11, [.ref h4, .int x1, .ref h5, .int x2, .int x3, .int x4, .ref h6, .ref h7, .ref h8, .ref h9, .int x5, .int x6, .int x7, .ref h10, .ref h11, .ref h12, .ref h13, .int x8, .int x9, .int x10, .long y0, .int x11, .int x12, .long y1, .long y2, .ref h14, .ref h15, .ref h16, .ref h17, .long y3, .int x13, .ref h18, .int x14, .int x15, .int x16, .int x17, .ref h19, .ref h20, .ref h21, .ref h22, .ref h23, .ref h24, .ref h25, .ref h26, .ref h27, .ref h28, .ref h29, .int x18, .int x19, .int z148, .int z149, .int x22, .int x23, .int x24, .long y4, .int x25, .ref h1, .ref h2, .long z150, .long z151, .int z152, .ref h3, .int x27, .ref h30, .ref h31, .ref h32, .ref h33, .int x28, .int x29, .int x30, .int x31, .ref h34, .ref h35, .int x32, .int x33, .ref h36])), (h1, .inl (gI g, 400, .inl f153)), (h2, .inl (gJ g, 2400, .inr (.inl f154)))] rfl ?_
                have gz150 := fb_rngL z150
                have gz151 := fb_rngL z151
                have p158 : 0 ≤ (Int32.toInt r155) := w156.1
                have p159 : (Int32.toInt r155) ≤ 1 := w156.2.1
                have p160 : 0 ≤ (Int32.toInt z148) := w156.2.2.1
                have p161 : (Int32.toInt z148) ≤ 9 := w156.2.2.2.1
                have p162 : 0 ≤ (Int32.toInt z149) := w156.2.2.2.2.1
                have p163 : (Int32.toInt z149) ≤ 400 := w156.2.2.2.2.2.1
                have p164 : 0 ≤ (Int32.toInt z152) := w156.2.2.2.2.2.2.1
                have p165 : (Int32.toInt z152) ≤ 1 := w156.2.2.2.2.2.2.2.1
                have p166 : ((Int32.toInt z149) ≤ (Int32.toInt x22)) := w156.2.2.2.2.2.2.2.2.1
                have p167 : (((Int32.toInt r155) = 0 ∧ 1 ≤ (Int32.toInt z148)) ∨ ((Int32.toInt r155) = 1 ∧ (Int32.toInt z148) = (Int32.toInt z15))) := w156.2.2.2.2.2.2.2.2.2
                rcases p167 with ⟨k168, k169⟩ | p167
                · skip
                  refine r_if_ne_f 94 142 C dX12_straight_94 (by decide) ((fa_eq r155 0).mpr (by show (Int32.toInt r155) = 0; omega)) ?_
                  refine r_goto 97 140 C dX12_straight_97 (by decide) ?_
                  refine r_iconst 140 0 C dX12_straight_140 (by decide) ?_
                  exact r_zret 141 Rt dX12_straight_141 (by decide) (z148, z149, z150, z151, z152, f153, f154) (show 0 ≤ (Int32.toInt 0) ∧ (Int32.toInt 0) ≤ 1 ∧ 0 ≤ (Int32.toInt z148) ∧ (Int32.toInt z148) ≤ 9 ∧ 0 ≤ (Int32.toInt z149) ∧ (Int32.toInt z149) ≤ 400 ∧ 0 ≤ (Int32.toInt z152) ∧ (Int32.toInt z152) ≤ 1 ∧ ((Int32.toInt z149) ≤ (Int32.toInt x22)) ∧ ((0 = 0 ∧ 1 ≤ (Int32.toInt z148)) ∨ (0 = 1 ∧ (Int32.toInt z148) = (Int32.toInt x20))) from ⟨(by decide), (by decide), (show _ ∧ _ from ⟨p160, p161⟩).1, (show _ ∧ _ from ⟨p160, p161⟩).2, (show _ ∧ _ from ⟨p162, p163⟩).1, (show _ ∧ _ from ⟨p162, p163⟩).2, (show _ ∧ _ from ⟨p164, p165⟩).1, (show _ ∧ _ from ⟨p164, p165⟩).2, (by first | omega | ((repeat' apply And.intro) <;> first | trivial | rfl | assumption | omega | decide | exact Or.inl rfl | exact Or.inr (Or.inl rfl) | exact Or.inr (Or.inr rfl) | exact Or.inr (Or.inr (by assumption)))), (by first | omega | ((repeat' apply And.intro) <;> first | trivial | rfl | assumption | omega | decide | exact Or.inl rfl | exact Or.inr (Or.inl rfl) | exact Or.inr (Or.inr rfl) | exact Or.inr (Or.inr (by assumption))))⟩) [1, 2, 3, 0] (by decide) rfl (Nat.le_of_ble_eq_true rfl) (Nat.le_of_ble_eq_true rfl)
                obtain ⟨k170, k171⟩ := p167
                refine r_if_ne_t 94 142 C dX12_straight_94 (by decide) (fun h_9 => by have h_8 : (Int32.toInt r155) = 0 := (fa_eq r155 0).mp h_9; omega) ?_
                obtain ⟨z172, ez172⟩ : ∃ z_9, z14 + Int32.ofInt 4 = z_9 := ⟨_, rfl⟩
                have tz172 : (Int32.toInt z172) = (Int32.toInt z14) + 4 := by rw [← ez172]; exact fb_addIv (a := 0) (b := 51) (c := 4) (d := 4) ⟨i26a, i26b⟩ ⟨by decide, by decide⟩ (by decide) (by decide)
                refine r_iinc 142 1 z172 C dX12_straight_142 rfl ez172 [(3, .int z172), (4, .long z105), (2, .int z1), (0, .ref h0), (1, .int x0)] (by decide) rfl ?_
                refine r_goto 145 28 C dX12_straight_145 (by decide) ?_
                refine r_lv [(3, .int z172), (2, .int z1), (0, .ref h0), (1, .int x0)] [0, 2, 3, 4] rfl ?_
                refine r_pick [(h0, .inr (11, [.ref h4, .int x1, .ref h5, .int x2, .int x3, .int x4, .ref h6, .ref h7, .ref h8, .ref h9, .int x5, .int x6, .int x7, .ref h10, .ref h11, .ref h12, .ref h13, .int x8, .int x9, .int x10, .long y0, .int x11, .int x12, .long y1, .long y2, .ref h14, .ref h15, .ref h16, .ref h17, .long y3, .int x13, .ref h18, .int x14, .int x15, .int x16, .int x17, .ref h19, .ref h20, .ref h21, .ref h22, .ref h23, .ref h24, .ref h25, .ref h26, .ref h27, .ref h28, .ref h29, .int x18, .int x19, .int z148, .int z149, .int x22, .int x23, .int x24, .long y4, .int x25, .ref h1, .ref h2, .long z150, .long z151, .int z152, .ref h3, .int x27, .ref h30, .ref h31, .ref h32, .ref h33, .int x28, .int x29, .int x30, .int x31, .ref h34, .ref h35, .int x32, .int x33, .ref h36])), (h1, .inl (gI g, 400, .inl f153)), (h2, .inl (gJ g, 2400, .inr (.inl f154))), (h3, .inl (gJ g, 48, .inr (.inl fm1)))] [1, 2, 3, 0] (by decide) rfl ?_
                exact ih24 z172 z148 z149 z150 z151 z152 f153 f154 ⟨by omega, by omega⟩ ⟨p160, p161⟩ ⟨p162, p163⟩ ⟨p164, p165⟩ (by show ((Int32.toInt x27) - (Int32.toInt z172)) % 4 = 0 ∧ (Int32.toInt z172) ≤ (Int32.toInt x27) ∧ (Int32.toInt z149) ≤ (Int32.toInt x22); omega) (by show (Int32.toInt z148) = (Int32.toInt x20); omega) (by omega)
      exact lp23 _ z1 x20 x21 y5 y6 x26 fn0 fm0 ⟨by omega, by omega⟩ i_x20 i_x21 i_x26 (by show ((Int32.toInt x27) - (Int32.toInt z1)) % 4 = 0 ∧ (Int32.toInt z1) ≤ (Int32.toInt x27) ∧ (Int32.toInt x21) ≤ (Int32.toInt x22); omega) (by show (Int32.toInt x20) = (Int32.toInt x20); omega) (Nat.lt_succ_self _)
    · skip
      have k173 : ¬ ((Int32.toInt z1) ≤ 1) := fun h_9 => c12 ((fa_le z1 1).mpr h_9)
      refine r_aload_n 20 1 C dX12_straight_20 rfl ?_
      refine r_iconst 21 2 C dX12_straight_21 (by decide) ?_
      refine r_callVi 22 C dX12_straight_22 [] [(h0, .inr (11, [.ref h4, .int x1, .ref h5, .int x2, .int x3, .int x4, .ref h6, .ref h7, .ref h8, .ref h9, .int x5, .int x6, .int x7, .ref h10, .ref h11, .ref h12, .ref h13, .int x8, .int x9, .int x10, .long y0, .int x11, .int x12, .long y1, .long y2, .ref h14, .ref h15, .ref h16, .ref h17, .long y3, .int x13, .ref h18, .int x14, .int x15, .int x16, .int x17, .ref h19, .ref h20, .ref h21, .ref h22, .ref h23, .ref h24, .ref h25, .ref h26, .ref h27, .ref h28, .ref h29, .int x18, .int x19, .int x20, .int x21, .int x22, .int x23, .int x24, .long y4, .int x25, .ref h1, .ref h2, .long y5, .long y6, .int x26, .ref h3, .int x27, .ref h30, .ref h31, .ref h32, .ref h33, .int x28, .int x29, .int x30, .int x31, .ref h34, .ref h35, .int x32, .int x33, .ref h36]))] [(h1, .inl (gI g, 400, .inl fn0)), (h2, .inl (gJ g, 2400, .inr (.inl fm0))), (h3, .inl (gJ g, 48, .inr (.inl fm1)))] (fun sz => c65_X12_stops l g h0 2 h4 x1 h5 x2 x3 x4 h6 h7 h8 h9 x5 x6 x7 h10 h11 h12 h13 x8 x9 x10 y0 x11 x12 y1 y2 h14 h15 h16 h17 y3 x13 h18 x14 x15 x16 x17 h19 h20 h21 h22 h23 h24 h25 h26 h27 h28 h29 x18 x19 x20 x21 x22 x23 x24 y4 x25 h1 h2 y5 y6 x26 h3 x27 h30 h31 h32 h33 x28 x29 x30 x31 h34 h35 x32 x33 h36 (by decide) i_x1 i_x2 i_x4 i_x7 i_x8 i_x11 i_x12 i_y1 i_y2 i_x13 i_x14 i_x15 i_x16 i_x17 i_x19 i_x20 i_x21 i_x22 i_x23 i_x25 i_x26 i_x27 i_x28 i_x29 i_x30 i_x31 i_x32 i_x33 sz) gX12_straight_X12_stops rfl ⟨rfl, rfl⟩ 1 (by decide) ⟨Nat.le_of_ble_eq_true rfl, Nat.le_of_ble_eq_true rfl⟩ 0 rfl rfl [0] [1, 2, 3] rfl rfl (by decide) (by decide) (by decide) rfl rfl (Nat.le_of_ble_eq_true rfl) ⟨Nat.le_of_ble_eq_true rfl, Nat.le_of_ble_eq_true rfl⟩ (fun r175 z174 w176 => ?_)
      refine r_ws [(h1, .inl (gI g, 400, .inl fn0)), (h2, .inl (gJ g, 2400, .inr (.inl fm0))), (h3, .inl (gJ g, 48, .inr (.inl fm1))), (h0, .inr (11, [.ref h4, .int x1, .ref h5, .int x2, .int x3, .int x4, .ref h6, .ref h7, .ref h8, .ref h9, .int x5, .int x6, .int x7, .ref h10, .ref h11, .ref h12, .ref h13, .int x8, .int x9, .int x10, .long y0, .int x11, .int x12, .long y1, .long y2, .ref h14, .ref h15, .ref h16, .ref h17, .long y3, .int x13, .ref h18, .int x14, .int x15, .int x16, .int x17, .ref h19, .ref h20, .ref h21, .ref h22, .ref h23, .ref h24, .ref h25, .ref h26, .ref h27, .ref h28, .ref h29, .int x18, .int x19, .int z174, .int x21, .int x22, .int x23, .int x24, .long y4, .int x25, .ref h1, .ref h2, .long y5, .long y6, .int x26, .ref h3, .int x27, .ref h30, .ref h31, .ref h32, .ref h33, .int x28, .int x29, .int x30, .int x31, .ref h34, .ref h35, .int x32, .int x33, .ref h36]))] rfl ?_
      have p177 : 0 = r175 := (w176.1).symm
      subst p177
      have p178 : 0 ≤ (Int32.toInt z174) := w176.2.1
      have p179 : (Int32.toInt z174) ≤ 9 := w176.2.2.1
      have p180 : (1 ≤ (Int32.toInt z174)) := w176.2.2.2
      exact r_zret 25 Rt dX12_straight_25 (by decide) (z174, x21, y5, y6, x26, fn0, fm0) (show 0 ≤ (Int32.toInt 0) ∧ (Int32.toInt 0) ≤ 1 ∧ 0 ≤ (Int32.toInt z174) ∧ (Int32.toInt z174) ≤ 9 ∧ 0 ≤ (Int32.toInt x21) ∧ (Int32.toInt x21) ≤ 400 ∧ 0 ≤ (Int32.toInt x26) ∧ (Int32.toInt x26) ≤ 1 ∧ ((Int32.toInt x21) ≤ (Int32.toInt x22)) ∧ ((0 = 0 ∧ 1 ≤ (Int32.toInt z174)) ∨ (0 = 1 ∧ (Int32.toInt z174) = (Int32.toInt x20))) from ⟨(by decide), (by decide), (show _ ∧ _ from ⟨p178, p179⟩).1, (show _ ∧ _ from ⟨p178, p179⟩).2, i_x21.1, i_x21.2, i_x26.1, i_x26.2, (by first | omega | ((repeat' apply And.intro) <;> first | trivial | rfl | assumption | omega | decide | exact Or.inl rfl | exact Or.inr (Or.inl rfl) | exact Or.inr (Or.inr rfl) | exact Or.inr (Or.inr (by assumption)))), (by first | omega | ((repeat' apply And.intro) <;> first | trivial | rfl | assumption | omega | decide | exact Or.inl rfl | exact Or.inr (Or.inl rfl) | exact Or.inr (Or.inr rfl) | exact Or.inr (Or.inr (by assumption))))⟩) [3, 0, 1, 2] (by decide) rfl (Nat.le_of_ble_eq_true rfl) (Nat.le_of_ble_eq_true rfl)
set_option maxHeartbeats 4000000 in
set_option maxRecDepth 100000 in
theorem c117_X12_byTurns (l : Launch) (g : GD) (h0 : Nat) (h1 : Nat) (h2 : Nat) (h3 : Nat) (x0 : Int32) (h4 : Nat) (x1 : Int32) (h5 : Nat) (x2 : Int32) (x3 : Int32) (x4 : Int32) (h6 : Nat) (h7 : Nat) (h8 : Nat) (h9 : Nat) (x5 : Int32) (x6 : Int32) (x7 : Int32) (h10 : Nat) (h11 : Nat) (h12 : Nat) (h13 : Nat) (x8 : Int32) (x9 : Int32) (x10 : Int32) (y0 : Int64) (x11 : Int32) (x12 : Int32) (y1 : Int64) (y2 : Int64) (h14 : Nat) (h15 : Nat) (h16 : Nat) (h17 : Nat) (y3 : Int64) (x13 : Int32) (h18 : Nat) (x14 : Int32) (x15 : Int32) (x16 : Int32) (x17 : Int32) (h19 : Nat) (h20 : Nat) (h21 : Nat) (h22 : Nat) (h23 : Nat) (h24 : Nat) (h25 : Nat) (h26 : Nat) (h27 : Nat) (h28 : Nat) (h29 : Nat) (x18 : Int32) (x19 : Int32) (x20 : Int32) (x21 : Int32) (x22 : Int32) (x23 : Int32) (x24 : Int32) (y4 : Int64) (x25 : Int32) (y5 : Int64) (y6 : Int64) (x26 : Int32) (x27 : Int32) (h30 : Nat) (h31 : Nat) (h32 : Nat) (h33 : Nat) (x28 : Int32) (x29 : Int32) (x30 : Int32) (x31 : Int32) (h34 : Nat) (h35 : Nat) (x32 : Int32) (x33 : Int32) (h36 : Nat) (fn0 : Nat → Int32) (fm0 : Nat → Int64) (fm1 : Nat → Int64) (i_x0 : (0 ≤ (Int32.toInt x0) ∧ (Int32.toInt x0) ≤ 1)) (i_x1 : (0 ≤ (Int32.toInt x1) ∧ (Int32.toInt x1) ≤ 1500)) (i_x2 : (0 ≤ (Int32.toInt x2) ∧ (Int32.toInt x2) ≤ 1508)) (i_x4 : (0 ≤ (Int32.toInt x4) ∧ (Int32.toInt x4) ≤ 0)) (i_x7 : (0 ≤ (Int32.toInt x7) ∧ (Int32.toInt x7) ≤ 3)) (i_x8 : (0 ≤ (Int32.toInt x8) ∧ (Int32.toInt x8) ≤ 4500)) (i_x11 : (0 ≤ (Int32.toInt x11) ∧ (Int32.toInt x11) ≤ 65535)) (i_x12 : (0 ≤ (Int32.toInt x12) ∧ (Int32.toInt x12) ≤ 255)) (i_y1 : (0 ≤ (Int64.toInt y1) ∧ (Int64.toInt y1) ≤ 1500)) (i_y2 : (0 ≤ (Int64.toInt y2) ∧ (Int64.toInt y2) ≤ 1500)) (i_x13 : (0 ≤ (Int32.toInt x13) ∧ (Int32.toInt x13) ≤ 1)) (i_x14 : (0 ≤ (Int32.toInt x14) ∧ (Int32.toInt x14) ≤ 1500)) (i_x15 : (0 ≤ (Int32.toInt x15) ∧ (Int32.toInt x15) ≤ 1501)) (i_x16 : (0 ≤ (Int32.toInt x16) ∧ (Int32.toInt x16) ≤ 1500)) (i_x17 : (0 ≤ (Int32.toInt x17) ∧ (Int32.toInt x17) ≤ 1500)) (i_x19 : (0 ≤ (Int32.toInt x19) ∧ (Int32.toInt x19) ≤ 1)) (i_x20 : (0 ≤ (Int32.toInt x20) ∧ (Int32.toInt x20) ≤ 9)) (i_x21 : (0 ≤ (Int32.toInt x21) ∧ (Int32.toInt x21) ≤ 400)) (i_x22 : (0 ≤ (Int32.toInt x22) ∧ (Int32.toInt x22) ≤ 400)) (i_x23 : (0 ≤ (Int32.toInt x23) ∧ (Int32.toInt x23) ≤ 3000)) (i_x25 : (0 ≤ (Int32.toInt x25) ∧ (Int32.toInt x25) ≤ 1)) (i_x26 : (0 ≤ (Int32.toInt x26) ∧ (Int32.toInt x26) ≤ 1)) (i_x27 : (0 ≤ (Int32.toInt x27) ∧ (Int32.toInt x27) ≤ 48)) (i_x28 : (0 ≤ (Int32.toInt x28) ∧ (Int32.toInt x28) ≤ 10)) (i_x29 : (0 ≤ (Int32.toInt x29) ∧ (Int32.toInt x29) ≤ 1)) (i_x30 : (0 ≤ (Int32.toInt x30) ∧ (Int32.toInt x30) ≤ 1)) (i_x31 : (0 ≤ (Int32.toInt x31) ∧ (Int32.toInt x31) ≤ 7)) (i_x32 : (0 ≤ (Int32.toInt x32) ∧ (Int32.toInt x32) ≤ 24)) (i_x33 : (0 ≤ (Int32.toInt x33) ∧ (Int32.toInt x33) ≤ 1)) (pre0 : ((Int32.toInt x21) ≤ (Int32.toInt x22))) (sz : Nat) : Met l yX12_byTurns wsX12_byTurns ({ frames := 3, cells := 0, slots := 0, locals := 74 }) (va_Pc [.ref h0, .int x0] (PW g [(h0, .inr (11, [.ref h4, .int x1, .ref h5, .int x2, .int x3, .int x4, .ref h6, .ref h7, .ref h8, .ref h9, .int x5, .int x6, .int x7, .ref h10, .ref h11, .ref h12, .ref h13, .int x8, .int x9, .int x10, .long y0, .int x11, .int x12, .long y1, .long y2, .ref h14, .ref h15, .ref h16, .ref h17, .long y3, .int x13, .ref h18, .int x14, .int x15, .int x16, .int x17, .ref h19, .ref h20, .ref h21, .ref h22, .ref h23, .ref h24, .ref h25, .ref h26, .ref h27, .ref h28, .ref h29, .int x18, .int x19, .int x20, .int x21, .int x22, .int x23, .int x24, .long y4, .int x25, .ref h1, .ref h2, .long y5, .long y6, .int x26, .ref h3, .int x27, .ref h30, .ref h31, .ref h32, .ref h33, .int x28, .int x29, .int x30, .int x31, .ref h34, .ref h35, .int x32, .int x33, .ref h36])), (h1, .inl (gI g, 400, .inl fn0)), (h2, .inl (gJ g, 2400, .inr (.inl fm0))), (h3, .inl (gJ g, 48, .inr (.inl fm1)))] sz)) (va_Qi (fun (r : Int32) (u : (Int32) × (Int32) × (Int64) × (Int64) × (Int32) × (Nat → Int32) × (Nat → Int64)) => 0 ≤ (Int32.toInt r) ∧ (Int32.toInt r) ≤ 1 ∧ 0 ≤ (Int32.toInt (u.1)) ∧ (Int32.toInt (u.1)) ≤ 9 ∧ 0 ≤ (Int32.toInt (u.2.1)) ∧ (Int32.toInt (u.2.1)) ≤ 400 ∧ 0 ≤ (Int32.toInt (u.2.2.2.2.1)) ∧ (Int32.toInt (u.2.2.2.2.1)) ≤ 1 ∧ ((Int32.toInt (u.2.1)) ≤ (Int32.toInt x22)) ∧ (((Int32.toInt r) = 0 ∧ 1 ≤ (Int32.toInt (u.1))) ∨ ((Int32.toInt r) = 1 ∧ (Int32.toInt (u.1)) = (Int32.toInt x20)))) (BW g (va_A [(h0, .inr (11, [.ref h4, .int x1, .ref h5, .int x2, .int x3, .int x4, .ref h6, .ref h7, .ref h8, .ref h9, .int x5, .int x6, .int x7, .ref h10, .ref h11, .ref h12, .ref h13, .int x8, .int x9, .int x10, .long y0, .int x11, .int x12, .long y1, .long y2, .ref h14, .ref h15, .ref h16, .ref h17, .long y3, .int x13, .ref h18, .int x14, .int x15, .int x16, .int x17, .ref h19, .ref h20, .ref h21, .ref h22, .ref h23, .ref h24, .ref h25, .ref h26, .ref h27, .ref h28, .ref h29, .int x18, .int x19, .int x20, .int x21, .int x22, .int x23, .int x24, .long y4, .int x25, .ref h1, .ref h2, .long y5, .long y6, .int x26, .ref h3, .int x27, .ref h30, .ref h31, .ref h32, .ref h33, .int x28, .int x29, .int x30, .int x31, .ref h34, .ref h35, .int x32, .int x33, .ref h36])), (h1, .inl (gI g, 400, .inl fn0)), (h2, .inl (gJ g, 2400, .inr (.inl fm0))), (h3, .inl (gJ g, 48, .inr (.inl fm1)))] sz) (fun u : (Int32) × (Int32) × (Int64) × (Int64) × (Int32) × (Nat → Int32) × (Nat → Int64) => [(h0, .inr (11, [.ref h4, .int x1, .ref h5, .int x2, .int x3, .int x4, .ref h6, .ref h7, .ref h8, .ref h9, .int x5, .int x6, .int x7, .ref h10, .ref h11, .ref h12, .ref h13, .int x8, .int x9, .int x10, .long y0, .int x11, .int x12, .long y1, .long y2, .ref h14, .ref h15, .ref h16, .ref h17, .long y3, .int x13, .ref h18, .int x14, .int x15, .int x16, .int x17, .ref h19, .ref h20, .ref h21, .ref h22, .ref h23, .ref h24, .ref h25, .ref h26, .ref h27, .ref h28, .ref h29, .int x18, .int x19, .int u.1, .int u.2.1, .int x22, .int x23, .int x24, .long y4, .int x25, .ref h1, .ref h2, .long u.2.2.1, .long u.2.2.2.1, .int u.2.2.2.2.1, .ref h3, .int x27, .ref h30, .ref h31, .ref h32, .ref h33, .int x28, .int x29, .int x30, .int x31, .ref h34, .ref h35, .int x32, .int x33, .ref h36])), (h1, .inl (gI g, 400, .inl u.2.2.2.2.2.1)), (h2, .inl (gJ g, 2400, .inr (.inl u.2.2.2.2.2.2))), (h3, .inl (gJ g, 48, .inr (.inl fm1)))])) (va_A [(h0, .inr (11, [.ref h4, .int x1, .ref h5, .int x2, .int x3, .int x4, .ref h6, .ref h7, .ref h8, .ref h9, .int x5, .int x6, .int x7, .ref h10, .ref h11, .ref h12, .ref h13, .int x8, .int x9, .int x10, .long y0, .int x11, .int x12, .long y1, .long y2, .ref h14, .ref h15, .ref h16, .ref h17, .long y3, .int x13, .ref h18, .int x14, .int x15, .int x16, .int x17, .ref h19, .ref h20, .ref h21, .ref h22, .ref h23, .ref h24, .ref h25, .ref h26, .ref h27, .ref h28, .ref h29, .int x18, .int x19, .int x20, .int x21, .int x22, .int x23, .int x24, .long y4, .int x25, .ref h1, .ref h2, .long y5, .long y6, .int x26, .ref h3, .int x27, .ref h30, .ref h31, .ref h32, .ref h33, .int x28, .int x29, .int x30, .int x31, .ref h34, .ref h35, .int x32, .int x33, .ref h36])), (h1, .inl (gI g, 400, .inl fn0)), (h2, .inl (gJ g, 2400, .inr (.inl fm0))), (h3, .inl (gJ g, 48, .inr (.inl fm1)))] sz)) 0 0 (va_A [(h0, .inr (11, [.ref h4, .int x1, .ref h5, .int x2, .int x3, .int x4, .ref h6, .ref h7, .ref h8, .ref h9, .int x5, .int x6, .int x7, .ref h10, .ref h11, .ref h12, .ref h13, .int x8, .int x9, .int x10, .long y0, .int x11, .int x12, .long y1, .long y2, .ref h14, .ref h15, .ref h16, .ref h17, .long y3, .int x13, .ref h18, .int x14, .int x15, .int x16, .int x17, .ref h19, .ref h20, .ref h21, .ref h22, .ref h23, .ref h24, .ref h25, .ref h26, .ref h27, .ref h28, .ref h29, .int x18, .int x19, .int x20, .int x21, .int x22, .int x23, .int x24, .long y4, .int x25, .ref h1, .ref h2, .long y5, .long y6, .int x26, .ref h3, .int x27, .ref h30, .ref h31, .ref h32, .ref h33, .int x28, .int x29, .int x30, .int x31, .ref h34, .ref h35, .int x32, .int x33, .ref h36])), (h1, .inl (gI g, 400, .inl fn0)), (h2, .inl (gJ g, 2400, .inr (.inl fm0))), (h3, .inl (gJ g, 48, .inr (.inl fm1)))] sz) := by
  refine met_z RX12 (by decide) rfl rfl (Nat.le_of_ble_eq_true rfl) [(0, .ref h0), (1, .int x0)] rfl ?_
  intro p e s m args below meth c A Q C hnm Rt
  have hiX12 : ∀ w ∈ wsX120, w ∈ wsX12_byTurns := fun w h => List.mem_cons_of_mem _ (List.mem_append_right _ (h))
  refine r_aload_n 0 0 C dX12_byTurns_0 rfl ?_
  refine r_get 1 C dX12_byTurns_1 (k := 62) 0 rfl rfl hiX12 (by decide) rfl (mg 1 rfl) (Or.inl rfl) rfl ?_
  refine r_iconst 4 4 C dX12_byTurns_4 (by decide) ?_
  refine r_icmp_lt 5 18 C dX12_byTurns_5 (by decide) (fun c1 => ?_) (fun c1 => ?_)
  · skip
    have k2 : (Int32.toInt x27) < 4 := (fa_lt x27 4).mp c1
    refine r_aload_n 18 0 C dX12_byTurns_18 rfl ?_
    refine r_iconst 19 2 C dX12_byTurns_19 (by decide) ?_
    refine r_callVi 20 C dX12_byTurns_20 [] [(h0, .inr (11, [.ref h4, .int x1, .ref h5, .int x2, .int x3, .int x4, .ref h6, .ref h7, .ref h8, .ref h9, .int x5, .int x6, .int x7, .ref h10, .ref h11, .ref h12, .ref h13, .int x8, .int x9, .int x10, .long y0, .int x11, .int x12, .long y1, .long y2, .ref h14, .ref h15, .ref h16, .ref h17, .long y3, .int x13, .ref h18, .int x14, .int x15, .int x16, .int x17, .ref h19, .ref h20, .ref h21, .ref h22, .ref h23, .ref h24, .ref h25, .ref h26, .ref h27, .ref h28, .ref h29, .int x18, .int x19, .int x20, .int x21, .int x22, .int x23, .int x24, .long y4, .int x25, .ref h1, .ref h2, .long y5, .long y6, .int x26, .ref h3, .int x27, .ref h30, .ref h31, .ref h32, .ref h33, .int x28, .int x29, .int x30, .int x31, .ref h34, .ref h35, .int x32, .int x33, .ref h36]))] [(h1, .inl (gI g, 400, .inl fn0)), (h2, .inl (gJ g, 2400, .inr (.inl fm0))), (h3, .inl (gJ g, 48, .inr (.inl fm1)))] (fun sz => c65_X12_stops l g h0 2 h4 x1 h5 x2 x3 x4 h6 h7 h8 h9 x5 x6 x7 h10 h11 h12 h13 x8 x9 x10 y0 x11 x12 y1 y2 h14 h15 h16 h17 y3 x13 h18 x14 x15 x16 x17 h19 h20 h21 h22 h23 h24 h25 h26 h27 h28 h29 x18 x19 x20 x21 x22 x23 x24 y4 x25 h1 h2 y5 y6 x26 h3 x27 h30 h31 h32 h33 x28 x29 x30 x31 h34 h35 x32 x33 h36 (by decide) i_x1 i_x2 i_x4 i_x7 i_x8 i_x11 i_x12 i_y1 i_y2 i_x13 i_x14 i_x15 i_x16 i_x17 i_x19 i_x20 i_x21 i_x22 i_x23 i_x25 i_x26 i_x27 i_x28 i_x29 i_x30 i_x31 i_x32 i_x33 sz) gX12_byTurns_X12_stops rfl ⟨rfl, rfl⟩ 1 (by decide) ⟨Nat.le_of_ble_eq_true rfl, Nat.le_of_ble_eq_true rfl⟩ 0 rfl rfl [0] [1, 2, 3] rfl rfl (by decide) (by decide) (by decide) rfl rfl (Nat.le_of_ble_eq_true rfl) ⟨Nat.le_of_ble_eq_true rfl, Nat.le_of_ble_eq_true rfl⟩ (fun r4 z3 w5 => ?_)
    refine r_ws [(h1, .inl (gI g, 400, .inl fn0)), (h2, .inl (gJ g, 2400, .inr (.inl fm0))), (h3, .inl (gJ g, 48, .inr (.inl fm1))), (h0, .inr (11, [.ref h4, .int x1, .ref h5, .int x2, .int x3, .int x4, .ref h6, .ref h7, .ref h8, .ref h9, .int x5, .int x6, .int x7, .ref h10, .ref h11, .ref h12, .ref h13, .int x8, .int x9, .int x10, .long y0, .int x11, .int x12, .long y1, .long y2, .ref h14, .ref h15, .ref h16, .ref h17, .long y3, .int x13, .ref h18, .int x14, .int x15, .int x16, .int x17, .ref h19, .ref h20, .ref h21, .ref h22, .ref h23, .ref h24, .ref h25, .ref h26, .ref h27, .ref h28, .ref h29, .int x18, .int x19, .int z3, .int x21, .int x22, .int x23, .int x24, .long y4, .int x25, .ref h1, .ref h2, .long y5, .long y6, .int x26, .ref h3, .int x27, .ref h30, .ref h31, .ref h32, .ref h33, .int x28, .int x29, .int x30, .int x31, .ref h34, .ref h35, .int x32, .int x33, .ref h36]))] rfl ?_
    have p6 : 0 = r4 := (w5.1).symm
    subst p6
    have p7 : 0 ≤ (Int32.toInt z3) := w5.2.1
    have p8 : (Int32.toInt z3) ≤ 9 := w5.2.2.1
    have p9 : (1 ≤ (Int32.toInt z3)) := w5.2.2.2
    exact r_zret 23 Rt dX12_byTurns_23 (by decide) (z3, x21, y5, y6, x26, fn0, fm0) (show 0 ≤ (Int32.toInt 0) ∧ (Int32.toInt 0) ≤ 1 ∧ 0 ≤ (Int32.toInt z3) ∧ (Int32.toInt z3) ≤ 9 ∧ 0 ≤ (Int32.toInt x21) ∧ (Int32.toInt x21) ≤ 400 ∧ 0 ≤ (Int32.toInt x26) ∧ (Int32.toInt x26) ≤ 1 ∧ ((Int32.toInt x21) ≤ (Int32.toInt x22)) ∧ ((0 = 0 ∧ 1 ≤ (Int32.toInt z3)) ∨ (0 = 1 ∧ (Int32.toInt z3) = (Int32.toInt x20))) from ⟨(by decide), (by decide), (show _ ∧ _ from ⟨p7, p8⟩).1, (show _ ∧ _ from ⟨p7, p8⟩).2, i_x21.1, i_x21.2, i_x26.1, i_x26.2, (by first | omega | ((repeat' apply And.intro) <;> first | trivial | rfl | assumption | omega | decide | exact Or.inl rfl | exact Or.inr (Or.inl rfl) | exact Or.inr (Or.inr rfl) | exact Or.inr (Or.inr (by assumption)))), (by first | omega | ((repeat' apply And.intro) <;> first | trivial | rfl | assumption | omega | decide | exact Or.inl rfl | exact Or.inr (Or.inl rfl) | exact Or.inr (Or.inr rfl) | exact Or.inr (Or.inr (by assumption))))⟩) [3, 0, 1, 2] (by decide) rfl (Nat.le_of_ble_eq_true rfl) (Nat.le_of_ble_eq_true rfl)
  · skip
    have k10 : ¬ ((Int32.toInt x27) < 4) := fun h_9 => c1 ((fa_lt x27 4).mpr h_9)
    refine r_aload_n 8 0 C dX12_byTurns_8 rfl ?_
    refine r_get 9 C dX12_byTurns_9 (k := 62) 0 rfl rfl hiX12 (by decide) rfl (mg 1 rfl) (Or.inl rfl) rfl ?_
    refine r_iconst 12 4 C dX12_byTurns_12 (by decide) ?_
    obtain ⟨z11, ez11⟩ : ∃ z_9, x27 - x27 / 4 * 4 = z_9 := ⟨_, rfl⟩
    have tz11 : (Int32.toInt z11) = (Int32.toInt x27) % 4 := by rw [← ez11]; exact rem_nn (by omega) (n := 4) (by decide) (by decide)
    refine r_irem 13 z11 C dX12_byTurns_13 (by decide) ez11 ?_
    refine r_iconst 14 1 C dX12_byTurns_14 (by decide) ?_
    refine r_icmp_le 15 24 C dX12_byTurns_15 (by decide) (fun c12 => ?_) (fun c12 => ?_)
    · skip
      have k13 : (Int32.toInt z11) ≤ 1 := (fa_le z11 1).mp c12
      refine r_iload_n 24 1 C dX12_byTurns_24 rfl ?_
      refine r_istore_n 25 C dX12_byTurns_25 [(2, .int x0), (0, .ref h0), (1, .int x0)] (by decide) rfl ?_
      refine r_iconst 26 0 C dX12_byTurns_26 (by decide) ?_
      refine r_istore_n 27 C dX12_byTurns_27 [(3, .int 0), (2, .int x0), (0, .ref h0), (1, .int x0)] (by decide) rfl ?_
      have lp24 : ∀ (n23 : Nat) (z14 : Int32) (z15 : Int32) (z16 : Int32) (z17 : Int32) (z18 : Int64) (z19 : Int64) (z20 : Int32) (f21 : Nat → Int32) (f22 : Nat → Int64), (0 ≤ (Int32.toInt z14) ∧ (Int32.toInt z14) ≤ 48) → (0 ≤ (Int32.toInt z15) ∧ (Int32.toInt z15) ≤ 1) → (0 ≤ (Int32.toInt z16) ∧ (Int32.toInt z16) ≤ 9) → (0 ≤ (Int32.toInt z17) ∧ (Int32.toInt z17) ≤ 400) → (0 ≤ (Int32.toInt z20) ∧ (Int32.toInt z20) ≤ 1) → ((Int32.toInt z17) ≤ (Int32.toInt x22)) → ((Int32.toInt z16) = (Int32.toInt x20)) → Int.toNat (48 - (Int32.toInt z14)) < n23 → WW p l e ({ frames := 3, cells := 0, slots := 0, locals := 74 } : Room) s m args below meth c A Q g 6 0 0 [(h0, .inr (11, [.ref h4, .int x1, .ref h5, .int x2, .int x3, .int x4, .ref h6, .ref h7, .ref h8, .ref h9, .int x5, .int x6, .int x7, .ref h10, .ref h11, .ref h12, .ref h13, .int x8, .int x9, .int x10, .long y0, .int x11, .int x12, .long y1, .long y2, .ref h14, .ref h15, .ref h16, .ref h17, .long y3, .int x13, .ref h18, .int x14, .int x15, .int x16, .int x17, .ref h19, .ref h20, .ref h21, .ref h22, .ref h23, .ref h24, .ref h25, .ref h26, .ref h27, .ref h28, .ref h29, .int x18, .int x19, .int z16, .int z17, .int x22, .int x23, .int x24, .long y4, .int x25, .ref h1, .ref h2, .long z18, .long z19, .int z20, .ref h3, .int x27, .ref h30, .ref h31, .ref h32, .ref h33, .int x28, .int x29, .int x30, .int x31, .ref h34, .ref h35, .int x32, .int x33, .ref h36])), (h1, .inl (gI g, 400, .inl f21)), (h2, .inl (gJ g, 2400, .inr (.inl f22))), (h3, .inl (gJ g, 48, .inr (.inl fm1)))] 28 [(3, .int z14), (2, .int z15), (0, .ref h0), (1, .int x0)] [] := by
        intro n23
        induction n23 with
        | zero => intro z14 z15 z16 z17 z18 z19 z20 f21 f22 i27 i28 i29 i30 i31 j32 j33 hm26; exact absurd hm26 (Nat.not_lt_zero _)
        | succ n23 ih25 =>
          intro z14 z15 z16 z17 z18 z19 z20 f21 f22 i27 i28 i29 i30 i31 j32 j33 hm26
          obtain ⟨i27a, i27b⟩ := i27
          obtain ⟨i28a, i28b⟩ := i28
          obtain ⟨i29a, i29b⟩ := i29
          obtain ⟨i30a, i30b⟩ := i30
          obtain ⟨i31a, i31b⟩ := i31
          have gz18 := fb_rngL z18
          have gz19 := fb_rngL z19
          refine r_iload_n 28 0 C dX12_byTurns_28 rfl ?_
          refine r_iconst 29 4 C dX12_byTurns_29 (by decide) ?_
          obtain ⟨z34, ez34⟩ : ∃ z_9, z14 + 4 = z_9 := ⟨_, rfl⟩
          have tz34 : (Int32.toInt z34) = (Int32.toInt z14) + 4 := by rw [← ez34]; exact fb_addIv (a := 0) (b := 48) (c := 4) (d := 4) ⟨i27a, i27b⟩ ⟨by decide, by decide⟩ (by decide) (by decide)
          refine r_iadd 30 z34 C dX12_byTurns_30 ez34 ?_
          refine r_aload_n 31 2 C dX12_byTurns_31 rfl ?_
          refine r_get 32 C dX12_byTurns_32 (k := 62) 0 rfl rfl hiX12 (by decide) rfl (mg 1 rfl) (Or.inl rfl) rfl ?_
          refine r_icmp_gt 35 167 C dX12_byTurns_35 (by decide) (fun c35 => ?_) (fun c35 => ?_)
          · skip
            have k36 : (Int32.toInt x27) < (Int32.toInt z34) := (fa_lt x27 z34).mp c35
            refine r_iconst 167 1 C dX12_byTurns_167 (by decide) ?_
            exact r_zret 168 Rt dX12_byTurns_168 (by decide) (z16, z17, z18, z19, z20, f21, f22) (show 0 ≤ (Int32.toInt 1) ∧ (Int32.toInt 1) ≤ 1 ∧ 0 ≤ (Int32.toInt z16) ∧ (Int32.toInt z16) ≤ 9 ∧ 0 ≤ (Int32.toInt z17) ∧ (Int32.toInt z17) ≤ 400 ∧ 0 ≤ (Int32.toInt z20) ∧ (Int32.toInt z20) ≤ 1 ∧ ((Int32.toInt z17) ≤ (Int32.toInt x22)) ∧ ((1 = 0 ∧ 1 ≤ (Int32.toInt z16)) ∨ (1 = 1 ∧ (Int32.toInt z16) = (Int32.toInt x20))) from ⟨(by decide), (by decide), (show _ ∧ _ from ⟨i29a, i29b⟩).1, (show _ ∧ _ from ⟨i29a, i29b⟩).2, (show _ ∧ _ from ⟨i30a, i30b⟩).1, (show _ ∧ _ from ⟨i30a, i30b⟩).2, (show _ ∧ _ from ⟨i31a, i31b⟩).1, (show _ ∧ _ from ⟨i31a, i31b⟩).2, (by first | omega | ((repeat' apply And.intro) <;> first | trivial | rfl | assumption | omega | decide | exact Or.inl rfl | exact Or.inr (Or.inl rfl) | exact Or.inr (Or.inr rfl) | exact Or.inr (Or.inr (by assumption)))), (by first | omega | ((repeat' apply And.intro) <;> first | trivial | rfl | assumption | omega | decide | exact Or.inl rfl | exact Or.inr (Or.inl rfl) | exact Or.inr (Or.inr rfl) | exact Or.inr (Or.inr (by assumption))))⟩) [0, 1, 2, 3] (by decide) rfl (Nat.le_of_ble_eq_true rfl) (Nat.le_of_ble_eq_true rfl)
          · skip
            have k37 : ¬ ((Int32.toInt x27) < (Int32.toInt z34)) := fun h_9 => c35 ((fa_lt x27 z34).mpr h_9)
            refine r_iload_n 38 0 C dX12_byTurns_38 rfl ?_
            refine r_iconst 39 5 C dX12_byTurns_39 (by decide) ?_
            obtain ⟨z38, ez38⟩ : ∃ z_9, z14 + 5 = z_9 := ⟨_, rfl⟩
            have tz38 : (Int32.toInt z38) = (Int32.toInt z14) + 5 := by rw [← ez38]; exact fb_addIv (a := 0) (b := 48) (c := 5) (d := 5) ⟨i27a, i27b⟩ ⟨by decide, by decide⟩ (by decide) (by decide)
            refine r_iadd 40 z38 C dX12_byTurns_40 ez38 ?_
            refine r_aload_n 41 2 C dX12_byTurns_41 rfl ?_
            refine r_get 42 C dX12_byTurns_42 (k := 62) 0 rfl rfl hiX12 (by decide) rfl (mg 1 rfl) (Or.inl rfl) rfl ?_
            refine r_icmp_ne 45 59 C dX12_byTurns_45 (by decide) (fun c39 => ?_) (fun c39 => ?_)
            · skip
              have k40 : ¬ ((Int32.toInt z38) = (Int32.toInt x27)) := fun h_9 => c39 ((fa_eq z38 x27).mpr h_9)
              refine r_lconst 59 0 C dX12_byTurns_59 (by decide) ?_
              refine r_lstore 60 C dX12_byTurns_60 [(4, .long 0), (3, .int z14), (2, .int z15), (0, .ref h0), (1, .int x0)] (by decide) rfl ?_
              refine r_iload_n 62 2 C dX12_byTurns_62 rfl ?_
              refine r_if_eq 63 109 C dX12_byTurns_63 (by decide) (fun c41 => ?_) (fun c41 => ?_)
              · skip
                have k42 : (Int32.toInt z15) = 0 := (fa_eq z15 0).mp c41
                refine r_aload_n 109 3 C dX12_byTurns_109 rfl ?_
                refine r_lconst 110 0 C dX12_byTurns_110 (by decide) ?_
                refine r_aload_n 111 3 C dX12_byTurns_111 rfl ?_
                refine r_get 112 C dX12_byTurns_112 (k := 61) 0 rfl rfl hiX12 (by decide) rfl (mg 2 rfl) (Or.inl rfl) rfl ?_
                refine r_iload_n 115 1 C dX12_byTurns_115 rfl ?_
                obtain ⟨z43, ez43⟩ : ∃ z_9, fm1 (Int32.toNatClampNeg z14) = z_9 := ⟨_, rfl⟩
                refine r_lald 116 z43 C dX12_byTurns_116 3 rfl (vinI (by omega) (by omega)) ez43 ?_
                have gz43 := fb_rngL z43
                refine r_aload_n 117 3 C dX12_byTurns_117 rfl ?_
                refine r_get 118 C dX12_byTurns_118 (k := 61) 0 rfl rfl hiX12 (by decide) rfl (mg 2 rfl) (Or.inl rfl) rfl ?_
                refine r_iload_n 121 1 C dX12_byTurns_121 rfl ?_
                refine r_iconst 122 1 C dX12_byTurns_122 (by decide) ?_
                obtain ⟨z44, ez44⟩ : ∃ z_9, z14 + 1 = z_9 := ⟨_, rfl⟩
                have tz44 : (Int32.toInt z44) = (Int32.toInt z14) + 1 := by rw [← ez44]; exact fb_addIv (a := 0) (b := 48) (c := 1) (d := 1) ⟨i27a, i27b⟩ ⟨by decide, by decide⟩ (by decide) (by decide)
                refine r_iadd 123 z44 C dX12_byTurns_123 ez44 ?_
                obtain ⟨z45, ez45⟩ : ∃ z_9, fm1 (Int32.toNatClampNeg z44) = z_9 := ⟨_, rfl⟩
                refine r_lald 124 z45 C dX12_byTurns_124 3 rfl (vinI (by omega) (by omega)) ez45 ?_
                have gz45 := fb_rngL z45
                refine r_aload_n 125 3 C dX12_byTurns_125 rfl ?_
                refine r_get 126 C dX12_byTurns_126 (k := 61) 0 rfl rfl hiX12 (by decide) rfl (mg 2 rfl) (Or.inl rfl) rfl ?_
                refine r_iload_n 129 1 C dX12_byTurns_129 rfl ?_
                refine r_iconst 130 2 C dX12_byTurns_130 (by decide) ?_
                obtain ⟨z46, ez46⟩ : ∃ z_9, z14 + 2 = z_9 := ⟨_, rfl⟩
                have tz46 : (Int32.toInt z46) = (Int32.toInt z14) + 2 := by rw [← ez46]; exact fb_addIv (a := 0) (b := 48) (c := 2) (d := 2) ⟨i27a, i27b⟩ ⟨by decide, by decide⟩ (by decide) (by decide)
                refine r_iadd 131 z46 C dX12_byTurns_131 ez46 ?_
                obtain ⟨z47, ez47⟩ : ∃ z_9, fm1 (Int32.toNatClampNeg z46) = z_9 := ⟨_, rfl⟩
                refine r_lald 132 z47 C dX12_byTurns_132 3 rfl (vinI (by omega) (by omega)) ez47 ?_
                have gz47 := fb_rngL z47
                refine r_aload_n 133 3 C dX12_byTurns_133 rfl ?_
                refine r_get 134 C dX12_byTurns_134 (k := 61) 0 rfl rfl hiX12 (by decide) rfl (mg 2 rfl) (Or.inl rfl) rfl ?_
                refine r_iload_n 137 1 C dX12_byTurns_137 rfl ?_
                refine r_iconst 138 3 C dX12_byTurns_138 (by decide) ?_
                obtain ⟨z48, ez48⟩ : ∃ z_9, z14 + 3 = z_9 := ⟨_, rfl⟩
                have tz48 : (Int32.toInt z48) = (Int32.toInt z14) + 3 := by rw [← ez48]; exact fb_addIv (a := 0) (b := 48) (c := 3) (d := 3) ⟨i27a, i27b⟩ ⟨by decide, by decide⟩ (by decide) (by decide)
                refine r_iadd 139 z48 C dX12_byTurns_139 ez48 ?_
                obtain ⟨z49, ez49⟩ : ∃ z_9, fm1 (Int32.toNatClampNeg z48) = z_9 := ⟨_, rfl⟩
                refine r_lald 140 z49 C dX12_byTurns_140 3 rfl (vinI (by omega) (by omega)) ez49 ?_
                have gz49 := fb_rngL z49
                refine r_lload 141 0 C dX12_byTurns_141 rfl ?_
                refine r_callVi 143 C dX12_byTurns_143 [] [(h0, .inr (11, [.ref h4, .int x1, .ref h5, .int x2, .int x3, .int x4, .ref h6, .ref h7, .ref h8, .ref h9, .int x5, .int x6, .int x7, .ref h10, .ref h11, .ref h12, .ref h13, .int x8, .int x9, .int x10, .long y0, .int x11, .int x12, .long y1, .long y2, .ref h14, .ref h15, .ref h16, .ref h17, .long y3, .int x13, .ref h18, .int x14, .int x15, .int x16, .int x17, .ref h19, .ref h20, .ref h21, .ref h22, .ref h23, .ref h24, .ref h25, .ref h26, .ref h27, .ref h28, .ref h29, .int x18, .int x19, .int z16, .int z17, .int x22, .int x23, .int x24, .long y4, .int x25, .ref h1, .ref h2, .long z18, .long z19, .int z20, .ref h3, .int x27, .ref h30, .ref h31, .ref h32, .ref h33, .int x28, .int x29, .int x30, .int x31, .ref h34, .ref h35, .int x32, .int x33, .ref h36])), (h1, .inl (gI g, 400, .inl f21)), (h2, .inl (gJ g, 2400, .inr (.inl f22)))] [(h3, .inl (gJ g, 48, .inr (.inl fm1)))] (fun sz => c114_X12_curve l g h0 h1 h2 0 z43 z45 z47 z49 0 h4 x1 h5 x2 x3 x4 h6 h7 h8 h9 x5 x6 x7 h10 h11 h12 h13 x8 x9 x10 y0 x11 x12 y1 y2 h14 h15 h16 h17 y3 x13 h18 x14 x15 x16 x17 h19 h20 h21 h22 h23 h24 h25 h26 h27 h28 h29 x18 x19 z16 z17 x22 x23 x24 y4 x25 z18 z19 z20 h3 x27 h30 h31 h32 h33 x28 x29 x30 x31 h34 h35 x32 x33 h36 f21 f22 i_x1 i_x2 i_x4 i_x7 i_x8 i_x11 i_x12 i_y1 i_y2 i_x13 i_x14 i_x15 i_x16 i_x17 i_x19 ⟨i29a, i29b⟩ ⟨i30a, i30b⟩ i_x22 i_x23 i_x25 ⟨i31a, i31b⟩ i_x27 i_x28 i_x29 i_x30 i_x31 i_x32 i_x33 (by show ((Int32.toInt z17) ≤ (Int32.toInt x22)); first | assumption | omega) sz) gX12_byTurns_X12_curve rfl ⟨rfl, rfl⟩ 6 (by decide) ⟨Nat.le_of_ble_eq_true rfl, Nat.le_of_ble_eq_true rfl⟩ 0 rfl rfl [0, 1, 2] [3] rfl rfl (by decide) (by decide) (by decide) rfl rfl (Nat.le_of_ble_eq_true rfl) ⟨Nat.le_of_ble_eq_true rfl, Nat.le_of_ble_eq_true rfl⟩ (fun r57 u59 w58 => ?_)
                obtain ⟨z50, z51, z52, z53, z54, f55, f56⟩ := u59
                refine r_ws [(h3, .inl (gJ g, 48, .inr (.inl fm1))), (h0, .inr (11, [.ref h4, .int x1, .ref h5, .int x2, .int x3, .int x4, .ref h6, .ref h7, .ref h8, .ref h9, .int x5, .int x6, .int x7, .ref h10, .ref h11, .ref h12, .ref h13, .int x8, .int x9, .int x10, .long y0, .int x11, .int x12, .long y1, .long y2, .ref h14, .ref h15, .ref h16, .ref h17, .long y3, .int x13, .ref h18, .int x14, .int x15, .int x16, .int x17, .ref h19, .ref h20, .ref h21, .ref h22, .ref h23, .ref h24, .ref h25, .ref h26, .ref h27, .ref h28, .ref h29, .int x18, .int x19, .int z50, .int z51, .int x22, .int x23, .int x24, .long y4, .int x25, .ref h1, .ref h2, .long z52, .long z53, .int z54, .ref h3, .int x27, .ref h30, .ref h31, .ref h32, .ref h33, .int x28, .int x29, .int x30, .int x31, .ref h34, .ref h35, .int x32, .int x33, .ref h36])), (h1, .inl (gI g, 400, .inl f55)), (h2, .inl (gJ g, 2400, .inr (.inl f56)))] rfl ?_
                have gz52 := fb_rngL z52
                have gz53 := fb_rngL z53
                have p60 : 0 ≤ (Int32.toInt r57) := w58.1
                have p61 : (Int32.toInt r57) ≤ 1 := w58.2.1
                have p62 : 0 ≤ (Int32.toInt z50) := w58.2.2.1
                have p63 : (Int32.toInt z50) ≤ 9 := w58.2.2.2.1
                have p64 : 0 ≤ (Int32.toInt z51) := w58.2.2.2.2.1
                have p65 : (Int32.toInt z51) ≤ 400 := w58.2.2.2.2.2.1
                have p66 : 0 ≤ (Int32.toInt z54) := w58.2.2.2.2.2.2.1
                have p67 : (Int32.toInt z54) ≤ 1 := w58.2.2.2.2.2.2.2.1
                have p68 : ((Int32.toInt z51) ≤ (Int32.toInt x22)) := w58.2.2.2.2.2.2.2.2.1
                have p69 : (((Int32.toInt r57) = 0 ∧ 1 ≤ (Int32.toInt z50)) ∨ ((Int32.toInt r57) = 1 ∧ (Int32.toInt z50) = (Int32.toInt z16))) := w58.2.2.2.2.2.2.2.2.2
                rcases p69 with ⟨k70, k71⟩ | p69
                · skip
                  refine r_if_ne_f 146 151 C dX12_byTurns_146 (by decide) ((fa_eq r57 0).mpr (by show (Int32.toInt r57) = 0; omega)) ?_
                  refine r_iconst 149 0 C dX12_byTurns_149 (by decide) ?_
                  exact r_zret 150 Rt dX12_byTurns_150 (by decide) (z50, z51, z52, z53, z54, f55, f56) (show 0 ≤ (Int32.toInt 0) ∧ (Int32.toInt 0) ≤ 1 ∧ 0 ≤ (Int32.toInt z50) ∧ (Int32.toInt z50) ≤ 9 ∧ 0 ≤ (Int32.toInt z51) ∧ (Int32.toInt z51) ≤ 400 ∧ 0 ≤ (Int32.toInt z54) ∧ (Int32.toInt z54) ≤ 1 ∧ ((Int32.toInt z51) ≤ (Int32.toInt x22)) ∧ ((0 = 0 ∧ 1 ≤ (Int32.toInt z50)) ∨ (0 = 1 ∧ (Int32.toInt z50) = (Int32.toInt x20))) from ⟨(by decide), (by decide), (show _ ∧ _ from ⟨p62, p63⟩).1, (show _ ∧ _ from ⟨p62, p63⟩).2, (show _ ∧ _ from ⟨p64, p65⟩).1, (show _ ∧ _ from ⟨p64, p65⟩).2, (show _ ∧ _ from ⟨p66, p67⟩).1, (show _ ∧ _ from ⟨p66, p67⟩).2, (by first | omega | ((repeat' apply And.intro) <;> first | trivial | rfl | assumption | omega | decide | exact Or.inl rfl | exact Or.inr (Or.inl rfl) | exact Or.inr (Or.inr rfl) | exact Or.inr (Or.inr (by assumption)))), (by first | omega | ((repeat' apply And.intro) <;> first | trivial | rfl | assumption | omega | decide | exact Or.inl rfl | exact Or.inr (Or.inl rfl) | exact Or.inr (Or.inr rfl) | exact Or.inr (Or.inr (by assumption))))⟩) [1, 2, 3, 0] (by decide) rfl (Nat.le_of_ble_eq_true rfl) (Nat.le_of_ble_eq_true rfl)
                obtain ⟨k72, k73⟩ := p69
                refine r_if_ne_t 146 151 C dX12_byTurns_146 (by decide) (fun h_9 => by have h_8 : (Int32.toInt r57) = 0 := (fa_eq r57 0).mp h_9; omega) ?_
                refine r_iload_n 151 2 C dX12_byTurns_151 rfl ?_
                refine r_if_ne_f 152 159 C dX12_byTurns_152 (by decide) ((fa_eq z15 0).mpr (by show (Int32.toInt z15) = 0; omega)) ?_
                refine r_iconst 155 1 C dX12_byTurns_155 (by decide) ?_
                refine r_goto 156 160 C dX12_byTurns_156 (by decide) ?_
                refine r_istore_n 160 C dX12_byTurns_160 [(2, .int 1), (4, .long 0), (3, .int z14), (0, .ref h0), (1, .int x0)] (by decide) rfl ?_
                obtain ⟨z74, ez74⟩ : ∃ z_9, z14 + Int32.ofInt 4 = z_9 := ⟨_, rfl⟩
                have tz74 : (Int32.toInt z74) = (Int32.toInt z14) + 4 := by rw [← ez74]; exact fb_addIv (a := 0) (b := 48) (c := 4) (d := 4) ⟨i27a, i27b⟩ ⟨by decide, by decide⟩ (by decide) (by decide)
                refine r_iinc 161 2 z74 C dX12_byTurns_161 rfl ez74 [(3, .int z74), (2, .int 1), (4, .long 0), (0, .ref h0), (1, .int x0)] (by decide) rfl ?_
                refine r_goto 164 28 C dX12_byTurns_164 (by decide) ?_
                refine r_lv [(3, .int z74), (2, .int 1), (0, .ref h0), (1, .int x0)] [0, 1, 3, 4] rfl ?_
                refine r_pick [(h0, .inr (11, [.ref h4, .int x1, .ref h5, .int x2, .int x3, .int x4, .ref h6, .ref h7, .ref h8, .ref h9, .int x5, .int x6, .int x7, .ref h10, .ref h11, .ref h12, .ref h13, .int x8, .int x9, .int x10, .long y0, .int x11, .int x12, .long y1, .long y2, .ref h14, .ref h15, .ref h16, .ref h17, .long y3, .int x13, .ref h18, .int x14, .int x15, .int x16, .int x17, .ref h19, .ref h20, .ref h21, .ref h22, .ref h23, .ref h24, .ref h25, .ref h26, .ref h27, .ref h28, .ref h29, .int x18, .int x19, .int z50, .int z51, .int x22, .int x23, .int x24, .long y4, .int x25, .ref h1, .ref h2, .long z52, .long z53, .int z54, .ref h3, .int x27, .ref h30, .ref h31, .ref h32, .ref h33, .int x28, .int x29, .int x30, .int x31, .ref h34, .ref h35, .int x32, .int x33, .ref h36])), (h1, .inl (gI g, 400, .inl f55)), (h2, .inl (gJ g, 2400, .inr (.inl f56))), (h3, .inl (gJ g, 48, .inr (.inl fm1)))] [1, 2, 3, 0] (by decide) rfl ?_
                exact ih25 z74 1 z50 z51 z52 z53 z54 f55 f56 ⟨by omega, by omega⟩ (by decide) ⟨p62, p63⟩ ⟨p64, p65⟩ ⟨p66, p67⟩ (by show (Int32.toInt z51) ≤ (Int32.toInt x22); omega) (by show (Int32.toInt z50) = (Int32.toInt x20); omega) (by omega)
              · skip
                have k75 : ¬ ((Int32.toInt z15) = 0) := fun h_9 => c41 ((fa_eq z15 0).mpr h_9)
                refine r_aload_n 66 3 C dX12_byTurns_66 rfl ?_
                refine r_aload_n 67 3 C dX12_byTurns_67 rfl ?_
                refine r_get 68 C dX12_byTurns_68 (k := 61) 0 rfl rfl hiX12 (by decide) rfl (mg 2 rfl) (Or.inl rfl) rfl ?_
                refine r_iload_n 71 1 C dX12_byTurns_71 rfl ?_
                obtain ⟨z76, ez76⟩ : ∃ z_9, fm1 (Int32.toNatClampNeg z14) = z_9 := ⟨_, rfl⟩
                refine r_lald 72 z76 C dX12_byTurns_72 3 rfl (vinI (by omega) (by omega)) ez76 ?_
                have gz76 := fb_rngL z76
                refine r_lconst 73 0 C dX12_byTurns_73 (by decide) ?_
                refine r_aload_n 74 3 C dX12_byTurns_74 rfl ?_
                refine r_get 75 C dX12_byTurns_75 (k := 61) 0 rfl rfl hiX12 (by decide) rfl (mg 2 rfl) (Or.inl rfl) rfl ?_
                refine r_iload_n 78 1 C dX12_byTurns_78 rfl ?_
                refine r_iconst 79 1 C dX12_byTurns_79 (by decide) ?_
                obtain ⟨z77, ez77⟩ : ∃ z_9, z14 + 1 = z_9 := ⟨_, rfl⟩
                have tz77 : (Int32.toInt z77) = (Int32.toInt z14) + 1 := by rw [← ez77]; exact fb_addIv (a := 0) (b := 48) (c := 1) (d := 1) ⟨i27a, i27b⟩ ⟨by decide, by decide⟩ (by decide) (by decide)
                refine r_iadd 80 z77 C dX12_byTurns_80 ez77 ?_
                obtain ⟨z78, ez78⟩ : ∃ z_9, fm1 (Int32.toNatClampNeg z77) = z_9 := ⟨_, rfl⟩
                refine r_lald 81 z78 C dX12_byTurns_81 3 rfl (vinI (by omega) (by omega)) ez78 ?_
                have gz78 := fb_rngL z78
                refine r_aload_n 82 3 C dX12_byTurns_82 rfl ?_
                refine r_get 83 C dX12_byTurns_83 (k := 61) 0 rfl rfl hiX12 (by decide) rfl (mg 2 rfl) (Or.inl rfl) rfl ?_
                refine r_iload_n 86 1 C dX12_byTurns_86 rfl ?_
                refine r_iconst 87 2 C dX12_byTurns_87 (by decide) ?_
                obtain ⟨z79, ez79⟩ : ∃ z_9, z14 + 2 = z_9 := ⟨_, rfl⟩
                have tz79 : (Int32.toInt z79) = (Int32.toInt z14) + 2 := by rw [← ez79]; exact fb_addIv (a := 0) (b := 48) (c := 2) (d := 2) ⟨i27a, i27b⟩ ⟨by decide, by decide⟩ (by decide) (by decide)
                refine r_iadd 88 z79 C dX12_byTurns_88 ez79 ?_
                obtain ⟨z80, ez80⟩ : ∃ z_9, fm1 (Int32.toNatClampNeg z79) = z_9 := ⟨_, rfl⟩
                refine r_lald 89 z80 C dX12_byTurns_89 3 rfl (vinI (by omega) (by omega)) ez80 ?_
                have gz80 := fb_rngL z80
                refine r_lload 90 0 C dX12_byTurns_90 rfl ?_
                refine r_aload_n 92 3 C dX12_byTurns_92 rfl ?_
                refine r_get 93 C dX12_byTurns_93 (k := 61) 0 rfl rfl hiX12 (by decide) rfl (mg 2 rfl) (Or.inl rfl) rfl ?_
                refine r_iload_n 96 1 C dX12_byTurns_96 rfl ?_
                refine r_iconst 97 3 C dX12_byTurns_97 (by decide) ?_
                obtain ⟨z81, ez81⟩ : ∃ z_9, z14 + 3 = z_9 := ⟨_, rfl⟩
                have tz81 : (Int32.toInt z81) = (Int32.toInt z14) + 3 := by rw [← ez81]; exact fb_addIv (a := 0) (b := 48) (c := 3) (d := 3) ⟨i27a, i27b⟩ ⟨by decide, by decide⟩ (by decide) (by decide)
                refine r_iadd 98 z81 C dX12_byTurns_98 ez81 ?_
                obtain ⟨z82, ez82⟩ : ∃ z_9, fm1 (Int32.toNatClampNeg z81) = z_9 := ⟨_, rfl⟩
                refine r_lald 99 z82 C dX12_byTurns_99 3 rfl (vinI (by omega) (by omega)) ez82 ?_
                have gz82 := fb_rngL z82
                refine r_callVi 100 C dX12_byTurns_100 [] [(h0, .inr (11, [.ref h4, .int x1, .ref h5, .int x2, .int x3, .int x4, .ref h6, .ref h7, .ref h8, .ref h9, .int x5, .int x6, .int x7, .ref h10, .ref h11, .ref h12, .ref h13, .int x8, .int x9, .int x10, .long y0, .int x11, .int x12, .long y1, .long y2, .ref h14, .ref h15, .ref h16, .ref h17, .long y3, .int x13, .ref h18, .int x14, .int x15, .int x16, .int x17, .ref h19, .ref h20, .ref h21, .ref h22, .ref h23, .ref h24, .ref h25, .ref h26, .ref h27, .ref h28, .ref h29, .int x18, .int x19, .int z16, .int z17, .int x22, .int x23, .int x24, .long y4, .int x25, .ref h1, .ref h2, .long z18, .long z19, .int z20, .ref h3, .int x27, .ref h30, .ref h31, .ref h32, .ref h33, .int x28, .int x29, .int x30, .int x31, .ref h34, .ref h35, .int x32, .int x33, .ref h36])), (h1, .inl (gI g, 400, .inl f21)), (h2, .inl (gJ g, 2400, .inr (.inl f22)))] [(h3, .inl (gJ g, 48, .inr (.inl fm1)))] (fun sz => c114_X12_curve l g h0 h1 h2 z76 0 z78 z80 0 z82 h4 x1 h5 x2 x3 x4 h6 h7 h8 h9 x5 x6 x7 h10 h11 h12 h13 x8 x9 x10 y0 x11 x12 y1 y2 h14 h15 h16 h17 y3 x13 h18 x14 x15 x16 x17 h19 h20 h21 h22 h23 h24 h25 h26 h27 h28 h29 x18 x19 z16 z17 x22 x23 x24 y4 x25 z18 z19 z20 h3 x27 h30 h31 h32 h33 x28 x29 x30 x31 h34 h35 x32 x33 h36 f21 f22 i_x1 i_x2 i_x4 i_x7 i_x8 i_x11 i_x12 i_y1 i_y2 i_x13 i_x14 i_x15 i_x16 i_x17 i_x19 ⟨i29a, i29b⟩ ⟨i30a, i30b⟩ i_x22 i_x23 i_x25 ⟨i31a, i31b⟩ i_x27 i_x28 i_x29 i_x30 i_x31 i_x32 i_x33 (by show ((Int32.toInt z17) ≤ (Int32.toInt x22)); first | assumption | omega) sz) gX12_byTurns_X12_curve rfl ⟨rfl, rfl⟩ 6 (by decide) ⟨Nat.le_of_ble_eq_true rfl, Nat.le_of_ble_eq_true rfl⟩ 0 rfl rfl [0, 1, 2] [3] rfl rfl (by decide) (by decide) (by decide) rfl rfl (Nat.le_of_ble_eq_true rfl) ⟨Nat.le_of_ble_eq_true rfl, Nat.le_of_ble_eq_true rfl⟩ (fun r90 u92 w91 => ?_)
                obtain ⟨z83, z84, z85, z86, z87, f88, f89⟩ := u92
                refine r_ws [(h3, .inl (gJ g, 48, .inr (.inl fm1))), (h0, .inr (11, [.ref h4, .int x1, .ref h5, .int x2, .int x3, .int x4, .ref h6, .ref h7, .ref h8, .ref h9, .int x5, .int x6, .int x7, .ref h10, .ref h11, .ref h12, .ref h13, .int x8, .int x9, .int x10, .long y0, .int x11, .int x12, .long y1, .long y2, .ref h14, .ref h15, .ref h16, .ref h17, .long y3, .int x13, .ref h18, .int x14, .int x15, .int x16, .int x17, .ref h19, .ref h20, .ref h21, .ref h22, .ref h23, .ref h24, .ref h25, .ref h26, .ref h27, .ref h28, .ref h29, .int x18, .int x19, .int z83, .int z84, .int x22, .int x23, .int x24, .long y4, .int x25, .ref h1, .ref h2, .long z85, .long z86, .int z87, .ref h3, .int x27, .ref h30, .ref h31, .ref h32, .ref h33, .int x28, .int x29, .int x30, .int x31, .ref h34, .ref h35, .int x32, .int x33, .ref h36])), (h1, .inl (gI g, 400, .inl f88)), (h2, .inl (gJ g, 2400, .inr (.inl f89)))] rfl ?_
                have gz85 := fb_rngL z85
                have gz86 := fb_rngL z86
                have p93 : 0 ≤ (Int32.toInt r90) := w91.1
                have p94 : (Int32.toInt r90) ≤ 1 := w91.2.1
                have p95 : 0 ≤ (Int32.toInt z83) := w91.2.2.1
                have p96 : (Int32.toInt z83) ≤ 9 := w91.2.2.2.1
                have p97 : 0 ≤ (Int32.toInt z84) := w91.2.2.2.2.1
                have p98 : (Int32.toInt z84) ≤ 400 := w91.2.2.2.2.2.1
                have p99 : 0 ≤ (Int32.toInt z87) := w91.2.2.2.2.2.2.1
                have p100 : (Int32.toInt z87) ≤ 1 := w91.2.2.2.2.2.2.2.1
                have p101 : ((Int32.toInt z84) ≤ (Int32.toInt x22)) := w91.2.2.2.2.2.2.2.2.1
                have p102 : (((Int32.toInt r90) = 0 ∧ 1 ≤ (Int32.toInt z83)) ∨ ((Int32.toInt r90) = 1 ∧ (Int32.toInt z83) = (Int32.toInt z16))) := w91.2.2.2.2.2.2.2.2.2
                rcases p102 with ⟨k103, k104⟩ | p102
                · skip
                  refine r_if_ne_f 103 151 C dX12_byTurns_103 (by decide) ((fa_eq r90 0).mpr (by show (Int32.toInt r90) = 0; omega)) ?_
                  refine r_goto 106 149 C dX12_byTurns_106 (by decide) ?_
                  refine r_iconst 149 0 C dX12_byTurns_149 (by decide) ?_
                  exact r_zret 150 Rt dX12_byTurns_150 (by decide) (z83, z84, z85, z86, z87, f88, f89) (show 0 ≤ (Int32.toInt 0) ∧ (Int32.toInt 0) ≤ 1 ∧ 0 ≤ (Int32.toInt z83) ∧ (Int32.toInt z83) ≤ 9 ∧ 0 ≤ (Int32.toInt z84) ∧ (Int32.toInt z84) ≤ 400 ∧ 0 ≤ (Int32.toInt z87) ∧ (Int32.toInt z87) ≤ 1 ∧ ((Int32.toInt z84) ≤ (Int32.toInt x22)) ∧ ((0 = 0 ∧ 1 ≤ (Int32.toInt z83)) ∨ (0 = 1 ∧ (Int32.toInt z83) = (Int32.toInt x20))) from ⟨(by decide), (by decide), (show _ ∧ _ from ⟨p95, p96⟩).1, (show _ ∧ _ from ⟨p95, p96⟩).2, (show _ ∧ _ from ⟨p97, p98⟩).1, (show _ ∧ _ from ⟨p97, p98⟩).2, (show _ ∧ _ from ⟨p99, p100⟩).1, (show _ ∧ _ from ⟨p99, p100⟩).2, (by first | omega | ((repeat' apply And.intro) <;> first | trivial | rfl | assumption | omega | decide | exact Or.inl rfl | exact Or.inr (Or.inl rfl) | exact Or.inr (Or.inr rfl) | exact Or.inr (Or.inr (by assumption)))), (by first | omega | ((repeat' apply And.intro) <;> first | trivial | rfl | assumption | omega | decide | exact Or.inl rfl | exact Or.inr (Or.inl rfl) | exact Or.inr (Or.inr rfl) | exact Or.inr (Or.inr (by assumption))))⟩) [1, 2, 3, 0] (by decide) rfl (Nat.le_of_ble_eq_true rfl) (Nat.le_of_ble_eq_true rfl)
                obtain ⟨k105, k106⟩ := p102
                refine r_if_ne_t 103 151 C dX12_byTurns_103 (by decide) (fun h_9 => by have h_8 : (Int32.toInt r90) = 0 := (fa_eq r90 0).mp h_9; omega) ?_
                refine r_iload_n 151 2 C dX12_byTurns_151 rfl ?_
                refine r_if_ne_t 152 159 C dX12_byTurns_152 (by decide) (fun h_9 => by have h_8 : (Int32.toInt z15) = 0 := (fa_eq z15 0).mp h_9; omega) ?_
                refine r_iconst 159 0 C dX12_byTurns_159 (by decide) ?_
                refine r_istore_n 160 C dX12_byTurns_160 [(2, .int 0), (4, .long 0), (3, .int z14), (0, .ref h0), (1, .int x0)] (by decide) rfl ?_
                obtain ⟨z107, ez107⟩ : ∃ z_9, z14 + Int32.ofInt 4 = z_9 := ⟨_, rfl⟩
                have tz107 : (Int32.toInt z107) = (Int32.toInt z14) + 4 := by rw [← ez107]; exact fb_addIv (a := 0) (b := 48) (c := 4) (d := 4) ⟨i27a, i27b⟩ ⟨by decide, by decide⟩ (by decide) (by decide)
                refine r_iinc 161 2 z107 C dX12_byTurns_161 rfl ez107 [(3, .int z107), (2, .int 0), (4, .long 0), (0, .ref h0), (1, .int x0)] (by decide) rfl ?_
                refine r_goto 164 28 C dX12_byTurns_164 (by decide) ?_
                refine r_lv [(3, .int z107), (2, .int 0), (0, .ref h0), (1, .int x0)] [0, 1, 3, 4] rfl ?_
                refine r_pick [(h0, .inr (11, [.ref h4, .int x1, .ref h5, .int x2, .int x3, .int x4, .ref h6, .ref h7, .ref h8, .ref h9, .int x5, .int x6, .int x7, .ref h10, .ref h11, .ref h12, .ref h13, .int x8, .int x9, .int x10, .long y0, .int x11, .int x12, .long y1, .long y2, .ref h14, .ref h15, .ref h16, .ref h17, .long y3, .int x13, .ref h18, .int x14, .int x15, .int x16, .int x17, .ref h19, .ref h20, .ref h21, .ref h22, .ref h23, .ref h24, .ref h25, .ref h26, .ref h27, .ref h28, .ref h29, .int x18, .int x19, .int z83, .int z84, .int x22, .int x23, .int x24, .long y4, .int x25, .ref h1, .ref h2, .long z85, .long z86, .int z87, .ref h3, .int x27, .ref h30, .ref h31, .ref h32, .ref h33, .int x28, .int x29, .int x30, .int x31, .ref h34, .ref h35, .int x32, .int x33, .ref h36])), (h1, .inl (gI g, 400, .inl f88)), (h2, .inl (gJ g, 2400, .inr (.inl f89))), (h3, .inl (gJ g, 48, .inr (.inl fm1)))] [1, 2, 3, 0] (by decide) rfl ?_
                exact ih25 z107 0 z83 z84 z85 z86 z87 f88 f89 ⟨by omega, by omega⟩ (by decide) ⟨p95, p96⟩ ⟨p97, p98⟩ ⟨p99, p100⟩ (by show (Int32.toInt z84) ≤ (Int32.toInt x22); omega) (by show (Int32.toInt z83) = (Int32.toInt x20); omega) (by omega)
            · skip
              have k108 : (Int32.toInt z38) = (Int32.toInt x27) := (fa_eq z38 x27).mp c39
              refine r_aload_n 48 2 C dX12_byTurns_48 rfl ?_
              refine r_get 49 C dX12_byTurns_49 (k := 61) 0 rfl rfl hiX12 (by decide) rfl (mg 2 rfl) (Or.inl rfl) rfl ?_
              refine r_iload_n 52 0 C dX12_byTurns_52 rfl ?_
              refine r_iconst 53 4 C dX12_byTurns_53 (by decide) ?_
              refine r_iadd 54 z34 C dX12_byTurns_54 ez34 ?_
              obtain ⟨z109, ez109⟩ : ∃ z_9, fm1 (Int32.toNatClampNeg z34) = z_9 := ⟨_, rfl⟩
              refine r_lald 55 z109 C dX12_byTurns_55 3 rfl (vinI (by omega) (by omega)) ez109 ?_
              have gz109 := fb_rngL z109
              refine r_goto 56 60 C dX12_byTurns_56 (by decide) ?_
              refine r_lstore 60 C dX12_byTurns_60 [(4, .long z109), (3, .int z14), (2, .int z15), (0, .ref h0), (1, .int x0)] (by decide) rfl ?_
              refine r_iload_n 62 2 C dX12_byTurns_62 rfl ?_
              refine r_if_eq 63 109 C dX12_byTurns_63 (by decide) (fun c110 => ?_) (fun c110 => ?_)
              · skip
                have k111 : (Int32.toInt z15) = 0 := (fa_eq z15 0).mp c110
                refine r_aload_n 109 3 C dX12_byTurns_109 rfl ?_
                refine r_lconst 110 0 C dX12_byTurns_110 (by decide) ?_
                refine r_aload_n 111 3 C dX12_byTurns_111 rfl ?_
                refine r_get 112 C dX12_byTurns_112 (k := 61) 0 rfl rfl hiX12 (by decide) rfl (mg 2 rfl) (Or.inl rfl) rfl ?_
                refine r_iload_n 115 1 C dX12_byTurns_115 rfl ?_
                obtain ⟨z112, ez112⟩ : ∃ z_9, fm1 (Int32.toNatClampNeg z14) = z_9 := ⟨_, rfl⟩
                refine r_lald 116 z112 C dX12_byTurns_116 3 rfl (vinI (by omega) (by omega)) ez112 ?_
                have gz112 := fb_rngL z112
                refine r_aload_n 117 3 C dX12_byTurns_117 rfl ?_
                refine r_get 118 C dX12_byTurns_118 (k := 61) 0 rfl rfl hiX12 (by decide) rfl (mg 2 rfl) (Or.inl rfl) rfl ?_
                refine r_iload_n 121 1 C dX12_byTurns_121 rfl ?_
                refine r_iconst 122 1 C dX12_byTurns_122 (by decide) ?_
                obtain ⟨z113, ez113⟩ : ∃ z_9, z14 + 1 = z_9 := ⟨_, rfl⟩
                have tz113 : (Int32.toInt z113) = (Int32.toInt z14) + 1 := by rw [← ez113]; exact fb_addIv (a := 0) (b := 48) (c := 1) (d := 1) ⟨i27a, i27b⟩ ⟨by decide, by decide⟩ (by decide) (by decide)
                refine r_iadd 123 z113 C dX12_byTurns_123 ez113 ?_
                obtain ⟨z114, ez114⟩ : ∃ z_9, fm1 (Int32.toNatClampNeg z113) = z_9 := ⟨_, rfl⟩
                refine r_lald 124 z114 C dX12_byTurns_124 3 rfl (vinI (by omega) (by omega)) ez114 ?_
                have gz114 := fb_rngL z114
                refine r_aload_n 125 3 C dX12_byTurns_125 rfl ?_
                refine r_get 126 C dX12_byTurns_126 (k := 61) 0 rfl rfl hiX12 (by decide) rfl (mg 2 rfl) (Or.inl rfl) rfl ?_
                refine r_iload_n 129 1 C dX12_byTurns_129 rfl ?_
                refine r_iconst 130 2 C dX12_byTurns_130 (by decide) ?_
                obtain ⟨z115, ez115⟩ : ∃ z_9, z14 + 2 = z_9 := ⟨_, rfl⟩
                have tz115 : (Int32.toInt z115) = (Int32.toInt z14) + 2 := by rw [← ez115]; exact fb_addIv (a := 0) (b := 48) (c := 2) (d := 2) ⟨i27a, i27b⟩ ⟨by decide, by decide⟩ (by decide) (by decide)
                refine r_iadd 131 z115 C dX12_byTurns_131 ez115 ?_
                obtain ⟨z116, ez116⟩ : ∃ z_9, fm1 (Int32.toNatClampNeg z115) = z_9 := ⟨_, rfl⟩
                refine r_lald 132 z116 C dX12_byTurns_132 3 rfl (vinI (by omega) (by omega)) ez116 ?_
                have gz116 := fb_rngL z116
                refine r_aload_n 133 3 C dX12_byTurns_133 rfl ?_
                refine r_get 134 C dX12_byTurns_134 (k := 61) 0 rfl rfl hiX12 (by decide) rfl (mg 2 rfl) (Or.inl rfl) rfl ?_
                refine r_iload_n 137 1 C dX12_byTurns_137 rfl ?_
                refine r_iconst 138 3 C dX12_byTurns_138 (by decide) ?_
                obtain ⟨z117, ez117⟩ : ∃ z_9, z14 + 3 = z_9 := ⟨_, rfl⟩
                have tz117 : (Int32.toInt z117) = (Int32.toInt z14) + 3 := by rw [← ez117]; exact fb_addIv (a := 0) (b := 48) (c := 3) (d := 3) ⟨i27a, i27b⟩ ⟨by decide, by decide⟩ (by decide) (by decide)
                refine r_iadd 139 z117 C dX12_byTurns_139 ez117 ?_
                obtain ⟨z118, ez118⟩ : ∃ z_9, fm1 (Int32.toNatClampNeg z117) = z_9 := ⟨_, rfl⟩
                refine r_lald 140 z118 C dX12_byTurns_140 3 rfl (vinI (by omega) (by omega)) ez118 ?_
                have gz118 := fb_rngL z118
                refine r_lload 141 0 C dX12_byTurns_141 rfl ?_
                refine r_callVi 143 C dX12_byTurns_143 [] [(h0, .inr (11, [.ref h4, .int x1, .ref h5, .int x2, .int x3, .int x4, .ref h6, .ref h7, .ref h8, .ref h9, .int x5, .int x6, .int x7, .ref h10, .ref h11, .ref h12, .ref h13, .int x8, .int x9, .int x10, .long y0, .int x11, .int x12, .long y1, .long y2, .ref h14, .ref h15, .ref h16, .ref h17, .long y3, .int x13, .ref h18, .int x14, .int x15, .int x16, .int x17, .ref h19, .ref h20, .ref h21, .ref h22, .ref h23, .ref h24, .ref h25, .ref h26, .ref h27, .ref h28, .ref h29, .int x18, .int x19, .int z16, .int z17, .int x22, .int x23, .int x24, .long y4, .int x25, .ref h1, .ref h2, .long z18, .long z19, .int z20, .ref h3, .int x27, .ref h30, .ref h31, .ref h32, .ref h33, .int x28, .int x29, .int x30, .int x31, .ref h34, .ref h35, .int x32, .int x33, .ref h36])), (h1, .inl (gI g, 400, .inl f21)), (h2, .inl (gJ g, 2400, .inr (.inl f22)))] [(h3, .inl (gJ g, 48, .inr (.inl fm1)))] (fun sz => c114_X12_curve l g h0 h1 h2 0 z112 z114 z116 z118 z109 h4 x1 h5 x2 x3 x4 h6 h7 h8 h9 x5 x6 x7 h10 h11 h12 h13 x8 x9 x10 y0 x11 x12 y1 y2 h14 h15 h16 h17 y3 x13 h18 x14 x15 x16 x17 h19 h20 h21 h22 h23 h24 h25 h26 h27 h28 h29 x18 x19 z16 z17 x22 x23 x24 y4 x25 z18 z19 z20 h3 x27 h30 h31 h32 h33 x28 x29 x30 x31 h34 h35 x32 x33 h36 f21 f22 i_x1 i_x2 i_x4 i_x7 i_x8 i_x11 i_x12 i_y1 i_y2 i_x13 i_x14 i_x15 i_x16 i_x17 i_x19 ⟨i29a, i29b⟩ ⟨i30a, i30b⟩ i_x22 i_x23 i_x25 ⟨i31a, i31b⟩ i_x27 i_x28 i_x29 i_x30 i_x31 i_x32 i_x33 (by show ((Int32.toInt z17) ≤ (Int32.toInt x22)); first | assumption | omega) sz) gX12_byTurns_X12_curve rfl ⟨rfl, rfl⟩ 6 (by decide) ⟨Nat.le_of_ble_eq_true rfl, Nat.le_of_ble_eq_true rfl⟩ 0 rfl rfl [0, 1, 2] [3] rfl rfl (by decide) (by decide) (by decide) rfl rfl (Nat.le_of_ble_eq_true rfl) ⟨Nat.le_of_ble_eq_true rfl, Nat.le_of_ble_eq_true rfl⟩ (fun r126 u128 w127 => ?_)
                obtain ⟨z119, z120, z121, z122, z123, f124, f125⟩ := u128
                refine r_ws [(h3, .inl (gJ g, 48, .inr (.inl fm1))), (h0, .inr (11, [.ref h4, .int x1, .ref h5, .int x2, .int x3, .int x4, .ref h6, .ref h7, .ref h8, .ref h9, .int x5, .int x6, .int x7, .ref h10, .ref h11, .ref h12, .ref h13, .int x8, .int x9, .int x10, .long y0, .int x11, .int x12, .long y1, .long y2, .ref h14, .ref h15, .ref h16, .ref h17, .long y3, .int x13, .ref h18, .int x14, .int x15, .int x16, .int x17, .ref h19, .ref h20, .ref h21, .ref h22, .ref h23, .ref h24, .ref h25, .ref h26, .ref h27, .ref h28, .ref h29, .int x18, .int x19, .int z119, .int z120, .int x22, .int x23, .int x24, .long y4, .int x25, .ref h1, .ref h2, .long z121, .long z122, .int z123, .ref h3, .int x27, .ref h30, .ref h31, .ref h32, .ref h33, .int x28, .int x29, .int x30, .int x31, .ref h34, .ref h35, .int x32, .int x33, .ref h36])), (h1, .inl (gI g, 400, .inl f124)), (h2, .inl (gJ g, 2400, .inr (.inl f125)))] rfl ?_
                have gz121 := fb_rngL z121
                have gz122 := fb_rngL z122
                have p129 : 0 ≤ (Int32.toInt r126) := w127.1
                have p130 : (Int32.toInt r126) ≤ 1 := w127.2.1
                have p131 : 0 ≤ (Int32.toInt z119) := w127.2.2.1
                have p132 : (Int32.toInt z119) ≤ 9 := w127.2.2.2.1
                have p133 : 0 ≤ (Int32.toInt z120) := w127.2.2.2.2.1
                have p134 : (Int32.toInt z120) ≤ 400 := w127.2.2.2.2.2.1
                have p135 : 0 ≤ (Int32.toInt z123) := w127.2.2.2.2.2.2.1
                have p136 : (Int32.toInt z123) ≤ 1 := w127.2.2.2.2.2.2.2.1
                have p137 : ((Int32.toInt z120) ≤ (Int32.toInt x22)) := w127.2.2.2.2.2.2.2.2.1
                have p138 : (((Int32.toInt r126) = 0 ∧ 1 ≤ (Int32.toInt z119)) ∨ ((Int32.toInt r126) = 1 ∧ (Int32.toInt z119) = (Int32.toInt z16))) := w127.2.2.2.2.2.2.2.2.2
                rcases p138 with ⟨k139, k140⟩ | p138
                · skip
                  refine r_if_ne_f 146 151 C dX12_byTurns_146 (by decide) ((fa_eq r126 0).mpr (by show (Int32.toInt r126) = 0; omega)) ?_
                  refine r_iconst 149 0 C dX12_byTurns_149 (by decide) ?_
                  exact r_zret 150 Rt dX12_byTurns_150 (by decide) (z119, z120, z121, z122, z123, f124, f125) (show 0 ≤ (Int32.toInt 0) ∧ (Int32.toInt 0) ≤ 1 ∧ 0 ≤ (Int32.toInt z119) ∧ (Int32.toInt z119) ≤ 9 ∧ 0 ≤ (Int32.toInt z120) ∧ (Int32.toInt z120) ≤ 400 ∧ 0 ≤ (Int32.toInt z123) ∧ (Int32.toInt z123) ≤ 1 ∧ ((Int32.toInt z120) ≤ (Int32.toInt x22)) ∧ ((0 = 0 ∧ 1 ≤ (Int32.toInt z119)) ∨ (0 = 1 ∧ (Int32.toInt z119) = (Int32.toInt x20))) from ⟨(by decide), (by decide), (show _ ∧ _ from ⟨p131, p132⟩).1, (show _ ∧ _ from ⟨p131, p132⟩).2, (show _ ∧ _ from ⟨p133, p134⟩).1, (show _ ∧ _ from ⟨p133, p134⟩).2, (show _ ∧ _ from ⟨p135, p136⟩).1, (show _ ∧ _ from ⟨p135, p136⟩).2, (by first | omega | ((repeat' apply And.intro) <;> first | trivial | rfl | assumption | omega | decide | exact Or.inl rfl | exact Or.inr (Or.inl rfl) | exact Or.inr (Or.inr rfl) | exact Or.inr (Or.inr (by assumption)))), (by first | omega | ((repeat' apply And.intro) <;> first | trivial | rfl | assumption | omega | decide | exact Or.inl rfl | exact Or.inr (Or.inl rfl) | exact Or.inr (Or.inr rfl) | exact Or.inr (Or.inr (by assumption))))⟩) [1, 2, 3, 0] (by decide) rfl (Nat.le_of_ble_eq_true rfl) (Nat.le_of_ble_eq_true rfl)
                obtain ⟨k141, k142⟩ := p138
                refine r_if_ne_t 146 151 C dX12_byTurns_146 (by decide) (fun h_9 => by have h_8 : (Int32.toInt r126) = 0 := (fa_eq r126 0).mp h_9; omega) ?_
                refine r_iload_n 151 2 C dX12_byTurns_151 rfl ?_
                refine r_if_ne_f 152 159 C dX12_byTurns_152 (by decide) ((fa_eq z15 0).mpr (by show (Int32.toInt z15) = 0; omega)) ?_
                refine r_iconst 155 1 C dX12_byTurns_155 (by decide) ?_
                refine r_goto 156 160 C dX12_byTurns_156 (by decide) ?_
                refine r_istore_n 160 C dX12_byTurns_160 [(2, .int 1), (4, .long z109), (3, .int z14), (0, .ref h0), (1, .int x0)] (by decide) rfl ?_
                obtain ⟨z143, ez143⟩ : ∃ z_9, z14 + Int32.ofInt 4 = z_9 := ⟨_, rfl⟩
                have tz143 : (Int32.toInt z143) = (Int32.toInt z14) + 4 := by rw [← ez143]; exact fb_addIv (a := 0) (b := 48) (c := 4) (d := 4) ⟨i27a, i27b⟩ ⟨by decide, by decide⟩ (by decide) (by decide)
                refine r_iinc 161 2 z143 C dX12_byTurns_161 rfl ez143 [(3, .int z143), (2, .int 1), (4, .long z109), (0, .ref h0), (1, .int x0)] (by decide) rfl ?_
                refine r_goto 164 28 C dX12_byTurns_164 (by decide) ?_
                refine r_lv [(3, .int z143), (2, .int 1), (0, .ref h0), (1, .int x0)] [0, 1, 3, 4] rfl ?_
                refine r_pick [(h0, .inr (11, [.ref h4, .int x1, .ref h5, .int x2, .int x3, .int x4, .ref h6, .ref h7, .ref h8, .ref h9, .int x5, .int x6, .int x7, .ref h10, .ref h11, .ref h12, .ref h13, .int x8, .int x9, .int x10, .long y0, .int x11, .int x12, .long y1, .long y2, .ref h14, .ref h15, .ref h16, .ref h17, .long y3, .int x13, .ref h18, .int x14, .int x15, .int x16, .int x17, .ref h19, .ref h20, .ref h21, .ref h22, .ref h23, .ref h24, .ref h25, .ref h26, .ref h27, .ref h28, .ref h29, .int x18, .int x19, .int z119, .int z120, .int x22, .int x23, .int x24, .long y4, .int x25, .ref h1, .ref h2, .long z121, .long z122, .int z123, .ref h3, .int x27, .ref h30, .ref h31, .ref h32, .ref h33, .int x28, .int x29, .int x30, .int x31, .ref h34, .ref h35, .int x32, .int x33, .ref h36])), (h1, .inl (gI g, 400, .inl f124)), (h2, .inl (gJ g, 2400, .inr (.inl f125))), (h3, .inl (gJ g, 48, .inr (.inl fm1)))] [1, 2, 3, 0] (by decide) rfl ?_
                exact ih25 z143 1 z119 z120 z121 z122 z123 f124 f125 ⟨by omega, by omega⟩ (by decide) ⟨p131, p132⟩ ⟨p133, p134⟩ ⟨p135, p136⟩ (by show (Int32.toInt z120) ≤ (Int32.toInt x22); omega) (by show (Int32.toInt z119) = (Int32.toInt x20); omega) (by omega)
              · skip
                have k144 : ¬ ((Int32.toInt z15) = 0) := fun h_9 => c110 ((fa_eq z15 0).mpr h_9)
                refine r_aload_n 66 3 C dX12_byTurns_66 rfl ?_
                refine r_aload_n 67 3 C dX12_byTurns_67 rfl ?_
                refine r_get 68 C dX12_byTurns_68 (k := 61) 0 rfl rfl hiX12 (by decide) rfl (mg 2 rfl) (Or.inl rfl) rfl ?_
                refine r_iload_n 71 1 C dX12_byTurns_71 rfl ?_
                obtain ⟨z145, ez145⟩ : ∃ z_9, fm1 (Int32.toNatClampNeg z14) = z_9 := ⟨_, rfl⟩
                refine r_lald 72 z145 C dX12_byTurns_72 3 rfl (vinI (by omega) (by omega)) ez145 ?_
                have gz145 := fb_rngL z145
                refine r_lconst 73 0 C dX12_byTurns_73 (by decide) ?_
                refine r_aload_n 74 3 C dX12_byTurns_74 rfl ?_
                refine r_get 75 C dX12_byTurns_75 (k := 61) 0 rfl rfl hiX12 (by decide) rfl (mg 2 rfl) (Or.inl rfl) rfl ?_
                refine r_iload_n 78 1 C dX12_byTurns_78 rfl ?_
                refine r_iconst 79 1 C dX12_byTurns_79 (by decide) ?_
                obtain ⟨z146, ez146⟩ : ∃ z_9, z14 + 1 = z_9 := ⟨_, rfl⟩
                have tz146 : (Int32.toInt z146) = (Int32.toInt z14) + 1 := by rw [← ez146]; exact fb_addIv (a := 0) (b := 48) (c := 1) (d := 1) ⟨i27a, i27b⟩ ⟨by decide, by decide⟩ (by decide) (by decide)
                refine r_iadd 80 z146 C dX12_byTurns_80 ez146 ?_
                obtain ⟨z147, ez147⟩ : ∃ z_9, fm1 (Int32.toNatClampNeg z146) = z_9 := ⟨_, rfl⟩
                refine r_lald 81 z147 C dX12_byTurns_81 3 rfl (vinI (by omega) (by omega)) ez147 ?_
                have gz147 := fb_rngL z147
                refine r_aload_n 82 3 C dX12_byTurns_82 rfl ?_
                refine r_get 83 C dX12_byTurns_83 (k := 61) 0 rfl rfl hiX12 (by decide) rfl (mg 2 rfl) (Or.inl rfl) rfl ?_
                refine r_iload_n 86 1 C dX12_byTurns_86 rfl ?_
                refine r_iconst 87 2 C dX12_byTurns_87 (by decide) ?_
                obtain ⟨z148, ez148⟩ : ∃ z_9, z14 + 2 = z_9 := ⟨_, rfl⟩
                have tz148 : (Int32.toInt z148) = (Int32.toInt z14) + 2 := by rw [← ez148]; exact fb_addIv (a := 0) (b := 48) (c := 2) (d := 2) ⟨i27a, i27b⟩ ⟨by decide, by decide⟩ (by decide) (by decide)
                refine r_iadd 88 z148 C dX12_byTurns_88 ez148 ?_
                obtain ⟨z149, ez149⟩ : ∃ z_9, fm1 (Int32.toNatClampNeg z148) = z_9 := ⟨_, rfl⟩
                refine r_lald 89 z149 C dX12_byTurns_89 3 rfl (vinI (by omega) (by omega)) ez149 ?_
                have gz149 := fb_rngL z149
                refine r_lload 90 0 C dX12_byTurns_90 rfl ?_
                refine r_aload_n 92 3 C dX12_byTurns_92 rfl ?_
                refine r_get 93 C dX12_byTurns_93 (k := 61) 0 rfl rfl hiX12 (by decide) rfl (mg 2 rfl) (Or.inl rfl) rfl ?_
                refine r_iload_n 96 1 C dX12_byTurns_96 rfl ?_
                refine r_iconst 97 3 C dX12_byTurns_97 (by decide) ?_
                obtain ⟨z150, ez150⟩ : ∃ z_9, z14 + 3 = z_9 := ⟨_, rfl⟩
                have tz150 : (Int32.toInt z150) = (Int32.toInt z14) + 3 := by rw [← ez150]; exact fb_addIv (a := 0) (b := 48) (c := 3) (d := 3) ⟨i27a, i27b⟩ ⟨by decide, by decide⟩ (by decide) (by decide)
                refine r_iadd 98 z150 C dX12_byTurns_98 ez150 ?_
                obtain ⟨z151, ez151⟩ : ∃ z_9, fm1 (Int32.toNatClampNeg z150) = z_9 := ⟨_, rfl⟩
                refine r_lald 99 z151 C dX12_byTurns_99 3 rfl (vinI (by omega) (by omega)) ez151 ?_
                have gz151 := fb_rngL z151
                refine r_callVi 100 C dX12_byTurns_100 [] [(h0, .inr (11, [.ref h4, .int x1, .ref h5, .int x2, .int x3, .int x4, .ref h6, .ref h7, .ref h8, .ref h9, .int x5, .int x6, .int x7, .ref h10, .ref h11, .ref h12, .ref h13, .int x8, .int x9, .int x10, .long y0, .int x11, .int x12, .long y1, .long y2, .ref h14, .ref h15, .ref h16, .ref h17, .long y3, .int x13, .ref h18, .int x14, .int x15, .int x16, .int x17, .ref h19, .ref h20, .ref h21, .ref h22, .ref h23, .ref h24, .ref h25, .ref h26, .ref h27, .ref h28, .ref h29, .int x18, .int x19, .int z16, .int z17, .int x22, .int x23, .int x24, .long y4, .int x25, .ref h1, .ref h2, .long z18, .long z19, .int z20, .ref h3, .int x27, .ref h30, .ref h31, .ref h32, .ref h33, .int x28, .int x29, .int x30, .int x31, .ref h34, .ref h35, .int x32, .int x33, .ref h36])), (h1, .inl (gI g, 400, .inl f21)), (h2, .inl (gJ g, 2400, .inr (.inl f22)))] [(h3, .inl (gJ g, 48, .inr (.inl fm1)))] (fun sz => c114_X12_curve l g h0 h1 h2 z145 0 z147 z149 z109 z151 h4 x1 h5 x2 x3 x4 h6 h7 h8 h9 x5 x6 x7 h10 h11 h12 h13 x8 x9 x10 y0 x11 x12 y1 y2 h14 h15 h16 h17 y3 x13 h18 x14 x15 x16 x17 h19 h20 h21 h22 h23 h24 h25 h26 h27 h28 h29 x18 x19 z16 z17 x22 x23 x24 y4 x25 z18 z19 z20 h3 x27 h30 h31 h32 h33 x28 x29 x30 x31 h34 h35 x32 x33 h36 f21 f22 i_x1 i_x2 i_x4 i_x7 i_x8 i_x11 i_x12 i_y1 i_y2 i_x13 i_x14 i_x15 i_x16 i_x17 i_x19 ⟨i29a, i29b⟩ ⟨i30a, i30b⟩ i_x22 i_x23 i_x25 ⟨i31a, i31b⟩ i_x27 i_x28 i_x29 i_x30 i_x31 i_x32 i_x33 (by show ((Int32.toInt z17) ≤ (Int32.toInt x22)); first | assumption | omega) sz) gX12_byTurns_X12_curve rfl ⟨rfl, rfl⟩ 6 (by decide) ⟨Nat.le_of_ble_eq_true rfl, Nat.le_of_ble_eq_true rfl⟩ 0 rfl rfl [0, 1, 2] [3] rfl rfl (by decide) (by decide) (by decide) rfl rfl (Nat.le_of_ble_eq_true rfl) ⟨Nat.le_of_ble_eq_true rfl, Nat.le_of_ble_eq_true rfl⟩ (fun r159 u161 w160 => ?_)
                obtain ⟨z152, z153, z154, z155, z156, f157, f158⟩ := u161
                refine r_ws [(h3, .inl (gJ g, 48, .inr (.inl fm1))), (h0, .inr (11, [.ref h4, .int x1, .ref h5, .int x2, .int x3, .int x4, .ref h6, .ref h7, .ref h8, .ref h9, .int x5, .int x6, .int x7, .ref h10, .ref h11, .ref h12, .ref h13, .int x8, .int x9, .int x10, .long y0, .int x11, .int x12, .long y1, .long y2, .ref h14, .ref h15, .ref h16, .ref h17, .long y3, .int x13, .ref h18, .int x14, .int x15, .int x16, .int x17, .ref h19, .ref h20, .ref h21, .ref h22, .ref h23, .ref h24, .ref h25, .ref h26, .ref h27, .ref h28, .ref h29, .int x18, .int x19, .int z152, .int z153, .int x22, .int x23, .int x24, .long y4, .int x25, .ref h1, .ref h2, .long z154, .long z155, .int z156, .ref h3, .int x27, .ref h30, .ref h31, .ref h32, .ref h33, .int x28, .int x29, .int x30, .int x31, .ref h34, .ref h35, .int x32, .int x33, .ref h36])), (h1, .inl (gI g, 400, .inl f157)), (h2, .inl (gJ g, 2400, .inr (.inl f158)))] rfl ?_
                have gz154 := fb_rngL z154
                have gz155 := fb_rngL z155
                have p162 : 0 ≤ (Int32.toInt r159) := w160.1
                have p163 : (Int32.toInt r159) ≤ 1 := w160.2.1
                have p164 : 0 ≤ (Int32.toInt z152) := w160.2.2.1
                have p165 : (Int32.toInt z152) ≤ 9 := w160.2.2.2.1
                have p166 : 0 ≤ (Int32.toInt z153) := w160.2.2.2.2.1
                have p167 : (Int32.toInt z153) ≤ 400 := w160.2.2.2.2.2.1
                have p168 : 0 ≤ (Int32.toInt z156) := w160.2.2.2.2.2.2.1
                have p169 : (Int32.toInt z156) ≤ 1 := w160.2.2.2.2.2.2.2.1
                have p170 : ((Int32.toInt z153) ≤ (Int32.toInt x22)) := w160.2.2.2.2.2.2.2.2.1
                have p171 : (((Int32.toInt r159) = 0 ∧ 1 ≤ (Int32.toInt z152)) ∨ ((Int32.toInt r159) = 1 ∧ (Int32.toInt z152) = (Int32.toInt z16))) := w160.2.2.2.2.2.2.2.2.2
                rcases p171 with ⟨k172, k173⟩ | p171
                · skip
                  refine r_if_ne_f 103 151 C dX12_byTurns_103 (by decide) ((fa_eq r159 0).mpr (by show (Int32.toInt r159) = 0; omega)) ?_
                  refine r_goto 106 149 C dX12_byTurns_106 (by decide) ?_
                  refine r_iconst 149 0 C dX12_byTurns_149 (by decide) ?_
                  exact r_zret 150 Rt dX12_byTurns_150 (by decide) (z152, z153, z154, z155, z156, f157, f158) (show 0 ≤ (Int32.toInt 0) ∧ (Int32.toInt 0) ≤ 1 ∧ 0 ≤ (Int32.toInt z152) ∧ (Int32.toInt z152) ≤ 9 ∧ 0 ≤ (Int32.toInt z153) ∧ (Int32.toInt z153) ≤ 400 ∧ 0 ≤ (Int32.toInt z156) ∧ (Int32.toInt z156) ≤ 1 ∧ ((Int32.toInt z153) ≤ (Int32.toInt x22)) ∧ ((0 = 0 ∧ 1 ≤ (Int32.toInt z152)) ∨ (0 = 1 ∧ (Int32.toInt z152) = (Int32.toInt x20))) from ⟨(by decide), (by decide), (show _ ∧ _ from ⟨p164, p165⟩).1, (show _ ∧ _ from ⟨p164, p165⟩).2, (show _ ∧ _ from ⟨p166, p167⟩).1, (show _ ∧ _ from ⟨p166, p167⟩).2, (show _ ∧ _ from ⟨p168, p169⟩).1, (show _ ∧ _ from ⟨p168, p169⟩).2, (by first | omega | ((repeat' apply And.intro) <;> first | trivial | rfl | assumption | omega | decide | exact Or.inl rfl | exact Or.inr (Or.inl rfl) | exact Or.inr (Or.inr rfl) | exact Or.inr (Or.inr (by assumption)))), (by first | omega | ((repeat' apply And.intro) <;> first | trivial | rfl | assumption | omega | decide | exact Or.inl rfl | exact Or.inr (Or.inl rfl) | exact Or.inr (Or.inr rfl) | exact Or.inr (Or.inr (by assumption))))⟩) [1, 2, 3, 0] (by decide) rfl (Nat.le_of_ble_eq_true rfl) (Nat.le_of_ble_eq_true rfl)
                obtain ⟨k174, k175⟩ := p171
                refine r_if_ne_t 103 151 C dX12_byTurns_103 (by decide) (fun h_9 => by have h_8 : (Int32.toInt r159) = 0 := (fa_eq r159 0).mp h_9; omega) ?_
                refine r_iload_n 151 2 C dX12_byTurns_151 rfl ?_
                refine r_if_ne_t 152 159 C dX12_byTurns_152 (by decide) (fun h_9 => by have h_8 : (Int32.toInt z15) = 0 := (fa_eq z15 0).mp h_9; omega) ?_
                refine r_iconst 159 0 C dX12_byTurns_159 (by decide) ?_
                refine r_istore_n 160 C dX12_byTurns_160 [(2, .int 0), (4, .long z109), (3, .int z14), (0, .ref h0), (1, .int x0)] (by decide) rfl ?_
                obtain ⟨z176, ez176⟩ : ∃ z_9, z14 + Int32.ofInt 4 = z_9 := ⟨_, rfl⟩
                have tz176 : (Int32.toInt z176) = (Int32.toInt z14) + 4 := by rw [← ez176]; exact fb_addIv (a := 0) (b := 48) (c := 4) (d := 4) ⟨i27a, i27b⟩ ⟨by decide, by decide⟩ (by decide) (by decide)
                refine r_iinc 161 2 z176 C dX12_byTurns_161 rfl ez176 [(3, .int z176), (2, .int 0), (4, .long z109), (0, .ref h0), (1, .int x0)] (by decide) rfl ?_
                refine r_goto 164 28 C dX12_byTurns_164 (by decide) ?_
                refine r_lv [(3, .int z176), (2, .int 0), (0, .ref h0), (1, .int x0)] [0, 1, 3, 4] rfl ?_
                refine r_pick [(h0, .inr (11, [.ref h4, .int x1, .ref h5, .int x2, .int x3, .int x4, .ref h6, .ref h7, .ref h8, .ref h9, .int x5, .int x6, .int x7, .ref h10, .ref h11, .ref h12, .ref h13, .int x8, .int x9, .int x10, .long y0, .int x11, .int x12, .long y1, .long y2, .ref h14, .ref h15, .ref h16, .ref h17, .long y3, .int x13, .ref h18, .int x14, .int x15, .int x16, .int x17, .ref h19, .ref h20, .ref h21, .ref h22, .ref h23, .ref h24, .ref h25, .ref h26, .ref h27, .ref h28, .ref h29, .int x18, .int x19, .int z152, .int z153, .int x22, .int x23, .int x24, .long y4, .int x25, .ref h1, .ref h2, .long z154, .long z155, .int z156, .ref h3, .int x27, .ref h30, .ref h31, .ref h32, .ref h33, .int x28, .int x29, .int x30, .int x31, .ref h34, .ref h35, .int x32, .int x33, .ref h36])), (h1, .inl (gI g, 400, .inl f157)), (h2, .inl (gJ g, 2400, .inr (.inl f158))), (h3, .inl (gJ g, 48, .inr (.inl fm1)))] [1, 2, 3, 0] (by decide) rfl ?_
                exact ih25 z176 0 z152 z153 z154 z155 z156 f157 f158 ⟨by omega, by omega⟩ (by decide) ⟨p164, p165⟩ ⟨p166, p167⟩ ⟨p168, p169⟩ (by show (Int32.toInt z153) ≤ (Int32.toInt x22); omega) (by show (Int32.toInt z152) = (Int32.toInt x20); omega) (by omega)
      exact lp24 _ 0 x0 x20 x21 y5 y6 x26 fn0 fm0 (by decide) i_x0 i_x20 i_x21 i_x26 (by show (Int32.toInt x21) ≤ (Int32.toInt x22); omega) (by show (Int32.toInt x20) = (Int32.toInt x20); omega) (Nat.lt_succ_self _)
    · skip
      have k177 : ¬ ((Int32.toInt z11) ≤ 1) := fun h_9 => c12 ((fa_le z11 1).mpr h_9)
      refine r_aload_n 18 0 C dX12_byTurns_18 rfl ?_
      refine r_iconst 19 2 C dX12_byTurns_19 (by decide) ?_
      refine r_callVi 20 C dX12_byTurns_20 [] [(h0, .inr (11, [.ref h4, .int x1, .ref h5, .int x2, .int x3, .int x4, .ref h6, .ref h7, .ref h8, .ref h9, .int x5, .int x6, .int x7, .ref h10, .ref h11, .ref h12, .ref h13, .int x8, .int x9, .int x10, .long y0, .int x11, .int x12, .long y1, .long y2, .ref h14, .ref h15, .ref h16, .ref h17, .long y3, .int x13, .ref h18, .int x14, .int x15, .int x16, .int x17, .ref h19, .ref h20, .ref h21, .ref h22, .ref h23, .ref h24, .ref h25, .ref h26, .ref h27, .ref h28, .ref h29, .int x18, .int x19, .int x20, .int x21, .int x22, .int x23, .int x24, .long y4, .int x25, .ref h1, .ref h2, .long y5, .long y6, .int x26, .ref h3, .int x27, .ref h30, .ref h31, .ref h32, .ref h33, .int x28, .int x29, .int x30, .int x31, .ref h34, .ref h35, .int x32, .int x33, .ref h36]))] [(h1, .inl (gI g, 400, .inl fn0)), (h2, .inl (gJ g, 2400, .inr (.inl fm0))), (h3, .inl (gJ g, 48, .inr (.inl fm1)))] (fun sz => c65_X12_stops l g h0 2 h4 x1 h5 x2 x3 x4 h6 h7 h8 h9 x5 x6 x7 h10 h11 h12 h13 x8 x9 x10 y0 x11 x12 y1 y2 h14 h15 h16 h17 y3 x13 h18 x14 x15 x16 x17 h19 h20 h21 h22 h23 h24 h25 h26 h27 h28 h29 x18 x19 x20 x21 x22 x23 x24 y4 x25 h1 h2 y5 y6 x26 h3 x27 h30 h31 h32 h33 x28 x29 x30 x31 h34 h35 x32 x33 h36 (by decide) i_x1 i_x2 i_x4 i_x7 i_x8 i_x11 i_x12 i_y1 i_y2 i_x13 i_x14 i_x15 i_x16 i_x17 i_x19 i_x20 i_x21 i_x22 i_x23 i_x25 i_x26 i_x27 i_x28 i_x29 i_x30 i_x31 i_x32 i_x33 sz) gX12_byTurns_X12_stops rfl ⟨rfl, rfl⟩ 1 (by decide) ⟨Nat.le_of_ble_eq_true rfl, Nat.le_of_ble_eq_true rfl⟩ 0 rfl rfl [0] [1, 2, 3] rfl rfl (by decide) (by decide) (by decide) rfl rfl (Nat.le_of_ble_eq_true rfl) ⟨Nat.le_of_ble_eq_true rfl, Nat.le_of_ble_eq_true rfl⟩ (fun r179 z178 w180 => ?_)
      refine r_ws [(h1, .inl (gI g, 400, .inl fn0)), (h2, .inl (gJ g, 2400, .inr (.inl fm0))), (h3, .inl (gJ g, 48, .inr (.inl fm1))), (h0, .inr (11, [.ref h4, .int x1, .ref h5, .int x2, .int x3, .int x4, .ref h6, .ref h7, .ref h8, .ref h9, .int x5, .int x6, .int x7, .ref h10, .ref h11, .ref h12, .ref h13, .int x8, .int x9, .int x10, .long y0, .int x11, .int x12, .long y1, .long y2, .ref h14, .ref h15, .ref h16, .ref h17, .long y3, .int x13, .ref h18, .int x14, .int x15, .int x16, .int x17, .ref h19, .ref h20, .ref h21, .ref h22, .ref h23, .ref h24, .ref h25, .ref h26, .ref h27, .ref h28, .ref h29, .int x18, .int x19, .int z178, .int x21, .int x22, .int x23, .int x24, .long y4, .int x25, .ref h1, .ref h2, .long y5, .long y6, .int x26, .ref h3, .int x27, .ref h30, .ref h31, .ref h32, .ref h33, .int x28, .int x29, .int x30, .int x31, .ref h34, .ref h35, .int x32, .int x33, .ref h36]))] rfl ?_
      have p181 : 0 = r179 := (w180.1).symm
      subst p181
      have p182 : 0 ≤ (Int32.toInt z178) := w180.2.1
      have p183 : (Int32.toInt z178) ≤ 9 := w180.2.2.1
      have p184 : (1 ≤ (Int32.toInt z178)) := w180.2.2.2
      exact r_zret 23 Rt dX12_byTurns_23 (by decide) (z178, x21, y5, y6, x26, fn0, fm0) (show 0 ≤ (Int32.toInt 0) ∧ (Int32.toInt 0) ≤ 1 ∧ 0 ≤ (Int32.toInt z178) ∧ (Int32.toInt z178) ≤ 9 ∧ 0 ≤ (Int32.toInt x21) ∧ (Int32.toInt x21) ≤ 400 ∧ 0 ≤ (Int32.toInt x26) ∧ (Int32.toInt x26) ≤ 1 ∧ ((Int32.toInt x21) ≤ (Int32.toInt x22)) ∧ ((0 = 0 ∧ 1 ≤ (Int32.toInt z178)) ∨ (0 = 1 ∧ (Int32.toInt z178) = (Int32.toInt x20))) from ⟨(by decide), (by decide), (show _ ∧ _ from ⟨p182, p183⟩).1, (show _ ∧ _ from ⟨p182, p183⟩).2, i_x21.1, i_x21.2, i_x26.1, i_x26.2, (by first | omega | ((repeat' apply And.intro) <;> first | trivial | rfl | assumption | omega | decide | exact Or.inl rfl | exact Or.inr (Or.inl rfl) | exact Or.inr (Or.inr rfl) | exact Or.inr (Or.inr (by assumption)))), (by first | omega | ((repeat' apply And.intro) <;> first | trivial | rfl | assumption | omega | decide | exact Or.inl rfl | exact Or.inr (Or.inl rfl) | exact Or.inr (Or.inr rfl) | exact Or.inr (Or.inr (by assumption))))⟩) [3, 0, 1, 2] (by decide) rfl (Nat.le_of_ble_eq_true rfl) (Nat.le_of_ble_eq_true rfl)
set_option maxHeartbeats 4000000 in
set_option maxRecDepth 100000 in
theorem c118_X12_wants (l : Launch) (g : GD) (h0 : Nat) (x0 : Int32) (h1 : Nat) (x1 : Int32) (h2 : Nat) (x2 : Int32) (x3 : Int32) (x4 : Int32) (h3 : Nat) (h4 : Nat) (h5 : Nat) (h6 : Nat) (x5 : Int32) (x6 : Int32) (x7 : Int32) (h7 : Nat) (h8 : Nat) (h9 : Nat) (h10 : Nat) (x8 : Int32) (x9 : Int32) (x10 : Int32) (y0 : Int64) (x11 : Int32) (x12 : Int32) (y1 : Int64) (y2 : Int64) (h11 : Nat) (h12 : Nat) (h13 : Nat) (h14 : Nat) (y3 : Int64) (x13 : Int32) (h15 : Nat) (x14 : Int32) (x15 : Int32) (x16 : Int32) (x17 : Int32) (h16 : Nat) (h17 : Nat) (h18 : Nat) (h19 : Nat) (h20 : Nat) (h21 : Nat) (h22 : Nat) (h23 : Nat) (h24 : Nat) (h25 : Nat) (h26 : Nat) (x18 : Int32) (x19 : Int32) (x20 : Int32) (x21 : Int32) (x22 : Int32) (x23 : Int32) (x24 : Int32) (y4 : Int64) (x25 : Int32) (h27 : Nat) (h28 : Nat) (y5 : Int64) (y6 : Int64) (x26 : Int32) (h29 : Nat) (x27 : Int32) (h30 : Nat) (h31 : Nat) (h32 : Nat) (h33 : Nat) (x28 : Int32) (x29 : Int32) (x30 : Int32) (x31 : Int32) (h34 : Nat) (h35 : Nat) (x32 : Int32) (x33 : Int32) (h36 : Nat) (i_x1 : (0 ≤ (Int32.toInt x1) ∧ (Int32.toInt x1) ≤ 1500)) (i_x2 : (0 ≤ (Int32.toInt x2) ∧ (Int32.toInt x2) ≤ 1508)) (i_x4 : (0 ≤ (Int32.toInt x4) ∧ (Int32.toInt x4) ≤ 0)) (i_x7 : (0 ≤ (Int32.toInt x7) ∧ (Int32.toInt x7) ≤ 3)) (i_x8 : (0 ≤ (Int32.toInt x8) ∧ (Int32.toInt x8) ≤ 4500)) (i_x11 : (0 ≤ (Int32.toInt x11) ∧ (Int32.toInt x11) ≤ 65535)) (i_x12 : (0 ≤ (Int32.toInt x12) ∧ (Int32.toInt x12) ≤ 255)) (i_y1 : (0 ≤ (Int64.toInt y1) ∧ (Int64.toInt y1) ≤ 1500)) (i_y2 : (0 ≤ (Int64.toInt y2) ∧ (Int64.toInt y2) ≤ 1500)) (i_x13 : (0 ≤ (Int32.toInt x13) ∧ (Int32.toInt x13) ≤ 1)) (i_x14 : (0 ≤ (Int32.toInt x14) ∧ (Int32.toInt x14) ≤ 1500)) (i_x15 : (0 ≤ (Int32.toInt x15) ∧ (Int32.toInt x15) ≤ 1501)) (i_x16 : (0 ≤ (Int32.toInt x16) ∧ (Int32.toInt x16) ≤ 1500)) (i_x17 : (0 ≤ (Int32.toInt x17) ∧ (Int32.toInt x17) ≤ 1500)) (i_x19 : (0 ≤ (Int32.toInt x19) ∧ (Int32.toInt x19) ≤ 1)) (i_x20 : (0 ≤ (Int32.toInt x20) ∧ (Int32.toInt x20) ≤ 9)) (i_x21 : (0 ≤ (Int32.toInt x21) ∧ (Int32.toInt x21) ≤ 400)) (i_x22 : (0 ≤ (Int32.toInt x22) ∧ (Int32.toInt x22) ≤ 400)) (i_x23 : (0 ≤ (Int32.toInt x23) ∧ (Int32.toInt x23) ≤ 3000)) (i_x25 : (0 ≤ (Int32.toInt x25) ∧ (Int32.toInt x25) ≤ 1)) (i_x26 : (0 ≤ (Int32.toInt x26) ∧ (Int32.toInt x26) ≤ 1)) (i_x27 : (0 ≤ (Int32.toInt x27) ∧ (Int32.toInt x27) ≤ 48)) (i_x28 : (0 ≤ (Int32.toInt x28) ∧ (Int32.toInt x28) ≤ 10)) (i_x29 : (0 ≤ (Int32.toInt x29) ∧ (Int32.toInt x29) ≤ 1)) (i_x30 : (0 ≤ (Int32.toInt x30) ∧ (Int32.toInt x30) ≤ 1)) (i_x31 : (0 ≤ (Int32.toInt x31) ∧ (Int32.toInt x31) ≤ 7)) (i_x32 : (0 ≤ (Int32.toInt x32) ∧ (Int32.toInt x32) ≤ 24)) (i_x33 : (0 ≤ (Int32.toInt x33) ∧ (Int32.toInt x33) ≤ 1)) (sz : Nat) : Met l yX12_wants wsX12_wants ({ frames := 1, cells := 0, slots := 0, locals := 21 }) (va_Pc [.ref h0, .int x0] (PW g [(h0, .inr (11, [.ref h1, .int x1, .ref h2, .int x2, .int x3, .int x4, .ref h3, .ref h4, .ref h5, .ref h6, .int x5, .int x6, .int x7, .ref h7, .ref h8, .ref h9, .ref h10, .int x8, .int x9, .int x10, .long y0, .int x11, .int x12, .long y1, .long y2, .ref h11, .ref h12, .ref h13, .ref h14, .long y3, .int x13, .ref h15, .int x14, .int x15, .int x16, .int x17, .ref h16, .ref h17, .ref h18, .ref h19, .ref h20, .ref h21, .ref h22, .ref h23, .ref h24, .ref h25, .ref h26, .int x18, .int x19, .int x20, .int x21, .int x22, .int x23, .int x24, .long y4, .int x25, .ref h27, .ref h28, .long y5, .long y6, .int x26, .ref h29, .int x27, .ref h30, .ref h31, .ref h32, .ref h33, .int x28, .int x29, .int x30, .int x31, .ref h34, .ref h35, .int x32, .int x33, .ref h36]))] sz)) (va_Qi (fun (r : Int32) (u : (Int32)) => 0 ≤ (Int32.toInt r) ∧ (Int32.toInt r) ≤ 1 ∧ 0 ≤ (Int32.toInt u) ∧ (Int32.toInt u) ≤ 9 ∧ (((Int32.toInt r) = 0 ∧ 1 ≤ (Int32.toInt u)) ∨ ((Int32.toInt r) = 1 ∧ (Int32.toInt u) = (Int32.toInt x20) ∧ (Int32.toInt x27) = (Int32.toInt x0)))) (BW g (va_A [(h0, .inr (11, [.ref h1, .int x1, .ref h2, .int x2, .int x3, .int x4, .ref h3, .ref h4, .ref h5, .ref h6, .int x5, .int x6, .int x7, .ref h7, .ref h8, .ref h9, .ref h10, .int x8, .int x9, .int x10, .long y0, .int x11, .int x12, .long y1, .long y2, .ref h11, .ref h12, .ref h13, .ref h14, .long y3, .int x13, .ref h15, .int x14, .int x15, .int x16, .int x17, .ref h16, .ref h17, .ref h18, .ref h19, .ref h20, .ref h21, .ref h22, .ref h23, .ref h24, .ref h25, .ref h26, .int x18, .int x19, .int x20, .int x21, .int x22, .int x23, .int x24, .long y4, .int x25, .ref h27, .ref h28, .long y5, .long y6, .int x26, .ref h29, .int x27, .ref h30, .ref h31, .ref h32, .ref h33, .int x28, .int x29, .int x30, .int x31, .ref h34, .ref h35, .int x32, .int x33, .ref h36]))] sz) (fun u : (Int32) => [(h0, .inr (11, [.ref h1, .int x1, .ref h2, .int x2, .int x3, .int x4, .ref h3, .ref h4, .ref h5, .ref h6, .int x5, .int x6, .int x7, .ref h7, .ref h8, .ref h9, .ref h10, .int x8, .int x9, .int x10, .long y0, .int x11, .int x12, .long y1, .long y2, .ref h11, .ref h12, .ref h13, .ref h14, .long y3, .int x13, .ref h15, .int x14, .int x15, .int x16, .int x17, .ref h16, .ref h17, .ref h18, .ref h19, .ref h20, .ref h21, .ref h22, .ref h23, .ref h24, .ref h25, .ref h26, .int x18, .int x19, .int u, .int x21, .int x22, .int x23, .int x24, .long y4, .int x25, .ref h27, .ref h28, .long y5, .long y6, .int x26, .ref h29, .int x27, .ref h30, .ref h31, .ref h32, .ref h33, .int x28, .int x29, .int x30, .int x31, .ref h34, .ref h35, .int x32, .int x33, .ref h36]))])) (va_A [(h0, .inr (11, [.ref h1, .int x1, .ref h2, .int x2, .int x3, .int x4, .ref h3, .ref h4, .ref h5, .ref h6, .int x5, .int x6, .int x7, .ref h7, .ref h8, .ref h9, .ref h10, .int x8, .int x9, .int x10, .long y0, .int x11, .int x12, .long y1, .long y2, .ref h11, .ref h12, .ref h13, .ref h14, .long y3, .int x13, .ref h15, .int x14, .int x15, .int x16, .int x17, .ref h16, .ref h17, .ref h18, .ref h19, .ref h20, .ref h21, .ref h22, .ref h23, .ref h24, .ref h25, .ref h26, .int x18, .int x19, .int x20, .int x21, .int x22, .int x23, .int x24, .long y4, .int x25, .ref h27, .ref h28, .long y5, .long y6, .int x26, .ref h29, .int x27, .ref h30, .ref h31, .ref h32, .ref h33, .int x28, .int x29, .int x30, .int x31, .ref h34, .ref h35, .int x32, .int x33, .ref h36]))] sz)) 0 0 (va_A [(h0, .inr (11, [.ref h1, .int x1, .ref h2, .int x2, .int x3, .int x4, .ref h3, .ref h4, .ref h5, .ref h6, .int x5, .int x6, .int x7, .ref h7, .ref h8, .ref h9, .ref h10, .int x8, .int x9, .int x10, .long y0, .int x11, .int x12, .long y1, .long y2, .ref h11, .ref h12, .ref h13, .ref h14, .long y3, .int x13, .ref h15, .int x14, .int x15, .int x16, .int x17, .ref h16, .ref h17, .ref h18, .ref h19, .ref h20, .ref h21, .ref h22, .ref h23, .ref h24, .ref h25, .ref h26, .int x18, .int x19, .int x20, .int x21, .int x22, .int x23, .int x24, .long y4, .int x25, .ref h27, .ref h28, .long y5, .long y6, .int x26, .ref h29, .int x27, .ref h30, .ref h31, .ref h32, .ref h33, .int x28, .int x29, .int x30, .int x31, .ref h34, .ref h35, .int x32, .int x33, .ref h36]))] sz) := by
  refine met_z RX12 (by decide) rfl rfl (Nat.le_of_ble_eq_true rfl) [(0, .ref h0), (1, .int x0)] rfl ?_
  intro p e s m args below meth c A Q C hnm Rt
  have gx0 := fb_rng x0
  have hiX12 : ∀ w ∈ wsX120, w ∈ wsX12_wants := fun w h => List.mem_cons_of_mem _ (List.mem_append_right _ (h))
  refine r_aload_n 0 0 C dX12_wants_0 rfl ?_
  refine r_get 1 C dX12_wants_1 (k := 62) 0 rfl rfl hiX12 (by decide) rfl (mg 1 rfl) (Or.inl rfl) rfl ?_
  refine r_iload_n 4 1 C dX12_wants_4 rfl ?_
  refine r_icmp_eq 5 16 C dX12_wants_5 (by decide) (fun c1 => ?_) (fun c1 => ?_)
  · skip
    have k2 : (Int32.toInt x27) = (Int32.toInt x0) := (fa_eq x27 x0).mp c1
    refine r_iconst 16 1 C dX12_wants_16 (by decide) ?_
    refine r_goto 17 21 C dX12_wants_17 (by decide) ?_
    exact r_zret 21 Rt dX12_wants_21 (by decide) x20 (show 0 ≤ (Int32.toInt 1) ∧ (Int32.toInt 1) ≤ 1 ∧ 0 ≤ (Int32.toInt x20) ∧ (Int32.toInt x20) ≤ 9 ∧ ((1 = 0 ∧ 1 ≤ (Int32.toInt x20)) ∨ (1 = 1 ∧ (Int32.toInt x20) = (Int32.toInt x20) ∧ (Int32.toInt x27) = (Int32.toInt x0))) from ⟨(by decide), (by decide), i_x20.1, i_x20.2, (by first | omega | ((repeat' apply And.intro) <;> first | trivial | rfl | assumption | omega | decide | exact Or.inl rfl | exact Or.inr (Or.inl rfl) | exact Or.inr (Or.inr rfl) | exact Or.inr (Or.inr (by assumption))))⟩) [0] (by decide) rfl (Nat.le_of_ble_eq_true rfl) (Nat.le_of_ble_eq_true rfl)
  · skip
    have k3 : ¬ ((Int32.toInt x27) = (Int32.toInt x0)) := fun h_9 => c1 ((fa_eq x27 x0).mpr h_9)
    refine r_aload_n 8 0 C dX12_wants_8 rfl ?_
    refine r_iconst 9 2 C dX12_wants_9 (by decide) ?_
    refine r_callVi 10 C dX12_wants_10 [] [(h0, .inr (11, [.ref h1, .int x1, .ref h2, .int x2, .int x3, .int x4, .ref h3, .ref h4, .ref h5, .ref h6, .int x5, .int x6, .int x7, .ref h7, .ref h8, .ref h9, .ref h10, .int x8, .int x9, .int x10, .long y0, .int x11, .int x12, .long y1, .long y2, .ref h11, .ref h12, .ref h13, .ref h14, .long y3, .int x13, .ref h15, .int x14, .int x15, .int x16, .int x17, .ref h16, .ref h17, .ref h18, .ref h19, .ref h20, .ref h21, .ref h22, .ref h23, .ref h24, .ref h25, .ref h26, .int x18, .int x19, .int x20, .int x21, .int x22, .int x23, .int x24, .long y4, .int x25, .ref h27, .ref h28, .long y5, .long y6, .int x26, .ref h29, .int x27, .ref h30, .ref h31, .ref h32, .ref h33, .int x28, .int x29, .int x30, .int x31, .ref h34, .ref h35, .int x32, .int x33, .ref h36]))] [] (fun sz => c65_X12_stops l g h0 2 h1 x1 h2 x2 x3 x4 h3 h4 h5 h6 x5 x6 x7 h7 h8 h9 h10 x8 x9 x10 y0 x11 x12 y1 y2 h11 h12 h13 h14 y3 x13 h15 x14 x15 x16 x17 h16 h17 h18 h19 h20 h21 h22 h23 h24 h25 h26 x18 x19 x20 x21 x22 x23 x24 y4 x25 h27 h28 y5 y6 x26 h29 x27 h30 h31 h32 h33 x28 x29 x30 x31 h34 h35 x32 x33 h36 (by decide) i_x1 i_x2 i_x4 i_x7 i_x8 i_x11 i_x12 i_y1 i_y2 i_x13 i_x14 i_x15 i_x16 i_x17 i_x19 i_x20 i_x21 i_x22 i_x23 i_x25 i_x26 i_x27 i_x28 i_x29 i_x30 i_x31 i_x32 i_x33 sz) gX12_wants_X12_stops rfl ⟨rfl, rfl⟩ 1 (by decide) ⟨Nat.le_of_ble_eq_true rfl, Nat.le_of_ble_eq_true rfl⟩ 0 rfl rfl [0] [] rfl rfl (by decide) (by decide) (by decide) rfl rfl (Nat.le_of_ble_eq_true rfl) ⟨Nat.le_of_ble_eq_true rfl, Nat.le_of_ble_eq_true rfl⟩ (fun r5 z4 w6 => ?_)
    refine r_ws [(h0, .inr (11, [.ref h1, .int x1, .ref h2, .int x2, .int x3, .int x4, .ref h3, .ref h4, .ref h5, .ref h6, .int x5, .int x6, .int x7, .ref h7, .ref h8, .ref h9, .ref h10, .int x8, .int x9, .int x10, .long y0, .int x11, .int x12, .long y1, .long y2, .ref h11, .ref h12, .ref h13, .ref h14, .long y3, .int x13, .ref h15, .int x14, .int x15, .int x16, .int x17, .ref h16, .ref h17, .ref h18, .ref h19, .ref h20, .ref h21, .ref h22, .ref h23, .ref h24, .ref h25, .ref h26, .int x18, .int x19, .int z4, .int x21, .int x22, .int x23, .int x24, .long y4, .int x25, .ref h27, .ref h28, .long y5, .long y6, .int x26, .ref h29, .int x27, .ref h30, .ref h31, .ref h32, .ref h33, .int x28, .int x29, .int x30, .int x31, .ref h34, .ref h35, .int x32, .int x33, .ref h36]))] rfl ?_
    have p7 : 0 = r5 := (w6.1).symm
    subst p7
    have p8 : 0 ≤ (Int32.toInt z4) := w6.2.1
    have p9 : (Int32.toInt z4) ≤ 9 := w6.2.2.1
    have p10 : (1 ≤ (Int32.toInt z4)) := w6.2.2.2
    refine r_if_eq_t 13 20 C dX12_wants_13 (by decide) (by decide) ?_
    refine r_iconst 20 0 C dX12_wants_20 (by decide) ?_
    exact r_zret 21 Rt dX12_wants_21 (by decide) z4 (show 0 ≤ (Int32.toInt 0) ∧ (Int32.toInt 0) ≤ 1 ∧ 0 ≤ (Int32.toInt z4) ∧ (Int32.toInt z4) ≤ 9 ∧ ((0 = 0 ∧ 1 ≤ (Int32.toInt z4)) ∨ (0 = 1 ∧ (Int32.toInt z4) = (Int32.toInt x20) ∧ (Int32.toInt x27) = (Int32.toInt x0))) from ⟨(by decide), (by decide), (show _ ∧ _ from ⟨p8, p9⟩).1, (show _ ∧ _ from ⟨p8, p9⟩).2, (by first | omega | ((repeat' apply And.intro) <;> first | trivial | rfl | assumption | omega | decide | exact Or.inl rfl | exact Or.inr (Or.inl rfl) | exact Or.inr (Or.inr rfl) | exact Or.inr (Or.inr (by assumption))))⟩) [0] (by decide) rfl (Nat.le_of_ble_eq_true rfl) (Nat.le_of_ble_eq_true rfl)
set_option maxHeartbeats 4000000 in
set_option maxRecDepth 100000 in
theorem c119_X12_hflex (l : Launch) (g : GD) (h0 : Nat) (h1 : Nat) (h2 : Nat) (h3 : Nat) (h4 : Nat) (x0 : Int32) (h5 : Nat) (x1 : Int32) (x2 : Int32) (x3 : Int32) (h6 : Nat) (h7 : Nat) (h8 : Nat) (h9 : Nat) (x4 : Int32) (x5 : Int32) (x6 : Int32) (h10 : Nat) (h11 : Nat) (h12 : Nat) (h13 : Nat) (x7 : Int32) (x8 : Int32) (x9 : Int32) (y0 : Int64) (x10 : Int32) (x11 : Int32) (y1 : Int64) (y2 : Int64) (h14 : Nat) (h15 : Nat) (h16 : Nat) (h17 : Nat) (y3 : Int64) (x12 : Int32) (h18 : Nat) (x13 : Int32) (x14 : Int32) (x15 : Int32) (x16 : Int32) (h19 : Nat) (h20 : Nat) (h21 : Nat) (h22 : Nat) (h23 : Nat) (h24 : Nat) (h25 : Nat) (h26 : Nat) (h27 : Nat) (h28 : Nat) (h29 : Nat) (x17 : Int32) (x18 : Int32) (x19 : Int32) (x20 : Int32) (x21 : Int32) (x22 : Int32) (x23 : Int32) (y4 : Int64) (x24 : Int32) (y5 : Int64) (y6 : Int64) (x25 : Int32) (x26 : Int32) (h30 : Nat) (h31 : Nat) (h32 : Nat) (h33 : Nat) (x27 : Int32) (x28 : Int32) (x29 : Int32) (x30 : Int32) (h34 : Nat) (h35 : Nat) (x31 : Int32) (x32 : Int32) (h36 : Nat) (fn0 : Nat → Int32) (fm0 : Nat → Int64) (fm1 : Nat → Int64) (i_x0 : (0 ≤ (Int32.toInt x0) ∧ (Int32.toInt x0) ≤ 1500)) (i_x1 : (0 ≤ (Int32.toInt x1) ∧ (Int32.toInt x1) ≤ 1508)) (i_x3 : (0 ≤ (Int32.toInt x3) ∧ (Int32.toInt x3) ≤ 0)) (i_x6 : (0 ≤ (Int32.toInt x6) ∧ (Int32.toInt x6) ≤ 3)) (i_x7 : (0 ≤ (Int32.toInt x7) ∧ (Int32.toInt x7) ≤ 4500)) (i_x10 : (0 ≤ (Int32.toInt x10) ∧ (Int32.toInt x10) ≤ 65535)) (i_x11 : (0 ≤ (Int32.toInt x11) ∧ (Int32.toInt x11) ≤ 255)) (i_y1 : (0 ≤ (Int64.toInt y1) ∧ (Int64.toInt y1) ≤ 1500)) (i_y2 : (0 ≤ (Int64.toInt y2) ∧ (Int64.toInt y2) ≤ 1500)) (i_x12 : (0 ≤ (Int32.toInt x12) ∧ (Int32.toInt x12) ≤ 1)) (i_x13 : (0 ≤ (Int32.toInt x13) ∧ (Int32.toInt x13) ≤ 1500)) (i_x14 : (0 ≤ (Int32.toInt x14) ∧ (Int32.toInt x14) ≤ 1501)) (i_x15 : (0 ≤ (Int32.toInt x15) ∧ (Int32.toInt x15) ≤ 1500)) (i_x16 : (0 ≤ (Int32.toInt x16) ∧ (Int32.toInt x16) ≤ 1500)) (i_x18 : (0 ≤ (Int32.toInt x18) ∧ (Int32.toInt x18) ≤ 1)) (i_x19 : (0 ≤ (Int32.toInt x19) ∧ (Int32.toInt x19) ≤ 9)) (i_x20 : (0 ≤ (Int32.toInt x20) ∧ (Int32.toInt x20) ≤ 400)) (i_x21 : (0 ≤ (Int32.toInt x21) ∧ (Int32.toInt x21) ≤ 400)) (i_x22 : (0 ≤ (Int32.toInt x22) ∧ (Int32.toInt x22) ≤ 3000)) (i_x24 : (0 ≤ (Int32.toInt x24) ∧ (Int32.toInt x24) ≤ 1)) (i_x25 : (0 ≤ (Int32.toInt x25) ∧ (Int32.toInt x25) ≤ 1)) (i_x26 : (0 ≤ (Int32.toInt x26) ∧ (Int32.toInt x26) ≤ 48)) (i_x27 : (0 ≤ (Int32.toInt x27) ∧ (Int32.toInt x27) ≤ 10)) (i_x28 : (0 ≤ (Int32.toInt x28) ∧ (Int32.toInt x28) ≤ 1)) (i_x29 : (0 ≤ (Int32.toInt x29) ∧ (Int32.toInt x29) ≤ 1)) (i_x30 : (0 ≤ (Int32.toInt x30) ∧ (Int32.toInt x30) ≤ 7)) (i_x31 : (0 ≤ (Int32.toInt x31) ∧ (Int32.toInt x31) ≤ 24)) (i_x32 : (0 ≤ (Int32.toInt x32) ∧ (Int32.toInt x32) ≤ 1)) (pre0 : ((Int32.toInt x20) ≤ (Int32.toInt x21))) (sz : Nat) : Met l yX12_hflex wsX12_hflex ({ frames := 3, cells := 0, slots := 0, locals := 74 }) (va_Pc [.ref h0] (PW g [(h0, .inr (11, [.ref h4, .int x0, .ref h5, .int x1, .int x2, .int x3, .ref h6, .ref h7, .ref h8, .ref h9, .int x4, .int x5, .int x6, .ref h10, .ref h11, .ref h12, .ref h13, .int x7, .int x8, .int x9, .long y0, .int x10, .int x11, .long y1, .long y2, .ref h14, .ref h15, .ref h16, .ref h17, .long y3, .int x12, .ref h18, .int x13, .int x14, .int x15, .int x16, .ref h19, .ref h20, .ref h21, .ref h22, .ref h23, .ref h24, .ref h25, .ref h26, .ref h27, .ref h28, .ref h29, .int x17, .int x18, .int x19, .int x20, .int x21, .int x22, .int x23, .long y4, .int x24, .ref h1, .ref h2, .long y5, .long y6, .int x25, .ref h3, .int x26, .ref h30, .ref h31, .ref h32, .ref h33, .int x27, .int x28, .int x29, .int x30, .ref h34, .ref h35, .int x31, .int x32, .ref h36])), (h1, .inl (gI g, 400, .inl fn0)), (h2, .inl (gJ g, 2400, .inr (.inl fm0))), (h3, .inl (gJ g, 48, .inr (.inl fm1)))] sz)) (va_Qi (fun (r : Int32) (u : (Int32) × (Int32) × (Int64) × (Int64) × (Int32) × (Nat → Int32) × (Nat → Int64)) => 0 ≤ (Int32.toInt r) ∧ (Int32.toInt r) ≤ 1 ∧ 0 ≤ (Int32.toInt (u.1)) ∧ (Int32.toInt (u.1)) ≤ 9 ∧ 0 ≤ (Int32.toInt (u.2.1)) ∧ (Int32.toInt (u.2.1)) ≤ 400 ∧ 0 ≤ (Int32.toInt (u.2.2.2.2.1)) ∧ (Int32.toInt (u.2.2.2.2.1)) ≤ 1 ∧ ((Int32.toInt (u.2.1)) ≤ (Int32.toInt x21)) ∧ (((Int32.toInt r) = 0 ∧ 1 ≤ (Int32.toInt (u.1))) ∨ ((Int32.toInt r) = 1 ∧ (Int32.toInt (u.1)) = (Int32.toInt x19)))) (BW g (va_A [(h0, .inr (11, [.ref h4, .int x0, .ref h5, .int x1, .int x2, .int x3, .ref h6, .ref h7, .ref h8, .ref h9, .int x4, .int x5, .int x6, .ref h10, .ref h11, .ref h12, .ref h13, .int x7, .int x8, .int x9, .long y0, .int x10, .int x11, .long y1, .long y2, .ref h14, .ref h15, .ref h16, .ref h17, .long y3, .int x12, .ref h18, .int x13, .int x14, .int x15, .int x16, .ref h19, .ref h20, .ref h21, .ref h22, .ref h23, .ref h24, .ref h25, .ref h26, .ref h27, .ref h28, .ref h29, .int x17, .int x18, .int x19, .int x20, .int x21, .int x22, .int x23, .long y4, .int x24, .ref h1, .ref h2, .long y5, .long y6, .int x25, .ref h3, .int x26, .ref h30, .ref h31, .ref h32, .ref h33, .int x27, .int x28, .int x29, .int x30, .ref h34, .ref h35, .int x31, .int x32, .ref h36])), (h1, .inl (gI g, 400, .inl fn0)), (h2, .inl (gJ g, 2400, .inr (.inl fm0))), (h3, .inl (gJ g, 48, .inr (.inl fm1)))] sz) (fun u : (Int32) × (Int32) × (Int64) × (Int64) × (Int32) × (Nat → Int32) × (Nat → Int64) => [(h0, .inr (11, [.ref h4, .int x0, .ref h5, .int x1, .int x2, .int x3, .ref h6, .ref h7, .ref h8, .ref h9, .int x4, .int x5, .int x6, .ref h10, .ref h11, .ref h12, .ref h13, .int x7, .int x8, .int x9, .long y0, .int x10, .int x11, .long y1, .long y2, .ref h14, .ref h15, .ref h16, .ref h17, .long y3, .int x12, .ref h18, .int x13, .int x14, .int x15, .int x16, .ref h19, .ref h20, .ref h21, .ref h22, .ref h23, .ref h24, .ref h25, .ref h26, .ref h27, .ref h28, .ref h29, .int x17, .int x18, .int u.1, .int u.2.1, .int x21, .int x22, .int x23, .long y4, .int x24, .ref h1, .ref h2, .long u.2.2.1, .long u.2.2.2.1, .int u.2.2.2.2.1, .ref h3, .int x26, .ref h30, .ref h31, .ref h32, .ref h33, .int x27, .int x28, .int x29, .int x30, .ref h34, .ref h35, .int x31, .int x32, .ref h36])), (h1, .inl (gI g, 400, .inl u.2.2.2.2.2.1)), (h2, .inl (gJ g, 2400, .inr (.inl u.2.2.2.2.2.2))), (h3, .inl (gJ g, 48, .inr (.inl fm1)))])) (va_A [(h0, .inr (11, [.ref h4, .int x0, .ref h5, .int x1, .int x2, .int x3, .ref h6, .ref h7, .ref h8, .ref h9, .int x4, .int x5, .int x6, .ref h10, .ref h11, .ref h12, .ref h13, .int x7, .int x8, .int x9, .long y0, .int x10, .int x11, .long y1, .long y2, .ref h14, .ref h15, .ref h16, .ref h17, .long y3, .int x12, .ref h18, .int x13, .int x14, .int x15, .int x16, .ref h19, .ref h20, .ref h21, .ref h22, .ref h23, .ref h24, .ref h25, .ref h26, .ref h27, .ref h28, .ref h29, .int x17, .int x18, .int x19, .int x20, .int x21, .int x22, .int x23, .long y4, .int x24, .ref h1, .ref h2, .long y5, .long y6, .int x25, .ref h3, .int x26, .ref h30, .ref h31, .ref h32, .ref h33, .int x27, .int x28, .int x29, .int x30, .ref h34, .ref h35, .int x31, .int x32, .ref h36])), (h1, .inl (gI g, 400, .inl fn0)), (h2, .inl (gJ g, 2400, .inr (.inl fm0))), (h3, .inl (gJ g, 48, .inr (.inl fm1)))] sz)) 0 0 (va_A [(h0, .inr (11, [.ref h4, .int x0, .ref h5, .int x1, .int x2, .int x3, .ref h6, .ref h7, .ref h8, .ref h9, .int x4, .int x5, .int x6, .ref h10, .ref h11, .ref h12, .ref h13, .int x7, .int x8, .int x9, .long y0, .int x10, .int x11, .long y1, .long y2, .ref h14, .ref h15, .ref h16, .ref h17, .long y3, .int x12, .ref h18, .int x13, .int x14, .int x15, .int x16, .ref h19, .ref h20, .ref h21, .ref h22, .ref h23, .ref h24, .ref h25, .ref h26, .ref h27, .ref h28, .ref h29, .int x17, .int x18, .int x19, .int x20, .int x21, .int x22, .int x23, .long y4, .int x24, .ref h1, .ref h2, .long y5, .long y6, .int x25, .ref h3, .int x26, .ref h30, .ref h31, .ref h32, .ref h33, .int x27, .int x28, .int x29, .int x30, .ref h34, .ref h35, .int x31, .int x32, .ref h36])), (h1, .inl (gI g, 400, .inl fn0)), (h2, .inl (gJ g, 2400, .inr (.inl fm0))), (h3, .inl (gJ g, 48, .inr (.inl fm1)))] sz) := by
  refine met_z RX12 (by decide) rfl rfl (Nat.le_of_ble_eq_true rfl) [(0, .ref h0)] rfl ?_
  intro p e s m args below meth c A Q C hnm Rt
  have hiX12 : ∀ w ∈ wsX120, w ∈ wsX12_hflex := fun w h => List.mem_cons_of_mem _ (List.mem_append_right _ (h))
  refine r_aload_n 0 0 C dX12_hflex_0 rfl ?_
  refine r_aload_n 1 0 C dX12_hflex_1 rfl ?_
  refine r_get 2 C dX12_hflex_2 (k := 61) 0 rfl rfl hiX12 (by decide) rfl (mg 1 rfl) (Or.inl rfl) rfl ?_
  refine r_iconst 5 0 C dX12_hflex_5 (by decide) ?_
  obtain ⟨z1, ez1⟩ : ∃ z_9, fm1 (Int32.toNatClampNeg 0) = z_9 := ⟨_, rfl⟩
  refine r_lald 6 z1 C dX12_hflex_6 3 rfl (vin (by decide)) ez1 ?_
  have gz1 := fb_rngL z1
  refine r_lconst 7 0 C dX12_hflex_7 (by decide) ?_
  refine r_aload_n 8 0 C dX12_hflex_8 rfl ?_
  refine r_get 9 C dX12_hflex_9 (k := 61) 0 rfl rfl hiX12 (by decide) rfl (mg 1 rfl) (Or.inl rfl) rfl ?_
  refine r_iconst 12 1 C dX12_hflex_12 (by decide) ?_
  obtain ⟨z2, ez2⟩ : ∃ z_9, fm1 (Int32.toNatClampNeg 1) = z_9 := ⟨_, rfl⟩
  refine r_lald 13 z2 C dX12_hflex_13 3 rfl (vin (by decide)) ez2 ?_
  have gz2 := fb_rngL z2
  refine r_aload_n 14 0 C dX12_hflex_14 rfl ?_
  refine r_get 15 C dX12_hflex_15 (k := 61) 0 rfl rfl hiX12 (by decide) rfl (mg 1 rfl) (Or.inl rfl) rfl ?_
  refine r_iconst 18 2 C dX12_hflex_18 (by decide) ?_
  obtain ⟨z3, ez3⟩ : ∃ z_9, fm1 (Int32.toNatClampNeg 2) = z_9 := ⟨_, rfl⟩
  refine r_lald 19 z3 C dX12_hflex_19 3 rfl (vin (by decide)) ez3 ?_
  have gz3 := fb_rngL z3
  refine r_aload_n 20 0 C dX12_hflex_20 rfl ?_
  refine r_get 21 C dX12_hflex_21 (k := 61) 0 rfl rfl hiX12 (by decide) rfl (mg 1 rfl) (Or.inl rfl) rfl ?_
  refine r_iconst 24 3 C dX12_hflex_24 (by decide) ?_
  obtain ⟨z4, ez4⟩ : ∃ z_9, fm1 (Int32.toNatClampNeg 3) = z_9 := ⟨_, rfl⟩
  refine r_lald 25 z4 C dX12_hflex_25 3 rfl (vin (by decide)) ez4 ?_
  have gz4 := fb_rngL z4
  refine r_lconst 26 0 C dX12_hflex_26 (by decide) ?_
  refine r_callVi 27 C dX12_hflex_27 [] [(h0, .inr (11, [.ref h4, .int x0, .ref h5, .int x1, .int x2, .int x3, .ref h6, .ref h7, .ref h8, .ref h9, .int x4, .int x5, .int x6, .ref h10, .ref h11, .ref h12, .ref h13, .int x7, .int x8, .int x9, .long y0, .int x10, .int x11, .long y1, .long y2, .ref h14, .ref h15, .ref h16, .ref h17, .long y3, .int x12, .ref h18, .int x13, .int x14, .int x15, .int x16, .ref h19, .ref h20, .ref h21, .ref h22, .ref h23, .ref h24, .ref h25, .ref h26, .ref h27, .ref h28, .ref h29, .int x17, .int x18, .int x19, .int x20, .int x21, .int x22, .int x23, .long y4, .int x24, .ref h1, .ref h2, .long y5, .long y6, .int x25, .ref h3, .int x26, .ref h30, .ref h31, .ref h32, .ref h33, .int x27, .int x28, .int x29, .int x30, .ref h34, .ref h35, .int x31, .int x32, .ref h36])), (h1, .inl (gI g, 400, .inl fn0)), (h2, .inl (gJ g, 2400, .inr (.inl fm0)))] [(h3, .inl (gJ g, 48, .inr (.inl fm1)))] (fun sz => c114_X12_curve l g h0 h1 h2 z1 0 z2 z3 z4 0 h4 x0 h5 x1 x2 x3 h6 h7 h8 h9 x4 x5 x6 h10 h11 h12 h13 x7 x8 x9 y0 x10 x11 y1 y2 h14 h15 h16 h17 y3 x12 h18 x13 x14 x15 x16 h19 h20 h21 h22 h23 h24 h25 h26 h27 h28 h29 x17 x18 x19 x20 x21 x22 x23 y4 x24 y5 y6 x25 h3 x26 h30 h31 h32 h33 x27 x28 x29 x30 h34 h35 x31 x32 h36 fn0 fm0 i_x0 i_x1 i_x3 i_x6 i_x7 i_x10 i_x11 i_y1 i_y2 i_x12 i_x13 i_x14 i_x15 i_x16 i_x18 i_x19 i_x20 i_x21 i_x22 i_x24 i_x25 i_x26 i_x27 i_x28 i_x29 i_x30 i_x31 i_x32 (by show ((Int32.toInt x20) ≤ (Int32.toInt x21)); first | assumption | omega) sz) gX12_hflex_X12_curve rfl ⟨rfl, rfl⟩ 6 (by decide) ⟨Nat.le_of_ble_eq_true rfl, Nat.le_of_ble_eq_true rfl⟩ 0 rfl rfl [0, 1, 2] [3] rfl rfl (by decide) (by decide) (by decide) rfl rfl (Nat.le_of_ble_eq_true rfl) ⟨Nat.le_of_ble_eq_true rfl, Nat.le_of_ble_eq_true rfl⟩ (fun r12 u14 w13 => ?_)
  obtain ⟨z5, z6, z7, z8, z9, f10, f11⟩ := u14
  refine r_ws [(h3, .inl (gJ g, 48, .inr (.inl fm1))), (h0, .inr (11, [.ref h4, .int x0, .ref h5, .int x1, .int x2, .int x3, .ref h6, .ref h7, .ref h8, .ref h9, .int x4, .int x5, .int x6, .ref h10, .ref h11, .ref h12, .ref h13, .int x7, .int x8, .int x9, .long y0, .int x10, .int x11, .long y1, .long y2, .ref h14, .ref h15, .ref h16, .ref h17, .long y3, .int x12, .ref h18, .int x13, .int x14, .int x15, .int x16, .ref h19, .ref h20, .ref h21, .ref h22, .ref h23, .ref h24, .ref h25, .ref h26, .ref h27, .ref h28, .ref h29, .int x17, .int x18, .int z5, .int z6, .int x21, .int x22, .int x23, .long y4, .int x24, .ref h1, .ref h2, .long z7, .long z8, .int z9, .ref h3, .int x26, .ref h30, .ref h31, .ref h32, .ref h33, .int x27, .int x28, .int x29, .int x30, .ref h34, .ref h35, .int x31, .int x32, .ref h36])), (h1, .inl (gI g, 400, .inl f10)), (h2, .inl (gJ g, 2400, .inr (.inl f11)))] rfl ?_
  have gz7 := fb_rngL z7
  have gz8 := fb_rngL z8
  have p15 : 0 ≤ (Int32.toInt r12) := w13.1
  have p16 : (Int32.toInt r12) ≤ 1 := w13.2.1
  have p17 : 0 ≤ (Int32.toInt z5) := w13.2.2.1
  have p18 : (Int32.toInt z5) ≤ 9 := w13.2.2.2.1
  have p19 : 0 ≤ (Int32.toInt z6) := w13.2.2.2.2.1
  have p20 : (Int32.toInt z6) ≤ 400 := w13.2.2.2.2.2.1
  have p21 : 0 ≤ (Int32.toInt z9) := w13.2.2.2.2.2.2.1
  have p22 : (Int32.toInt z9) ≤ 1 := w13.2.2.2.2.2.2.2.1
  have p23 : ((Int32.toInt z6) ≤ (Int32.toInt x21)) := w13.2.2.2.2.2.2.2.2.1
  have p24 : (((Int32.toInt r12) = 0 ∧ 1 ≤ (Int32.toInt z5)) ∨ ((Int32.toInt r12) = 1 ∧ (Int32.toInt z5) = (Int32.toInt x19))) := w13.2.2.2.2.2.2.2.2.2
  rcases p24 with ⟨k25, k26⟩ | p24
  · skip
    refine r_if_eq_t 30 72 C dX12_hflex_30 (by decide) ((fa_eq r12 0).mpr (by show (Int32.toInt r12) = 0; omega)) ?_
    refine r_iconst 72 0 C dX12_hflex_72 (by decide) ?_
    exact r_zret 73 Rt dX12_hflex_73 (by decide) (z5, z6, z7, z8, z9, f10, f11) (show 0 ≤ (Int32.toInt 0) ∧ (Int32.toInt 0) ≤ 1 ∧ 0 ≤ (Int32.toInt z5) ∧ (Int32.toInt z5) ≤ 9 ∧ 0 ≤ (Int32.toInt z6) ∧ (Int32.toInt z6) ≤ 400 ∧ 0 ≤ (Int32.toInt z9) ∧ (Int32.toInt z9) ≤ 1 ∧ ((Int32.toInt z6) ≤ (Int32.toInt x21)) ∧ ((0 = 0 ∧ 1 ≤ (Int32.toInt z5)) ∨ (0 = 1 ∧ (Int32.toInt z5) = (Int32.toInt x19))) from ⟨(by decide), (by decide), (show _ ∧ _ from ⟨p17, p18⟩).1, (show _ ∧ _ from ⟨p17, p18⟩).2, (show _ ∧ _ from ⟨p19, p20⟩).1, (show _ ∧ _ from ⟨p19, p20⟩).2, (show _ ∧ _ from ⟨p21, p22⟩).1, (show _ ∧ _ from ⟨p21, p22⟩).2, (by first | omega | ((repeat' apply And.intro) <;> first | trivial | rfl | assumption | omega | decide | exact Or.inl rfl | exact Or.inr (Or.inl rfl) | exact Or.inr (Or.inr rfl) | exact Or.inr (Or.inr (by assumption)))), (by first | omega | ((repeat' apply And.intro) <;> first | trivial | rfl | assumption | omega | decide | exact Or.inl rfl | exact Or.inr (Or.inl rfl) | exact Or.inr (Or.inr rfl) | exact Or.inr (Or.inr (by assumption))))⟩) [1, 2, 3, 0] (by decide) rfl (Nat.le_of_ble_eq_true rfl) (Nat.le_of_ble_eq_true rfl)
  obtain ⟨k27, k28⟩ := p24
  refine r_if_eq_f 30 72 C dX12_hflex_30 (by decide) (fun h_9 => by have h_8 : (Int32.toInt r12) = 0 := (fa_eq r12 0).mp h_9; omega) ?_
  refine r_aload_n 33 0 C dX12_hflex_33 rfl ?_
  refine r_aload_n 34 0 C dX12_hflex_34 rfl ?_
  refine r_get 35 C dX12_hflex_35 (k := 61) 1 rfl rfl hiX12 (by decide) rfl (mg 1 rfl) (Or.inl rfl) rfl ?_
  refine r_iconst 38 4 C dX12_hflex_38 (by decide) ?_
  obtain ⟨z29, ez29⟩ : ∃ z_9, fm1 (Int32.toNatClampNeg 4) = z_9 := ⟨_, rfl⟩
  refine r_lald 39 z29 C dX12_hflex_39 0 rfl (vin (by decide)) ez29 ?_
  have gz29 := fb_rngL z29
  refine r_lconst 40 0 C dX12_hflex_40 (by decide) ?_
  refine r_aload_n 41 0 C dX12_hflex_41 rfl ?_
  refine r_get 42 C dX12_hflex_42 (k := 61) 1 rfl rfl hiX12 (by decide) rfl (mg 1 rfl) (Or.inl rfl) rfl ?_
  refine r_iconst 45 5 C dX12_hflex_45 (by decide) ?_
  obtain ⟨z30, ez30⟩ : ∃ z_9, fm1 (Int32.toNatClampNeg 5) = z_9 := ⟨_, rfl⟩
  refine r_lald 46 z30 C dX12_hflex_46 0 rfl (vin (by decide)) ez30 ?_
  have gz30 := fb_rngL z30
  refine r_aload_n 47 0 C dX12_hflex_47 rfl ?_
  refine r_get 48 C dX12_hflex_48 (k := 61) 1 rfl rfl hiX12 (by decide) rfl (mg 1 rfl) (Or.inl rfl) rfl ?_
  refine r_iconst 51 2 C dX12_hflex_51 (by decide) ?_
  refine r_lald 52 z3 C dX12_hflex_52 0 rfl (vin (by decide)) ez3 ?_
  obtain ⟨z31, ez31⟩ : ∃ z_9, -z3 = z_9 := ⟨_, rfl⟩
  have gz31 := fb_rngL z31
  refine r_lneg 53 z31 C dX12_hflex_53 ez31 ?_
  refine r_aload_n 54 0 C dX12_hflex_54 rfl ?_
  refine r_get 55 C dX12_hflex_55 (k := 61) 1 rfl rfl hiX12 (by decide) rfl (mg 1 rfl) (Or.inl rfl) rfl ?_
  refine r_bipush 58 6 C dX12_hflex_58 (by decide) ?_
  obtain ⟨z32, ez32⟩ : ∃ z_9, fm1 (Int32.toNatClampNeg 6) = z_9 := ⟨_, rfl⟩
  refine r_lald 60 z32 C dX12_hflex_60 0 rfl (vin (by decide)) ez32 ?_
  have gz32 := fb_rngL z32
  refine r_lconst 61 0 C dX12_hflex_61 (by decide) ?_
  refine r_callVi 62 C dX12_hflex_62 [] [(h0, .inr (11, [.ref h4, .int x0, .ref h5, .int x1, .int x2, .int x3, .ref h6, .ref h7, .ref h8, .ref h9, .int x4, .int x5, .int x6, .ref h10, .ref h11, .ref h12, .ref h13, .int x7, .int x8, .int x9, .long y0, .int x10, .int x11, .long y1, .long y2, .ref h14, .ref h15, .ref h16, .ref h17, .long y3, .int x12, .ref h18, .int x13, .int x14, .int x15, .int x16, .ref h19, .ref h20, .ref h21, .ref h22, .ref h23, .ref h24, .ref h25, .ref h26, .ref h27, .ref h28, .ref h29, .int x17, .int x18, .int z5, .int z6, .int x21, .int x22, .int x23, .long y4, .int x24, .ref h1, .ref h2, .long z7, .long z8, .int z9, .ref h3, .int x26, .ref h30, .ref h31, .ref h32, .ref h33, .int x27, .int x28, .int x29, .int x30, .ref h34, .ref h35, .int x31, .int x32, .ref h36])), (h1, .inl (gI g, 400, .inl f10)), (h2, .inl (gJ g, 2400, .inr (.inl f11)))] [(h3, .inl (gJ g, 48, .inr (.inl fm1)))] (fun sz => c114_X12_curve l g h0 h1 h2 z29 0 z30 z31 z32 0 h4 x0 h5 x1 x2 x3 h6 h7 h8 h9 x4 x5 x6 h10 h11 h12 h13 x7 x8 x9 y0 x10 x11 y1 y2 h14 h15 h16 h17 y3 x12 h18 x13 x14 x15 x16 h19 h20 h21 h22 h23 h24 h25 h26 h27 h28 h29 x17 x18 z5 z6 x21 x22 x23 y4 x24 z7 z8 z9 h3 x26 h30 h31 h32 h33 x27 x28 x29 x30 h34 h35 x31 x32 h36 f10 f11 i_x0 i_x1 i_x3 i_x6 i_x7 i_x10 i_x11 i_y1 i_y2 i_x12 i_x13 i_x14 i_x15 i_x16 i_x18 ⟨p17, p18⟩ ⟨p19, p20⟩ i_x21 i_x22 i_x24 ⟨p21, p22⟩ i_x26 i_x27 i_x28 i_x29 i_x30 i_x31 i_x32 (by show ((Int32.toInt z6) ≤ (Int32.toInt x21)); first | assumption | omega) sz) gX12_hflex_X12_curve rfl ⟨rfl, rfl⟩ 6 (by decide) ⟨Nat.le_of_ble_eq_true rfl, Nat.le_of_ble_eq_true rfl⟩ 1 rfl rfl [1, 2, 3] [0] rfl rfl (by decide) (by decide) (by decide) rfl rfl (Nat.le_of_ble_eq_true rfl) ⟨Nat.le_of_ble_eq_true rfl, Nat.le_of_ble_eq_true rfl⟩ (fun r40 u42 w41 => ?_)
  obtain ⟨z33, z34, z35, z36, z37, f38, f39⟩ := u42
  refine r_ws [(h3, .inl (gJ g, 48, .inr (.inl fm1))), (h0, .inr (11, [.ref h4, .int x0, .ref h5, .int x1, .int x2, .int x3, .ref h6, .ref h7, .ref h8, .ref h9, .int x4, .int x5, .int x6, .ref h10, .ref h11, .ref h12, .ref h13, .int x7, .int x8, .int x9, .long y0, .int x10, .int x11, .long y1, .long y2, .ref h14, .ref h15, .ref h16, .ref h17, .long y3, .int x12, .ref h18, .int x13, .int x14, .int x15, .int x16, .ref h19, .ref h20, .ref h21, .ref h22, .ref h23, .ref h24, .ref h25, .ref h26, .ref h27, .ref h28, .ref h29, .int x17, .int x18, .int z33, .int z34, .int x21, .int x22, .int x23, .long y4, .int x24, .ref h1, .ref h2, .long z35, .long z36, .int z37, .ref h3, .int x26, .ref h30, .ref h31, .ref h32, .ref h33, .int x27, .int x28, .int x29, .int x30, .ref h34, .ref h35, .int x31, .int x32, .ref h36])), (h1, .inl (gI g, 400, .inl f38)), (h2, .inl (gJ g, 2400, .inr (.inl f39)))] rfl ?_
  have gz35 := fb_rngL z35
  have gz36 := fb_rngL z36
  have p43 : 0 ≤ (Int32.toInt r40) := w41.1
  have p44 : (Int32.toInt r40) ≤ 1 := w41.2.1
  have p45 : 0 ≤ (Int32.toInt z33) := w41.2.2.1
  have p46 : (Int32.toInt z33) ≤ 9 := w41.2.2.2.1
  have p47 : 0 ≤ (Int32.toInt z34) := w41.2.2.2.2.1
  have p48 : (Int32.toInt z34) ≤ 400 := w41.2.2.2.2.2.1
  have p49 : 0 ≤ (Int32.toInt z37) := w41.2.2.2.2.2.2.1
  have p50 : (Int32.toInt z37) ≤ 1 := w41.2.2.2.2.2.2.2.1
  have p51 : ((Int32.toInt z34) ≤ (Int32.toInt x21)) := w41.2.2.2.2.2.2.2.2.1
  have p52 : (((Int32.toInt r40) = 0 ∧ 1 ≤ (Int32.toInt z33)) ∨ ((Int32.toInt r40) = 1 ∧ (Int32.toInt z33) = (Int32.toInt z5))) := w41.2.2.2.2.2.2.2.2.2
  rcases p52 with ⟨k53, k54⟩ | p52
  · skip
    refine r_if_eq_t 65 72 C dX12_hflex_65 (by decide) ((fa_eq r40 0).mpr (by show (Int32.toInt r40) = 0; omega)) ?_
    refine r_iconst 72 0 C dX12_hflex_72 (by decide) ?_
    exact r_zret 73 Rt dX12_hflex_73 (by decide) (z33, z34, z35, z36, z37, f38, f39) (show 0 ≤ (Int32.toInt 0) ∧ (Int32.toInt 0) ≤ 1 ∧ 0 ≤ (Int32.toInt z33) ∧ (Int32.toInt z33) ≤ 9 ∧ 0 ≤ (Int32.toInt z34) ∧ (Int32.toInt z34) ≤ 400 ∧ 0 ≤ (Int32.toInt z37) ∧ (Int32.toInt z37) ≤ 1 ∧ ((Int32.toInt z34) ≤ (Int32.toInt x21)) ∧ ((0 = 0 ∧ 1 ≤ (Int32.toInt z33)) ∨ (0 = 1 ∧ (Int32.toInt z33) = (Int32.toInt x19))) from ⟨(by decide), (by decide), (show _ ∧ _ from ⟨p45, p46⟩).1, (show _ ∧ _ from ⟨p45, p46⟩).2, (show _ ∧ _ from ⟨p47, p48⟩).1, (show _ ∧ _ from ⟨p47, p48⟩).2, (show _ ∧ _ from ⟨p49, p50⟩).1, (show _ ∧ _ from ⟨p49, p50⟩).2, (by first | omega | ((repeat' apply And.intro) <;> first | trivial | rfl | assumption | omega | decide | exact Or.inl rfl | exact Or.inr (Or.inl rfl) | exact Or.inr (Or.inr rfl) | exact Or.inr (Or.inr (by assumption)))), (by first | omega | ((repeat' apply And.intro) <;> first | trivial | rfl | assumption | omega | decide | exact Or.inl rfl | exact Or.inr (Or.inl rfl) | exact Or.inr (Or.inr rfl) | exact Or.inr (Or.inr (by assumption))))⟩) [1, 2, 3, 0] (by decide) rfl (Nat.le_of_ble_eq_true rfl) (Nat.le_of_ble_eq_true rfl)
  obtain ⟨k55, k56⟩ := p52
  refine r_if_eq_f 65 72 C dX12_hflex_65 (by decide) (fun h_9 => by have h_8 : (Int32.toInt r40) = 0 := (fa_eq r40 0).mp h_9; omega) ?_
  refine r_iconst 68 1 C dX12_hflex_68 (by decide) ?_
  refine r_goto 69 73 C dX12_hflex_69 (by decide) ?_
  exact r_zret 73 Rt dX12_hflex_73 (by decide) (z33, z34, z35, z36, z37, f38, f39) (show 0 ≤ (Int32.toInt 1) ∧ (Int32.toInt 1) ≤ 1 ∧ 0 ≤ (Int32.toInt z33) ∧ (Int32.toInt z33) ≤ 9 ∧ 0 ≤ (Int32.toInt z34) ∧ (Int32.toInt z34) ≤ 400 ∧ 0 ≤ (Int32.toInt z37) ∧ (Int32.toInt z37) ≤ 1 ∧ ((Int32.toInt z34) ≤ (Int32.toInt x21)) ∧ ((1 = 0 ∧ 1 ≤ (Int32.toInt z33)) ∨ (1 = 1 ∧ (Int32.toInt z33) = (Int32.toInt x19))) from ⟨(by decide), (by decide), (show _ ∧ _ from ⟨p45, p46⟩).1, (show _ ∧ _ from ⟨p45, p46⟩).2, (show _ ∧ _ from ⟨p47, p48⟩).1, (show _ ∧ _ from ⟨p47, p48⟩).2, (show _ ∧ _ from ⟨p49, p50⟩).1, (show _ ∧ _ from ⟨p49, p50⟩).2, (by first | omega | ((repeat' apply And.intro) <;> first | trivial | rfl | assumption | omega | decide | exact Or.inl rfl | exact Or.inr (Or.inl rfl) | exact Or.inr (Or.inr rfl) | exact Or.inr (Or.inr (by assumption)))), (by first | omega | ((repeat' apply And.intro) <;> first | trivial | rfl | assumption | omega | decide | exact Or.inl rfl | exact Or.inr (Or.inl rfl) | exact Or.inr (Or.inr rfl) | exact Or.inr (Or.inr (by assumption))))⟩) [1, 2, 3, 0] (by decide) rfl (Nat.le_of_ble_eq_true rfl) (Nat.le_of_ble_eq_true rfl)
set_option maxHeartbeats 4000000 in
set_option maxRecDepth 100000 in
theorem c120_X12_hflex1 (l : Launch) (g : GD) (h0 : Nat) (h1 : Nat) (h2 : Nat) (h3 : Nat) (h4 : Nat) (x0 : Int32) (h5 : Nat) (x1 : Int32) (x2 : Int32) (x3 : Int32) (h6 : Nat) (h7 : Nat) (h8 : Nat) (h9 : Nat) (x4 : Int32) (x5 : Int32) (x6 : Int32) (h10 : Nat) (h11 : Nat) (h12 : Nat) (h13 : Nat) (x7 : Int32) (x8 : Int32) (x9 : Int32) (y0 : Int64) (x10 : Int32) (x11 : Int32) (y1 : Int64) (y2 : Int64) (h14 : Nat) (h15 : Nat) (h16 : Nat) (h17 : Nat) (y3 : Int64) (x12 : Int32) (h18 : Nat) (x13 : Int32) (x14 : Int32) (x15 : Int32) (x16 : Int32) (h19 : Nat) (h20 : Nat) (h21 : Nat) (h22 : Nat) (h23 : Nat) (h24 : Nat) (h25 : Nat) (h26 : Nat) (h27 : Nat) (h28 : Nat) (h29 : Nat) (x17 : Int32) (x18 : Int32) (x19 : Int32) (x20 : Int32) (x21 : Int32) (x22 : Int32) (x23 : Int32) (y4 : Int64) (x24 : Int32) (y5 : Int64) (y6 : Int64) (x25 : Int32) (x26 : Int32) (h30 : Nat) (h31 : Nat) (h32 : Nat) (h33 : Nat) (x27 : Int32) (x28 : Int32) (x29 : Int32) (x30 : Int32) (h34 : Nat) (h35 : Nat) (x31 : Int32) (x32 : Int32) (h36 : Nat) (fn0 : Nat → Int32) (fm0 : Nat → Int64) (fm1 : Nat → Int64) (i_x0 : (0 ≤ (Int32.toInt x0) ∧ (Int32.toInt x0) ≤ 1500)) (i_x1 : (0 ≤ (Int32.toInt x1) ∧ (Int32.toInt x1) ≤ 1508)) (i_x3 : (0 ≤ (Int32.toInt x3) ∧ (Int32.toInt x3) ≤ 0)) (i_x6 : (0 ≤ (Int32.toInt x6) ∧ (Int32.toInt x6) ≤ 3)) (i_x7 : (0 ≤ (Int32.toInt x7) ∧ (Int32.toInt x7) ≤ 4500)) (i_x10 : (0 ≤ (Int32.toInt x10) ∧ (Int32.toInt x10) ≤ 65535)) (i_x11 : (0 ≤ (Int32.toInt x11) ∧ (Int32.toInt x11) ≤ 255)) (i_y1 : (0 ≤ (Int64.toInt y1) ∧ (Int64.toInt y1) ≤ 1500)) (i_y2 : (0 ≤ (Int64.toInt y2) ∧ (Int64.toInt y2) ≤ 1500)) (i_x12 : (0 ≤ (Int32.toInt x12) ∧ (Int32.toInt x12) ≤ 1)) (i_x13 : (0 ≤ (Int32.toInt x13) ∧ (Int32.toInt x13) ≤ 1500)) (i_x14 : (0 ≤ (Int32.toInt x14) ∧ (Int32.toInt x14) ≤ 1501)) (i_x15 : (0 ≤ (Int32.toInt x15) ∧ (Int32.toInt x15) ≤ 1500)) (i_x16 : (0 ≤ (Int32.toInt x16) ∧ (Int32.toInt x16) ≤ 1500)) (i_x18 : (0 ≤ (Int32.toInt x18) ∧ (Int32.toInt x18) ≤ 1)) (i_x19 : (0 ≤ (Int32.toInt x19) ∧ (Int32.toInt x19) ≤ 9)) (i_x20 : (0 ≤ (Int32.toInt x20) ∧ (Int32.toInt x20) ≤ 400)) (i_x21 : (0 ≤ (Int32.toInt x21) ∧ (Int32.toInt x21) ≤ 400)) (i_x22 : (0 ≤ (Int32.toInt x22) ∧ (Int32.toInt x22) ≤ 3000)) (i_x24 : (0 ≤ (Int32.toInt x24) ∧ (Int32.toInt x24) ≤ 1)) (i_x25 : (0 ≤ (Int32.toInt x25) ∧ (Int32.toInt x25) ≤ 1)) (i_x26 : (0 ≤ (Int32.toInt x26) ∧ (Int32.toInt x26) ≤ 48)) (i_x27 : (0 ≤ (Int32.toInt x27) ∧ (Int32.toInt x27) ≤ 10)) (i_x28 : (0 ≤ (Int32.toInt x28) ∧ (Int32.toInt x28) ≤ 1)) (i_x29 : (0 ≤ (Int32.toInt x29) ∧ (Int32.toInt x29) ≤ 1)) (i_x30 : (0 ≤ (Int32.toInt x30) ∧ (Int32.toInt x30) ≤ 7)) (i_x31 : (0 ≤ (Int32.toInt x31) ∧ (Int32.toInt x31) ≤ 24)) (i_x32 : (0 ≤ (Int32.toInt x32) ∧ (Int32.toInt x32) ≤ 1)) (pre0 : ((Int32.toInt x20) ≤ (Int32.toInt x21))) (sz : Nat) : Met l yX12_hflex1 wsX12_hflex1 ({ frames := 3, cells := 0, slots := 0, locals := 74 }) (va_Pc [.ref h0] (PW g [(h0, .inr (11, [.ref h4, .int x0, .ref h5, .int x1, .int x2, .int x3, .ref h6, .ref h7, .ref h8, .ref h9, .int x4, .int x5, .int x6, .ref h10, .ref h11, .ref h12, .ref h13, .int x7, .int x8, .int x9, .long y0, .int x10, .int x11, .long y1, .long y2, .ref h14, .ref h15, .ref h16, .ref h17, .long y3, .int x12, .ref h18, .int x13, .int x14, .int x15, .int x16, .ref h19, .ref h20, .ref h21, .ref h22, .ref h23, .ref h24, .ref h25, .ref h26, .ref h27, .ref h28, .ref h29, .int x17, .int x18, .int x19, .int x20, .int x21, .int x22, .int x23, .long y4, .int x24, .ref h1, .ref h2, .long y5, .long y6, .int x25, .ref h3, .int x26, .ref h30, .ref h31, .ref h32, .ref h33, .int x27, .int x28, .int x29, .int x30, .ref h34, .ref h35, .int x31, .int x32, .ref h36])), (h1, .inl (gI g, 400, .inl fn0)), (h2, .inl (gJ g, 2400, .inr (.inl fm0))), (h3, .inl (gJ g, 48, .inr (.inl fm1)))] sz)) (va_Qi (fun (r : Int32) (u : (Int32) × (Int32) × (Int64) × (Int64) × (Int32) × (Nat → Int32) × (Nat → Int64)) => 0 ≤ (Int32.toInt r) ∧ (Int32.toInt r) ≤ 1 ∧ 0 ≤ (Int32.toInt (u.1)) ∧ (Int32.toInt (u.1)) ≤ 9 ∧ 0 ≤ (Int32.toInt (u.2.1)) ∧ (Int32.toInt (u.2.1)) ≤ 400 ∧ 0 ≤ (Int32.toInt (u.2.2.2.2.1)) ∧ (Int32.toInt (u.2.2.2.2.1)) ≤ 1 ∧ ((Int32.toInt (u.2.1)) ≤ (Int32.toInt x21)) ∧ (((Int32.toInt r) = 0 ∧ 1 ≤ (Int32.toInt (u.1))) ∨ ((Int32.toInt r) = 1 ∧ (Int32.toInt (u.1)) = (Int32.toInt x19)))) (BW g (va_A [(h0, .inr (11, [.ref h4, .int x0, .ref h5, .int x1, .int x2, .int x3, .ref h6, .ref h7, .ref h8, .ref h9, .int x4, .int x5, .int x6, .ref h10, .ref h11, .ref h12, .ref h13, .int x7, .int x8, .int x9, .long y0, .int x10, .int x11, .long y1, .long y2, .ref h14, .ref h15, .ref h16, .ref h17, .long y3, .int x12, .ref h18, .int x13, .int x14, .int x15, .int x16, .ref h19, .ref h20, .ref h21, .ref h22, .ref h23, .ref h24, .ref h25, .ref h26, .ref h27, .ref h28, .ref h29, .int x17, .int x18, .int x19, .int x20, .int x21, .int x22, .int x23, .long y4, .int x24, .ref h1, .ref h2, .long y5, .long y6, .int x25, .ref h3, .int x26, .ref h30, .ref h31, .ref h32, .ref h33, .int x27, .int x28, .int x29, .int x30, .ref h34, .ref h35, .int x31, .int x32, .ref h36])), (h1, .inl (gI g, 400, .inl fn0)), (h2, .inl (gJ g, 2400, .inr (.inl fm0))), (h3, .inl (gJ g, 48, .inr (.inl fm1)))] sz) (fun u : (Int32) × (Int32) × (Int64) × (Int64) × (Int32) × (Nat → Int32) × (Nat → Int64) => [(h0, .inr (11, [.ref h4, .int x0, .ref h5, .int x1, .int x2, .int x3, .ref h6, .ref h7, .ref h8, .ref h9, .int x4, .int x5, .int x6, .ref h10, .ref h11, .ref h12, .ref h13, .int x7, .int x8, .int x9, .long y0, .int x10, .int x11, .long y1, .long y2, .ref h14, .ref h15, .ref h16, .ref h17, .long y3, .int x12, .ref h18, .int x13, .int x14, .int x15, .int x16, .ref h19, .ref h20, .ref h21, .ref h22, .ref h23, .ref h24, .ref h25, .ref h26, .ref h27, .ref h28, .ref h29, .int x17, .int x18, .int u.1, .int u.2.1, .int x21, .int x22, .int x23, .long y4, .int x24, .ref h1, .ref h2, .long u.2.2.1, .long u.2.2.2.1, .int u.2.2.2.2.1, .ref h3, .int x26, .ref h30, .ref h31, .ref h32, .ref h33, .int x27, .int x28, .int x29, .int x30, .ref h34, .ref h35, .int x31, .int x32, .ref h36])), (h1, .inl (gI g, 400, .inl u.2.2.2.2.2.1)), (h2, .inl (gJ g, 2400, .inr (.inl u.2.2.2.2.2.2))), (h3, .inl (gJ g, 48, .inr (.inl fm1)))])) (va_A [(h0, .inr (11, [.ref h4, .int x0, .ref h5, .int x1, .int x2, .int x3, .ref h6, .ref h7, .ref h8, .ref h9, .int x4, .int x5, .int x6, .ref h10, .ref h11, .ref h12, .ref h13, .int x7, .int x8, .int x9, .long y0, .int x10, .int x11, .long y1, .long y2, .ref h14, .ref h15, .ref h16, .ref h17, .long y3, .int x12, .ref h18, .int x13, .int x14, .int x15, .int x16, .ref h19, .ref h20, .ref h21, .ref h22, .ref h23, .ref h24, .ref h25, .ref h26, .ref h27, .ref h28, .ref h29, .int x17, .int x18, .int x19, .int x20, .int x21, .int x22, .int x23, .long y4, .int x24, .ref h1, .ref h2, .long y5, .long y6, .int x25, .ref h3, .int x26, .ref h30, .ref h31, .ref h32, .ref h33, .int x27, .int x28, .int x29, .int x30, .ref h34, .ref h35, .int x31, .int x32, .ref h36])), (h1, .inl (gI g, 400, .inl fn0)), (h2, .inl (gJ g, 2400, .inr (.inl fm0))), (h3, .inl (gJ g, 48, .inr (.inl fm1)))] sz)) 0 0 (va_A [(h0, .inr (11, [.ref h4, .int x0, .ref h5, .int x1, .int x2, .int x3, .ref h6, .ref h7, .ref h8, .ref h9, .int x4, .int x5, .int x6, .ref h10, .ref h11, .ref h12, .ref h13, .int x7, .int x8, .int x9, .long y0, .int x10, .int x11, .long y1, .long y2, .ref h14, .ref h15, .ref h16, .ref h17, .long y3, .int x12, .ref h18, .int x13, .int x14, .int x15, .int x16, .ref h19, .ref h20, .ref h21, .ref h22, .ref h23, .ref h24, .ref h25, .ref h26, .ref h27, .ref h28, .ref h29, .int x17, .int x18, .int x19, .int x20, .int x21, .int x22, .int x23, .long y4, .int x24, .ref h1, .ref h2, .long y5, .long y6, .int x25, .ref h3, .int x26, .ref h30, .ref h31, .ref h32, .ref h33, .int x27, .int x28, .int x29, .int x30, .ref h34, .ref h35, .int x31, .int x32, .ref h36])), (h1, .inl (gI g, 400, .inl fn0)), (h2, .inl (gJ g, 2400, .inr (.inl fm0))), (h3, .inl (gJ g, 48, .inr (.inl fm1)))] sz) := by
  refine met_z RX12 (by decide) rfl rfl (Nat.le_of_ble_eq_true rfl) [(0, .ref h0)] rfl ?_
  intro p e s m args below meth c A Q C hnm Rt
  have hiX12 : ∀ w ∈ wsX120, w ∈ wsX12_hflex1 := fun w h => List.mem_cons_of_mem _ (List.mem_append_right _ (h))
  refine r_aload_n 0 0 C dX12_hflex1_0 rfl ?_
  refine r_get 1 C dX12_hflex1_1 (k := 59) 0 rfl rfl hiX12 (by decide) rfl (mg 1 rfl) (Or.inl rfl) rfl ?_
  refine r_lstore_n 4 C dX12_hflex1_4 [(1, .long y6), (0, .ref h0)] (by decide) rfl ?_
  refine r_aload_n 5 1 C dX12_hflex1_5 rfl ?_
  refine r_aload_n 6 1 C dX12_hflex1_6 rfl ?_
  refine r_get 7 C dX12_hflex1_7 (k := 61) 0 rfl rfl hiX12 (by decide) rfl (mg 2 rfl) (Or.inl rfl) rfl ?_
  refine r_iconst 10 0 C dX12_hflex1_10 (by decide) ?_
  obtain ⟨z1, ez1⟩ : ∃ z_9, fm1 (Int32.toNatClampNeg 0) = z_9 := ⟨_, rfl⟩
  refine r_lald 11 z1 C dX12_hflex1_11 3 rfl (vin (by decide)) ez1 ?_
  have gz1 := fb_rngL z1
  refine r_aload_n 12 1 C dX12_hflex1_12 rfl ?_
  refine r_get 13 C dX12_hflex1_13 (k := 61) 0 rfl rfl hiX12 (by decide) rfl (mg 2 rfl) (Or.inl rfl) rfl ?_
  refine r_iconst 16 1 C dX12_hflex1_16 (by decide) ?_
  obtain ⟨z2, ez2⟩ : ∃ z_9, fm1 (Int32.toNatClampNeg 1) = z_9 := ⟨_, rfl⟩
  refine r_lald 17 z2 C dX12_hflex1_17 3 rfl (vin (by decide)) ez2 ?_
  have gz2 := fb_rngL z2
  refine r_aload_n 18 1 C dX12_hflex1_18 rfl ?_
  refine r_get 19 C dX12_hflex1_19 (k := 61) 0 rfl rfl hiX12 (by decide) rfl (mg 2 rfl) (Or.inl rfl) rfl ?_
  refine r_iconst 22 2 C dX12_hflex1_22 (by decide) ?_
  obtain ⟨z3, ez3⟩ : ∃ z_9, fm1 (Int32.toNatClampNeg 2) = z_9 := ⟨_, rfl⟩
  refine r_lald 23 z3 C dX12_hflex1_23 3 rfl (vin (by decide)) ez3 ?_
  have gz3 := fb_rngL z3
  refine r_aload_n 24 1 C dX12_hflex1_24 rfl ?_
  refine r_get 25 C dX12_hflex1_25 (k := 61) 0 rfl rfl hiX12 (by decide) rfl (mg 2 rfl) (Or.inl rfl) rfl ?_
  refine r_iconst 28 3 C dX12_hflex1_28 (by decide) ?_
  obtain ⟨z4, ez4⟩ : ∃ z_9, fm1 (Int32.toNatClampNeg 3) = z_9 := ⟨_, rfl⟩
  refine r_lald 29 z4 C dX12_hflex1_29 3 rfl (vin (by decide)) ez4 ?_
  have gz4 := fb_rngL z4
  refine r_aload_n 30 1 C dX12_hflex1_30 rfl ?_
  refine r_get 31 C dX12_hflex1_31 (k := 61) 0 rfl rfl hiX12 (by decide) rfl (mg 2 rfl) (Or.inl rfl) rfl ?_
  refine r_iconst 34 4 C dX12_hflex1_34 (by decide) ?_
  obtain ⟨z5, ez5⟩ : ∃ z_9, fm1 (Int32.toNatClampNeg 4) = z_9 := ⟨_, rfl⟩
  refine r_lald 35 z5 C dX12_hflex1_35 3 rfl (vin (by decide)) ez5 ?_
  have gz5 := fb_rngL z5
  refine r_lconst 36 0 C dX12_hflex1_36 (by decide) ?_
  refine r_callVi 37 C dX12_hflex1_37 [] [(h0, .inr (11, [.ref h4, .int x0, .ref h5, .int x1, .int x2, .int x3, .ref h6, .ref h7, .ref h8, .ref h9, .int x4, .int x5, .int x6, .ref h10, .ref h11, .ref h12, .ref h13, .int x7, .int x8, .int x9, .long y0, .int x10, .int x11, .long y1, .long y2, .ref h14, .ref h15, .ref h16, .ref h17, .long y3, .int x12, .ref h18, .int x13, .int x14, .int x15, .int x16, .ref h19, .ref h20, .ref h21, .ref h22, .ref h23, .ref h24, .ref h25, .ref h26, .ref h27, .ref h28, .ref h29, .int x17, .int x18, .int x19, .int x20, .int x21, .int x22, .int x23, .long y4, .int x24, .ref h1, .ref h2, .long y5, .long y6, .int x25, .ref h3, .int x26, .ref h30, .ref h31, .ref h32, .ref h33, .int x27, .int x28, .int x29, .int x30, .ref h34, .ref h35, .int x31, .int x32, .ref h36])), (h1, .inl (gI g, 400, .inl fn0)), (h2, .inl (gJ g, 2400, .inr (.inl fm0)))] [(h3, .inl (gJ g, 48, .inr (.inl fm1)))] (fun sz => c114_X12_curve l g h0 h1 h2 z1 z2 z3 z4 z5 0 h4 x0 h5 x1 x2 x3 h6 h7 h8 h9 x4 x5 x6 h10 h11 h12 h13 x7 x8 x9 y0 x10 x11 y1 y2 h14 h15 h16 h17 y3 x12 h18 x13 x14 x15 x16 h19 h20 h21 h22 h23 h24 h25 h26 h27 h28 h29 x17 x18 x19 x20 x21 x22 x23 y4 x24 y5 y6 x25 h3 x26 h30 h31 h32 h33 x27 x28 x29 x30 h34 h35 x31 x32 h36 fn0 fm0 i_x0 i_x1 i_x3 i_x6 i_x7 i_x10 i_x11 i_y1 i_y2 i_x12 i_x13 i_x14 i_x15 i_x16 i_x18 i_x19 i_x20 i_x21 i_x22 i_x24 i_x25 i_x26 i_x27 i_x28 i_x29 i_x30 i_x31 i_x32 (by show ((Int32.toInt x20) ≤ (Int32.toInt x21)); first | assumption | omega) sz) gX12_hflex1_X12_curve rfl ⟨rfl, rfl⟩ 6 (by decide) ⟨Nat.le_of_ble_eq_true rfl, Nat.le_of_ble_eq_true rfl⟩ 0 rfl rfl [0, 1, 2] [3] rfl rfl (by decide) (by decide) (by decide) rfl rfl (Nat.le_of_ble_eq_true rfl) ⟨Nat.le_of_ble_eq_true rfl, Nat.le_of_ble_eq_true rfl⟩ (fun r13 u15 w14 => ?_)
  obtain ⟨z6, z7, z8, z9, z10, f11, f12⟩ := u15
  refine r_ws [(h3, .inl (gJ g, 48, .inr (.inl fm1))), (h0, .inr (11, [.ref h4, .int x0, .ref h5, .int x1, .int x2, .int x3, .ref h6, .ref h7, .ref h8, .ref h9, .int x4, .int x5, .int x6, .ref h10, .ref h11, .ref h12, .ref h13, .int x7, .int x8, .int x9, .long y0, .int x10, .int x11, .long y1, .long y2, .ref h14, .ref h15, .ref h16, .ref h17, .long y3, .int x12, .ref h18, .int x13, .int x14, .int x15, .int x16, .ref h19, .ref h20, .ref h21, .ref h22, .ref h23, .ref h24, .ref h25, .ref h26, .ref h27, .ref h28, .ref h29, .int x17, .int x18, .int z6, .int z7, .int x21, .int x22, .int x23, .long y4, .int x24, .ref h1, .ref h2, .long z8, .long z9, .int z10, .ref h3, .int x26, .ref h30, .ref h31, .ref h32, .ref h33, .int x27, .int x28, .int x29, .int x30, .ref h34, .ref h35, .int x31, .int x32, .ref h36])), (h1, .inl (gI g, 400, .inl f11)), (h2, .inl (gJ g, 2400, .inr (.inl f12)))] rfl ?_
  have gz8 := fb_rngL z8
  have gz9 := fb_rngL z9
  have p16 : 0 ≤ (Int32.toInt r13) := w14.1
  have p17 : (Int32.toInt r13) ≤ 1 := w14.2.1
  have p18 : 0 ≤ (Int32.toInt z6) := w14.2.2.1
  have p19 : (Int32.toInt z6) ≤ 9 := w14.2.2.2.1
  have p20 : 0 ≤ (Int32.toInt z7) := w14.2.2.2.2.1
  have p21 : (Int32.toInt z7) ≤ 400 := w14.2.2.2.2.2.1
  have p22 : 0 ≤ (Int32.toInt z10) := w14.2.2.2.2.2.2.1
  have p23 : (Int32.toInt z10) ≤ 1 := w14.2.2.2.2.2.2.2.1
  have p24 : ((Int32.toInt z7) ≤ (Int32.toInt x21)) := w14.2.2.2.2.2.2.2.2.1
  have p25 : (((Int32.toInt r13) = 0 ∧ 1 ≤ (Int32.toInt z6)) ∨ ((Int32.toInt r13) = 1 ∧ (Int32.toInt z6) = (Int32.toInt x19))) := w14.2.2.2.2.2.2.2.2.2
  rcases p25 with ⟨k26, k27⟩ | p25
  · skip
    refine r_if_ne_f 40 45 C dX12_hflex1_40 (by decide) ((fa_eq r13 0).mpr (by show (Int32.toInt r13) = 0; omega)) ?_
    refine r_iconst 43 0 C dX12_hflex1_43 (by decide) ?_
    exact r_zret 44 Rt dX12_hflex1_44 (by decide) (z6, z7, z8, z9, z10, f11, f12) (show 0 ≤ (Int32.toInt 0) ∧ (Int32.toInt 0) ≤ 1 ∧ 0 ≤ (Int32.toInt z6) ∧ (Int32.toInt z6) ≤ 9 ∧ 0 ≤ (Int32.toInt z7) ∧ (Int32.toInt z7) ≤ 400 ∧ 0 ≤ (Int32.toInt z10) ∧ (Int32.toInt z10) ≤ 1 ∧ ((Int32.toInt z7) ≤ (Int32.toInt x21)) ∧ ((0 = 0 ∧ 1 ≤ (Int32.toInt z6)) ∨ (0 = 1 ∧ (Int32.toInt z6) = (Int32.toInt x19))) from ⟨(by decide), (by decide), (show _ ∧ _ from ⟨p18, p19⟩).1, (show _ ∧ _ from ⟨p18, p19⟩).2, (show _ ∧ _ from ⟨p20, p21⟩).1, (show _ ∧ _ from ⟨p20, p21⟩).2, (show _ ∧ _ from ⟨p22, p23⟩).1, (show _ ∧ _ from ⟨p22, p23⟩).2, (by first | omega | ((repeat' apply And.intro) <;> first | trivial | rfl | assumption | omega | decide | exact Or.inl rfl | exact Or.inr (Or.inl rfl) | exact Or.inr (Or.inr rfl) | exact Or.inr (Or.inr (by assumption)))), (by first | omega | ((repeat' apply And.intro) <;> first | trivial | rfl | assumption | omega | decide | exact Or.inl rfl | exact Or.inr (Or.inl rfl) | exact Or.inr (Or.inr rfl) | exact Or.inr (Or.inr (by assumption))))⟩) [1, 2, 3, 0] (by decide) rfl (Nat.le_of_ble_eq_true rfl) (Nat.le_of_ble_eq_true rfl)
  obtain ⟨k28, k29⟩ := p25
  refine r_if_ne_t 40 45 C dX12_hflex1_40 (by decide) (fun h_9 => by have h_8 : (Int32.toInt r13) = 0 := (fa_eq r13 0).mp h_9; omega) ?_
  refine r_aload_n 45 1 C dX12_hflex1_45 rfl ?_
  refine r_aload_n 46 1 C dX12_hflex1_46 rfl ?_
  refine r_get 47 C dX12_hflex1_47 (k := 61) 1 rfl rfl hiX12 (by decide) rfl (mg 2 rfl) (Or.inl rfl) rfl ?_
  refine r_iconst 50 5 C dX12_hflex1_50 (by decide) ?_
  obtain ⟨z30, ez30⟩ : ∃ z_9, fm1 (Int32.toNatClampNeg 5) = z_9 := ⟨_, rfl⟩
  refine r_lald 51 z30 C dX12_hflex1_51 0 rfl (vin (by decide)) ez30 ?_
  have gz30 := fb_rngL z30
  refine r_lconst 52 0 C dX12_hflex1_52 (by decide) ?_
  refine r_aload_n 53 1 C dX12_hflex1_53 rfl ?_
  refine r_get 54 C dX12_hflex1_54 (k := 61) 1 rfl rfl hiX12 (by decide) rfl (mg 2 rfl) (Or.inl rfl) rfl ?_
  refine r_bipush 57 6 C dX12_hflex1_57 (by decide) ?_
  obtain ⟨z31, ez31⟩ : ∃ z_9, fm1 (Int32.toNatClampNeg 6) = z_9 := ⟨_, rfl⟩
  refine r_lald 59 z31 C dX12_hflex1_59 0 rfl (vin (by decide)) ez31 ?_
  have gz31 := fb_rngL z31
  refine r_aload_n 60 1 C dX12_hflex1_60 rfl ?_
  refine r_get 61 C dX12_hflex1_61 (k := 61) 1 rfl rfl hiX12 (by decide) rfl (mg 2 rfl) (Or.inl rfl) rfl ?_
  refine r_bipush 64 7 C dX12_hflex1_64 (by decide) ?_
  obtain ⟨z32, ez32⟩ : ∃ z_9, fm1 (Int32.toNatClampNeg 7) = z_9 := ⟨_, rfl⟩
  refine r_lald 66 z32 C dX12_hflex1_66 0 rfl (vin (by decide)) ez32 ?_
  have gz32 := fb_rngL z32
  refine r_aload_n 67 1 C dX12_hflex1_67 rfl ?_
  refine r_get 68 C dX12_hflex1_68 (k := 61) 1 rfl rfl hiX12 (by decide) rfl (mg 2 rfl) (Or.inl rfl) rfl ?_
  refine r_bipush 71 8 C dX12_hflex1_71 (by decide) ?_
  obtain ⟨z33, ez33⟩ : ∃ z_9, fm1 (Int32.toNatClampNeg 8) = z_9 := ⟨_, rfl⟩
  refine r_lald 73 z33 C dX12_hflex1_73 0 rfl (vin (by decide)) ez33 ?_
  have gz33 := fb_rngL z33
  refine r_lload_n 74 0 C dX12_hflex1_74 rfl ?_
  refine r_aload_n 75 1 C dX12_hflex1_75 rfl ?_
  refine r_get 76 C dX12_hflex1_76 (k := 59) 1 rfl rfl hiX12 (by decide) rfl (mg 1 rfl) (Or.inl rfl) rfl ?_
  refine r_aload_n 79 1 C dX12_hflex1_79 rfl ?_
  refine r_get 80 C dX12_hflex1_80 (k := 61) 1 rfl rfl hiX12 (by decide) rfl (mg 2 rfl) (Or.inl rfl) rfl ?_
  refine r_bipush 83 7 C dX12_hflex1_83 (by decide) ?_
  refine r_lald 85 z32 C dX12_hflex1_85 0 rfl (vin (by decide)) ez32 ?_
  obtain ⟨z34, ez34⟩ : ∃ z_9, z9 + z32 = z_9 := ⟨_, rfl⟩
  have gz34 := fb_rngL z34
  refine r_ladd 86 z34 C dX12_hflex1_86 ez34 ?_
  obtain ⟨z35, ez35⟩ : ∃ z_9, y6 - z34 = z_9 := ⟨_, rfl⟩
  have gz35 := fb_rngL z35
  refine r_lsub 87 z35 C dX12_hflex1_87 ez35 ?_
  refine r_callVi 88 C dX12_hflex1_88 [] [(h0, .inr (11, [.ref h4, .int x0, .ref h5, .int x1, .int x2, .int x3, .ref h6, .ref h7, .ref h8, .ref h9, .int x4, .int x5, .int x6, .ref h10, .ref h11, .ref h12, .ref h13, .int x7, .int x8, .int x9, .long y0, .int x10, .int x11, .long y1, .long y2, .ref h14, .ref h15, .ref h16, .ref h17, .long y3, .int x12, .ref h18, .int x13, .int x14, .int x15, .int x16, .ref h19, .ref h20, .ref h21, .ref h22, .ref h23, .ref h24, .ref h25, .ref h26, .ref h27, .ref h28, .ref h29, .int x17, .int x18, .int z6, .int z7, .int x21, .int x22, .int x23, .long y4, .int x24, .ref h1, .ref h2, .long z8, .long z9, .int z10, .ref h3, .int x26, .ref h30, .ref h31, .ref h32, .ref h33, .int x27, .int x28, .int x29, .int x30, .ref h34, .ref h35, .int x31, .int x32, .ref h36])), (h1, .inl (gI g, 400, .inl f11)), (h2, .inl (gJ g, 2400, .inr (.inl f12)))] [(h3, .inl (gJ g, 48, .inr (.inl fm1)))] (fun sz => c114_X12_curve l g h0 h1 h2 z30 0 z31 z32 z33 z35 h4 x0 h5 x1 x2 x3 h6 h7 h8 h9 x4 x5 x6 h10 h11 h12 h13 x7 x8 x9 y0 x10 x11 y1 y2 h14 h15 h16 h17 y3 x12 h18 x13 x14 x15 x16 h19 h20 h21 h22 h23 h24 h25 h26 h27 h28 h29 x17 x18 z6 z7 x21 x22 x23 y4 x24 z8 z9 z10 h3 x26 h30 h31 h32 h33 x27 x28 x29 x30 h34 h35 x31 x32 h36 f11 f12 i_x0 i_x1 i_x3 i_x6 i_x7 i_x10 i_x11 i_y1 i_y2 i_x12 i_x13 i_x14 i_x15 i_x16 i_x18 ⟨p18, p19⟩ ⟨p20, p21⟩ i_x21 i_x22 i_x24 ⟨p22, p23⟩ i_x26 i_x27 i_x28 i_x29 i_x30 i_x31 i_x32 (by show ((Int32.toInt z7) ≤ (Int32.toInt x21)); first | assumption | omega) sz) gX12_hflex1_X12_curve rfl ⟨rfl, rfl⟩ 6 (by decide) ⟨Nat.le_of_ble_eq_true rfl, Nat.le_of_ble_eq_true rfl⟩ 1 rfl rfl [1, 2, 3] [0] rfl rfl (by decide) (by decide) (by decide) rfl rfl (Nat.le_of_ble_eq_true rfl) ⟨Nat.le_of_ble_eq_true rfl, Nat.le_of_ble_eq_true rfl⟩ (fun r43 u45 w44 => ?_)
  obtain ⟨z36, z37, z38, z39, z40, f41, f42⟩ := u45
  refine r_ws [(h3, .inl (gJ g, 48, .inr (.inl fm1))), (h0, .inr (11, [.ref h4, .int x0, .ref h5, .int x1, .int x2, .int x3, .ref h6, .ref h7, .ref h8, .ref h9, .int x4, .int x5, .int x6, .ref h10, .ref h11, .ref h12, .ref h13, .int x7, .int x8, .int x9, .long y0, .int x10, .int x11, .long y1, .long y2, .ref h14, .ref h15, .ref h16, .ref h17, .long y3, .int x12, .ref h18, .int x13, .int x14, .int x15, .int x16, .ref h19, .ref h20, .ref h21, .ref h22, .ref h23, .ref h24, .ref h25, .ref h26, .ref h27, .ref h28, .ref h29, .int x17, .int x18, .int z36, .int z37, .int x21, .int x22, .int x23, .long y4, .int x24, .ref h1, .ref h2, .long z38, .long z39, .int z40, .ref h3, .int x26, .ref h30, .ref h31, .ref h32, .ref h33, .int x27, .int x28, .int x29, .int x30, .ref h34, .ref h35, .int x31, .int x32, .ref h36])), (h1, .inl (gI g, 400, .inl f41)), (h2, .inl (gJ g, 2400, .inr (.inl f42)))] rfl ?_
  have gz38 := fb_rngL z38
  have gz39 := fb_rngL z39
  have p46 : 0 ≤ (Int32.toInt r43) := w44.1
  have p47 : (Int32.toInt r43) ≤ 1 := w44.2.1
  have p48 : 0 ≤ (Int32.toInt z36) := w44.2.2.1
  have p49 : (Int32.toInt z36) ≤ 9 := w44.2.2.2.1
  have p50 : 0 ≤ (Int32.toInt z37) := w44.2.2.2.2.1
  have p51 : (Int32.toInt z37) ≤ 400 := w44.2.2.2.2.2.1
  have p52 : 0 ≤ (Int32.toInt z40) := w44.2.2.2.2.2.2.1
  have p53 : (Int32.toInt z40) ≤ 1 := w44.2.2.2.2.2.2.2.1
  have p54 : ((Int32.toInt z37) ≤ (Int32.toInt x21)) := w44.2.2.2.2.2.2.2.2.1
  have p55 : (((Int32.toInt r43) = 0 ∧ 1 ≤ (Int32.toInt z36)) ∨ ((Int32.toInt r43) = 1 ∧ (Int32.toInt z36) = (Int32.toInt z6))) := w44.2.2.2.2.2.2.2.2.2
  rcases p55 with ⟨k56, k57⟩ | p55
  · skip
    exact r_zret 91 Rt dX12_hflex1_91 (nz_n (by omega) (by omega)) (z36, z37, z38, z39, z40, f41, f42) (show 0 ≤ (Int32.toInt r43) ∧ (Int32.toInt r43) ≤ 1 ∧ 0 ≤ (Int32.toInt z36) ∧ (Int32.toInt z36) ≤ 9 ∧ 0 ≤ (Int32.toInt z37) ∧ (Int32.toInt z37) ≤ 400 ∧ 0 ≤ (Int32.toInt z40) ∧ (Int32.toInt z40) ≤ 1 ∧ ((Int32.toInt z37) ≤ (Int32.toInt x21)) ∧ (((Int32.toInt r43) = 0 ∧ 1 ≤ (Int32.toInt z36)) ∨ ((Int32.toInt r43) = 1 ∧ (Int32.toInt z36) = (Int32.toInt x19))) from ⟨(show _ ∧ _ from ⟨p46, p47⟩).1, (show _ ∧ _ from ⟨p46, p47⟩).2, (show _ ∧ _ from ⟨p48, p49⟩).1, (show _ ∧ _ from ⟨p48, p49⟩).2, (show _ ∧ _ from ⟨p50, p51⟩).1, (show _ ∧ _ from ⟨p50, p51⟩).2, (show _ ∧ _ from ⟨p52, p53⟩).1, (show _ ∧ _ from ⟨p52, p53⟩).2, (by first | omega | ((repeat' apply And.intro) <;> first | trivial | rfl | assumption | omega | decide | exact Or.inl rfl | exact Or.inr (Or.inl rfl) | exact Or.inr (Or.inr rfl) | exact Or.inr (Or.inr (by assumption)))), (by first | omega | ((repeat' apply And.intro) <;> first | trivial | rfl | assumption | omega | decide | exact Or.inl rfl | exact Or.inr (Or.inl rfl) | exact Or.inr (Or.inr rfl) | exact Or.inr (Or.inr (by assumption))))⟩) [1, 2, 3, 0] (by decide) rfl (Nat.le_of_ble_eq_true rfl) (Nat.le_of_ble_eq_true rfl)
  obtain ⟨k58, k59⟩ := p55
  exact r_zret 91 Rt dX12_hflex1_91 (nz_n (by omega) (by omega)) (z36, z37, z38, z39, z40, f41, f42) (show 0 ≤ (Int32.toInt r43) ∧ (Int32.toInt r43) ≤ 1 ∧ 0 ≤ (Int32.toInt z36) ∧ (Int32.toInt z36) ≤ 9 ∧ 0 ≤ (Int32.toInt z37) ∧ (Int32.toInt z37) ≤ 400 ∧ 0 ≤ (Int32.toInt z40) ∧ (Int32.toInt z40) ≤ 1 ∧ ((Int32.toInt z37) ≤ (Int32.toInt x21)) ∧ (((Int32.toInt r43) = 0 ∧ 1 ≤ (Int32.toInt z36)) ∨ ((Int32.toInt r43) = 1 ∧ (Int32.toInt z36) = (Int32.toInt x19))) from ⟨(show _ ∧ _ from ⟨p46, p47⟩).1, (show _ ∧ _ from ⟨p46, p47⟩).2, (show _ ∧ _ from ⟨p48, p49⟩).1, (show _ ∧ _ from ⟨p48, p49⟩).2, (show _ ∧ _ from ⟨p50, p51⟩).1, (show _ ∧ _ from ⟨p50, p51⟩).2, (show _ ∧ _ from ⟨p52, p53⟩).1, (show _ ∧ _ from ⟨p52, p53⟩).2, (by first | omega | ((repeat' apply And.intro) <;> first | trivial | rfl | assumption | omega | decide | exact Or.inl rfl | exact Or.inr (Or.inl rfl) | exact Or.inr (Or.inr rfl) | exact Or.inr (Or.inr (by assumption)))), (by first | omega | ((repeat' apply And.intro) <;> first | trivial | rfl | assumption | omega | decide | exact Or.inl rfl | exact Or.inr (Or.inl rfl) | exact Or.inr (Or.inr rfl) | exact Or.inr (Or.inr (by assumption))))⟩) [1, 2, 3, 0] (by decide) rfl (Nat.le_of_ble_eq_true rfl) (Nat.le_of_ble_eq_true rfl)
set_option maxHeartbeats 4000000 in
set_option maxRecDepth 100000 in
theorem c121_X12_flex1 (l : Launch) (g : GD) (h0 : Nat) (h1 : Nat) (h2 : Nat) (h3 : Nat) (h4 : Nat) (x0 : Int32) (h5 : Nat) (x1 : Int32) (x2 : Int32) (x3 : Int32) (h6 : Nat) (h7 : Nat) (h8 : Nat) (h9 : Nat) (x4 : Int32) (x5 : Int32) (x6 : Int32) (h10 : Nat) (h11 : Nat) (h12 : Nat) (h13 : Nat) (x7 : Int32) (x8 : Int32) (x9 : Int32) (y0 : Int64) (x10 : Int32) (x11 : Int32) (y1 : Int64) (y2 : Int64) (h14 : Nat) (h15 : Nat) (h16 : Nat) (h17 : Nat) (y3 : Int64) (x12 : Int32) (h18 : Nat) (x13 : Int32) (x14 : Int32) (x15 : Int32) (x16 : Int32) (h19 : Nat) (h20 : Nat) (h21 : Nat) (h22 : Nat) (h23 : Nat) (h24 : Nat) (h25 : Nat) (h26 : Nat) (h27 : Nat) (h28 : Nat) (h29 : Nat) (x17 : Int32) (x18 : Int32) (x19 : Int32) (x20 : Int32) (x21 : Int32) (x22 : Int32) (x23 : Int32) (y4 : Int64) (x24 : Int32) (y5 : Int64) (y6 : Int64) (x25 : Int32) (x26 : Int32) (h30 : Nat) (h31 : Nat) (h32 : Nat) (h33 : Nat) (x27 : Int32) (x28 : Int32) (x29 : Int32) (x30 : Int32) (h34 : Nat) (h35 : Nat) (x31 : Int32) (x32 : Int32) (h36 : Nat) (fn0 : Nat → Int32) (fm0 : Nat → Int64) (fm1 : Nat → Int64) (i_x0 : (0 ≤ (Int32.toInt x0) ∧ (Int32.toInt x0) ≤ 1500)) (i_x1 : (0 ≤ (Int32.toInt x1) ∧ (Int32.toInt x1) ≤ 1508)) (i_x3 : (0 ≤ (Int32.toInt x3) ∧ (Int32.toInt x3) ≤ 0)) (i_x6 : (0 ≤ (Int32.toInt x6) ∧ (Int32.toInt x6) ≤ 3)) (i_x7 : (0 ≤ (Int32.toInt x7) ∧ (Int32.toInt x7) ≤ 4500)) (i_x10 : (0 ≤ (Int32.toInt x10) ∧ (Int32.toInt x10) ≤ 65535)) (i_x11 : (0 ≤ (Int32.toInt x11) ∧ (Int32.toInt x11) ≤ 255)) (i_y1 : (0 ≤ (Int64.toInt y1) ∧ (Int64.toInt y1) ≤ 1500)) (i_y2 : (0 ≤ (Int64.toInt y2) ∧ (Int64.toInt y2) ≤ 1500)) (i_x12 : (0 ≤ (Int32.toInt x12) ∧ (Int32.toInt x12) ≤ 1)) (i_x13 : (0 ≤ (Int32.toInt x13) ∧ (Int32.toInt x13) ≤ 1500)) (i_x14 : (0 ≤ (Int32.toInt x14) ∧ (Int32.toInt x14) ≤ 1501)) (i_x15 : (0 ≤ (Int32.toInt x15) ∧ (Int32.toInt x15) ≤ 1500)) (i_x16 : (0 ≤ (Int32.toInt x16) ∧ (Int32.toInt x16) ≤ 1500)) (i_x18 : (0 ≤ (Int32.toInt x18) ∧ (Int32.toInt x18) ≤ 1)) (i_x19 : (0 ≤ (Int32.toInt x19) ∧ (Int32.toInt x19) ≤ 9)) (i_x20 : (0 ≤ (Int32.toInt x20) ∧ (Int32.toInt x20) ≤ 400)) (i_x21 : (0 ≤ (Int32.toInt x21) ∧ (Int32.toInt x21) ≤ 400)) (i_x22 : (0 ≤ (Int32.toInt x22) ∧ (Int32.toInt x22) ≤ 3000)) (i_x24 : (0 ≤ (Int32.toInt x24) ∧ (Int32.toInt x24) ≤ 1)) (i_x25 : (0 ≤ (Int32.toInt x25) ∧ (Int32.toInt x25) ≤ 1)) (i_x26 : (0 ≤ (Int32.toInt x26) ∧ (Int32.toInt x26) ≤ 48)) (i_x27 : (0 ≤ (Int32.toInt x27) ∧ (Int32.toInt x27) ≤ 10)) (i_x28 : (0 ≤ (Int32.toInt x28) ∧ (Int32.toInt x28) ≤ 1)) (i_x29 : (0 ≤ (Int32.toInt x29) ∧ (Int32.toInt x29) ≤ 1)) (i_x30 : (0 ≤ (Int32.toInt x30) ∧ (Int32.toInt x30) ≤ 7)) (i_x31 : (0 ≤ (Int32.toInt x31) ∧ (Int32.toInt x31) ≤ 24)) (i_x32 : (0 ≤ (Int32.toInt x32) ∧ (Int32.toInt x32) ≤ 1)) (pre0 : ((Int32.toInt x20) ≤ (Int32.toInt x21))) (sz : Nat) : Met l yX12_flex1 wsX12_flex1 ({ frames := 3, cells := 0, slots := 0, locals := 74 }) (va_Pc [.ref h0] (PW g [(h0, .inr (11, [.ref h4, .int x0, .ref h5, .int x1, .int x2, .int x3, .ref h6, .ref h7, .ref h8, .ref h9, .int x4, .int x5, .int x6, .ref h10, .ref h11, .ref h12, .ref h13, .int x7, .int x8, .int x9, .long y0, .int x10, .int x11, .long y1, .long y2, .ref h14, .ref h15, .ref h16, .ref h17, .long y3, .int x12, .ref h18, .int x13, .int x14, .int x15, .int x16, .ref h19, .ref h20, .ref h21, .ref h22, .ref h23, .ref h24, .ref h25, .ref h26, .ref h27, .ref h28, .ref h29, .int x17, .int x18, .int x19, .int x20, .int x21, .int x22, .int x23, .long y4, .int x24, .ref h1, .ref h2, .long y5, .long y6, .int x25, .ref h3, .int x26, .ref h30, .ref h31, .ref h32, .ref h33, .int x27, .int x28, .int x29, .int x30, .ref h34, .ref h35, .int x31, .int x32, .ref h36])), (h1, .inl (gI g, 400, .inl fn0)), (h2, .inl (gJ g, 2400, .inr (.inl fm0))), (h3, .inl (gJ g, 48, .inr (.inl fm1)))] sz)) (va_Qi (fun (r : Int32) (u : (Int32) × (Int32) × (Int64) × (Int64) × (Int32) × (Nat → Int32) × (Nat → Int64)) => 0 ≤ (Int32.toInt r) ∧ (Int32.toInt r) ≤ 1 ∧ 0 ≤ (Int32.toInt (u.1)) ∧ (Int32.toInt (u.1)) ≤ 9 ∧ 0 ≤ (Int32.toInt (u.2.1)) ∧ (Int32.toInt (u.2.1)) ≤ 400 ∧ 0 ≤ (Int32.toInt (u.2.2.2.2.1)) ∧ (Int32.toInt (u.2.2.2.2.1)) ≤ 1 ∧ ((Int32.toInt (u.2.1)) ≤ (Int32.toInt x21)) ∧ (((Int32.toInt r) = 0 ∧ 1 ≤ (Int32.toInt (u.1))) ∨ ((Int32.toInt r) = 1 ∧ (Int32.toInt (u.1)) = (Int32.toInt x19)))) (BW g (va_A [(h0, .inr (11, [.ref h4, .int x0, .ref h5, .int x1, .int x2, .int x3, .ref h6, .ref h7, .ref h8, .ref h9, .int x4, .int x5, .int x6, .ref h10, .ref h11, .ref h12, .ref h13, .int x7, .int x8, .int x9, .long y0, .int x10, .int x11, .long y1, .long y2, .ref h14, .ref h15, .ref h16, .ref h17, .long y3, .int x12, .ref h18, .int x13, .int x14, .int x15, .int x16, .ref h19, .ref h20, .ref h21, .ref h22, .ref h23, .ref h24, .ref h25, .ref h26, .ref h27, .ref h28, .ref h29, .int x17, .int x18, .int x19, .int x20, .int x21, .int x22, .int x23, .long y4, .int x24, .ref h1, .ref h2, .long y5, .long y6, .int x25, .ref h3, .int x26, .ref h30, .ref h31, .ref h32, .ref h33, .int x27, .int x28, .int x29, .int x30, .ref h34, .ref h35, .int x31, .int x32, .ref h36])), (h1, .inl (gI g, 400, .inl fn0)), (h2, .inl (gJ g, 2400, .inr (.inl fm0))), (h3, .inl (gJ g, 48, .inr (.inl fm1)))] sz) (fun u : (Int32) × (Int32) × (Int64) × (Int64) × (Int32) × (Nat → Int32) × (Nat → Int64) => [(h0, .inr (11, [.ref h4, .int x0, .ref h5, .int x1, .int x2, .int x3, .ref h6, .ref h7, .ref h8, .ref h9, .int x4, .int x5, .int x6, .ref h10, .ref h11, .ref h12, .ref h13, .int x7, .int x8, .int x9, .long y0, .int x10, .int x11, .long y1, .long y2, .ref h14, .ref h15, .ref h16, .ref h17, .long y3, .int x12, .ref h18, .int x13, .int x14, .int x15, .int x16, .ref h19, .ref h20, .ref h21, .ref h22, .ref h23, .ref h24, .ref h25, .ref h26, .ref h27, .ref h28, .ref h29, .int x17, .int x18, .int u.1, .int u.2.1, .int x21, .int x22, .int x23, .long y4, .int x24, .ref h1, .ref h2, .long u.2.2.1, .long u.2.2.2.1, .int u.2.2.2.2.1, .ref h3, .int x26, .ref h30, .ref h31, .ref h32, .ref h33, .int x27, .int x28, .int x29, .int x30, .ref h34, .ref h35, .int x31, .int x32, .ref h36])), (h1, .inl (gI g, 400, .inl u.2.2.2.2.2.1)), (h2, .inl (gJ g, 2400, .inr (.inl u.2.2.2.2.2.2))), (h3, .inl (gJ g, 48, .inr (.inl fm1)))])) (va_A [(h0, .inr (11, [.ref h4, .int x0, .ref h5, .int x1, .int x2, .int x3, .ref h6, .ref h7, .ref h8, .ref h9, .int x4, .int x5, .int x6, .ref h10, .ref h11, .ref h12, .ref h13, .int x7, .int x8, .int x9, .long y0, .int x10, .int x11, .long y1, .long y2, .ref h14, .ref h15, .ref h16, .ref h17, .long y3, .int x12, .ref h18, .int x13, .int x14, .int x15, .int x16, .ref h19, .ref h20, .ref h21, .ref h22, .ref h23, .ref h24, .ref h25, .ref h26, .ref h27, .ref h28, .ref h29, .int x17, .int x18, .int x19, .int x20, .int x21, .int x22, .int x23, .long y4, .int x24, .ref h1, .ref h2, .long y5, .long y6, .int x25, .ref h3, .int x26, .ref h30, .ref h31, .ref h32, .ref h33, .int x27, .int x28, .int x29, .int x30, .ref h34, .ref h35, .int x31, .int x32, .ref h36])), (h1, .inl (gI g, 400, .inl fn0)), (h2, .inl (gJ g, 2400, .inr (.inl fm0))), (h3, .inl (gJ g, 48, .inr (.inl fm1)))] sz)) 0 0 (va_A [(h0, .inr (11, [.ref h4, .int x0, .ref h5, .int x1, .int x2, .int x3, .ref h6, .ref h7, .ref h8, .ref h9, .int x4, .int x5, .int x6, .ref h10, .ref h11, .ref h12, .ref h13, .int x7, .int x8, .int x9, .long y0, .int x10, .int x11, .long y1, .long y2, .ref h14, .ref h15, .ref h16, .ref h17, .long y3, .int x12, .ref h18, .int x13, .int x14, .int x15, .int x16, .ref h19, .ref h20, .ref h21, .ref h22, .ref h23, .ref h24, .ref h25, .ref h26, .ref h27, .ref h28, .ref h29, .int x17, .int x18, .int x19, .int x20, .int x21, .int x22, .int x23, .long y4, .int x24, .ref h1, .ref h2, .long y5, .long y6, .int x25, .ref h3, .int x26, .ref h30, .ref h31, .ref h32, .ref h33, .int x27, .int x28, .int x29, .int x30, .ref h34, .ref h35, .int x31, .int x32, .ref h36])), (h1, .inl (gI g, 400, .inl fn0)), (h2, .inl (gJ g, 2400, .inr (.inl fm0))), (h3, .inl (gJ g, 48, .inr (.inl fm1)))] sz) := by
  refine met_z RX12 (by decide) rfl rfl (Nat.le_of_ble_eq_true rfl) [(0, .ref h0)] rfl ?_
  intro p e s m args below meth c A Q C hnm Rt
  have hiX12 : ∀ w ∈ wsX120, w ∈ wsX12_flex1 := fun w h => List.mem_cons_of_mem _ (List.mem_append_right _ (h))
  refine r_aload_n 0 0 C dX12_flex1_0 rfl ?_
  refine r_get 1 C dX12_flex1_1 (k := 58) 0 rfl rfl hiX12 (by decide) rfl (mg 1 rfl) (Or.inl rfl) rfl ?_
  refine r_lstore_n 4 C dX12_flex1_4 [(1, .long y5), (0, .ref h0)] (by decide) rfl ?_
  refine r_aload_n 5 1 C dX12_flex1_5 rfl ?_
  refine r_get 6 C dX12_flex1_6 (k := 59) 0 rfl rfl hiX12 (by decide) rfl (mg 2 rfl) (Or.inl rfl) rfl ?_
  refine r_lstore_n 9 C dX12_flex1_9 [(3, .long y6), (1, .long y5), (0, .ref h0)] (by decide) rfl ?_
  refine r_lconst 10 0 C dX12_flex1_10 (by decide) ?_
  refine r_lstore 11 C dX12_flex1_11 [(5, .long 0), (3, .long y6), (1, .long y5), (0, .ref h0)] (by decide) rfl ?_
  refine r_lconst 13 0 C dX12_flex1_13 (by decide) ?_
  refine r_lstore 14 C dX12_flex1_14 [(7, .long 0), (5, .long 0), (3, .long y6), (1, .long y5), (0, .ref h0)] (by decide) rfl ?_
  refine r_iconst 16 0 C dX12_flex1_16 (by decide) ?_
  refine r_istore 17 C dX12_flex1_17 [(9, .int 0), (7, .long 0), (5, .long 0), (3, .long y6), (1, .long y5), (0, .ref h0)] (by decide) rfl ?_
  have lp5 : ∀ (n4 : Nat) (z1 : Int32) (z2 : Int64) (z3 : Int64), (0 ≤ (Int32.toInt z1) ∧ (Int32.toInt z1) ≤ 11) → Int.toNat (11 - (Int32.toInt z1)) < n4 → WW p l e ({ frames := 3, cells := 0, slots := 0, locals := 74 } : Room) s m args below meth c A Q g 14 0 0 [(h0, .inr (11, [.ref h4, .int x0, .ref h5, .int x1, .int x2, .int x3, .ref h6, .ref h7, .ref h8, .ref h9, .int x4, .int x5, .int x6, .ref h10, .ref h11, .ref h12, .ref h13, .int x7, .int x8, .int x9, .long y0, .int x10, .int x11, .long y1, .long y2, .ref h14, .ref h15, .ref h16, .ref h17, .long y3, .int x12, .ref h18, .int x13, .int x14, .int x15, .int x16, .ref h19, .ref h20, .ref h21, .ref h22, .ref h23, .ref h24, .ref h25, .ref h26, .ref h27, .ref h28, .ref h29, .int x17, .int x18, .int x19, .int x20, .int x21, .int x22, .int x23, .long y4, .int x24, .ref h1, .ref h2, .long y5, .long y6, .int x25, .ref h3, .int x26, .ref h30, .ref h31, .ref h32, .ref h33, .int x27, .int x28, .int x29, .int x30, .ref h34, .ref h35, .int x31, .int x32, .ref h36])), (h1, .inl (gI g, 400, .inl fn0)), (h2, .inl (gJ g, 2400, .inr (.inl fm0))), (h3, .inl (gJ g, 48, .inr (.inl fm1)))] 19 [(9, .int z1), (7, .long z2), (5, .long z3), (3, .long y6), (1, .long y5), (0, .ref h0)] [] := by
    intro n4
    induction n4 with
    | zero => intro z1 z2 z3 i8 hm7; exact absurd hm7 (Nat.not_lt_zero _)
    | succ n4 ih6 =>
      intro z1 z2 z3 i8 hm7
      obtain ⟨i8a, i8b⟩ := i8
      have gz2 := fb_rngL z2
      have gz3 := fb_rngL z3
      refine r_iload 19 0 C dX12_flex1_19 rfl ?_
      refine r_bipush 21 10 C dX12_flex1_21 (by decide) ?_
      refine r_icmp_ge 23 58 C dX12_flex1_23 (by decide) (fun c9 => ?_) (fun c9 => ?_)
      · skip
        have k10 : 10 ≤ (Int32.toInt z1) := (fa_le 10 z1).mp c9
        refine r_aload_n 58 5 C dX12_flex1_58 rfl ?_
        refine r_aload_n 59 5 C dX12_flex1_59 rfl ?_
        refine r_get 60 C dX12_flex1_60 (k := 61) 0 rfl rfl hiX12 (by decide) rfl (mg 3 rfl) (Or.inl rfl) rfl ?_
        refine r_iconst 63 0 C dX12_flex1_63 (by decide) ?_
        obtain ⟨z11, ez11⟩ : ∃ z_9, fm1 (Int32.toNatClampNeg 0) = z_9 := ⟨_, rfl⟩
        refine r_lald 64 z11 C dX12_flex1_64 3 rfl (vin (by decide)) ez11 ?_
        have gz11 := fb_rngL z11
        refine r_aload_n 65 5 C dX12_flex1_65 rfl ?_
        refine r_get 66 C dX12_flex1_66 (k := 61) 0 rfl rfl hiX12 (by decide) rfl (mg 3 rfl) (Or.inl rfl) rfl ?_
        refine r_iconst 69 1 C dX12_flex1_69 (by decide) ?_
        obtain ⟨z12, ez12⟩ : ∃ z_9, fm1 (Int32.toNatClampNeg 1) = z_9 := ⟨_, rfl⟩
        refine r_lald 70 z12 C dX12_flex1_70 3 rfl (vin (by decide)) ez12 ?_
        have gz12 := fb_rngL z12
        refine r_aload_n 71 5 C dX12_flex1_71 rfl ?_
        refine r_get 72 C dX12_flex1_72 (k := 61) 0 rfl rfl hiX12 (by decide) rfl (mg 3 rfl) (Or.inl rfl) rfl ?_
        refine r_iconst 75 2 C dX12_flex1_75 (by decide) ?_
        obtain ⟨z13, ez13⟩ : ∃ z_9, fm1 (Int32.toNatClampNeg 2) = z_9 := ⟨_, rfl⟩
        refine r_lald 76 z13 C dX12_flex1_76 3 rfl (vin (by decide)) ez13 ?_
        have gz13 := fb_rngL z13
        refine r_aload_n 77 5 C dX12_flex1_77 rfl ?_
        refine r_get 78 C dX12_flex1_78 (k := 61) 0 rfl rfl hiX12 (by decide) rfl (mg 3 rfl) (Or.inl rfl) rfl ?_
        refine r_iconst 81 3 C dX12_flex1_81 (by decide) ?_
        obtain ⟨z14, ez14⟩ : ∃ z_9, fm1 (Int32.toNatClampNeg 3) = z_9 := ⟨_, rfl⟩
        refine r_lald 82 z14 C dX12_flex1_82 3 rfl (vin (by decide)) ez14 ?_
        have gz14 := fb_rngL z14
        refine r_aload_n 83 5 C dX12_flex1_83 rfl ?_
        refine r_get 84 C dX12_flex1_84 (k := 61) 0 rfl rfl hiX12 (by decide) rfl (mg 3 rfl) (Or.inl rfl) rfl ?_
        refine r_iconst 87 4 C dX12_flex1_87 (by decide) ?_
        obtain ⟨z15, ez15⟩ : ∃ z_9, fm1 (Int32.toNatClampNeg 4) = z_9 := ⟨_, rfl⟩
        refine r_lald 88 z15 C dX12_flex1_88 3 rfl (vin (by decide)) ez15 ?_
        have gz15 := fb_rngL z15
        refine r_aload_n 89 5 C dX12_flex1_89 rfl ?_
        refine r_get 90 C dX12_flex1_90 (k := 61) 0 rfl rfl hiX12 (by decide) rfl (mg 3 rfl) (Or.inl rfl) rfl ?_
        refine r_iconst 93 5 C dX12_flex1_93 (by decide) ?_
        obtain ⟨z16, ez16⟩ : ∃ z_9, fm1 (Int32.toNatClampNeg 5) = z_9 := ⟨_, rfl⟩
        refine r_lald 94 z16 C dX12_flex1_94 3 rfl (vin (by decide)) ez16 ?_
        have gz16 := fb_rngL z16
        refine r_callVi 95 C dX12_flex1_95 [] [(h0, .inr (11, [.ref h4, .int x0, .ref h5, .int x1, .int x2, .int x3, .ref h6, .ref h7, .ref h8, .ref h9, .int x4, .int x5, .int x6, .ref h10, .ref h11, .ref h12, .ref h13, .int x7, .int x8, .int x9, .long y0, .int x10, .int x11, .long y1, .long y2, .ref h14, .ref h15, .ref h16, .ref h17, .long y3, .int x12, .ref h18, .int x13, .int x14, .int x15, .int x16, .ref h19, .ref h20, .ref h21, .ref h22, .ref h23, .ref h24, .ref h25, .ref h26, .ref h27, .ref h28, .ref h29, .int x17, .int x18, .int x19, .int x20, .int x21, .int x22, .int x23, .long y4, .int x24, .ref h1, .ref h2, .long y5, .long y6, .int x25, .ref h3, .int x26, .ref h30, .ref h31, .ref h32, .ref h33, .int x27, .int x28, .int x29, .int x30, .ref h34, .ref h35, .int x31, .int x32, .ref h36])), (h1, .inl (gI g, 400, .inl fn0)), (h2, .inl (gJ g, 2400, .inr (.inl fm0)))] [(h3, .inl (gJ g, 48, .inr (.inl fm1)))] (fun sz => c114_X12_curve l g h0 h1 h2 z11 z12 z13 z14 z15 z16 h4 x0 h5 x1 x2 x3 h6 h7 h8 h9 x4 x5 x6 h10 h11 h12 h13 x7 x8 x9 y0 x10 x11 y1 y2 h14 h15 h16 h17 y3 x12 h18 x13 x14 x15 x16 h19 h20 h21 h22 h23 h24 h25 h26 h27 h28 h29 x17 x18 x19 x20 x21 x22 x23 y4 x24 y5 y6 x25 h3 x26 h30 h31 h32 h33 x27 x28 x29 x30 h34 h35 x31 x32 h36 fn0 fm0 i_x0 i_x1 i_x3 i_x6 i_x7 i_x10 i_x11 i_y1 i_y2 i_x12 i_x13 i_x14 i_x15 i_x16 i_x18 i_x19 i_x20 i_x21 i_x22 i_x24 i_x25 i_x26 i_x27 i_x28 i_x29 i_x30 i_x31 i_x32 (by show ((Int32.toInt x20) ≤ (Int32.toInt x21)); first | assumption | omega) sz) gX12_flex1_X12_curve rfl ⟨rfl, rfl⟩ 6 (by decide) ⟨Nat.le_of_ble_eq_true rfl, Nat.le_of_ble_eq_true rfl⟩ 0 rfl rfl [0, 1, 2] [3] rfl rfl (by decide) (by decide) (by decide) rfl rfl (Nat.le_of_ble_eq_true rfl) ⟨Nat.le_of_ble_eq_true rfl, Nat.le_of_ble_eq_true rfl⟩ (fun r24 u26 w25 => ?_)
        obtain ⟨z17, z18, z19, z20, z21, f22, f23⟩ := u26
        refine r_ws [(h3, .inl (gJ g, 48, .inr (.inl fm1))), (h0, .inr (11, [.ref h4, .int x0, .ref h5, .int x1, .int x2, .int x3, .ref h6, .ref h7, .ref h8, .ref h9, .int x4, .int x5, .int x6, .ref h10, .ref h11, .ref h12, .ref h13, .int x7, .int x8, .int x9, .long y0, .int x10, .int x11, .long y1, .long y2, .ref h14, .ref h15, .ref h16, .ref h17, .long y3, .int x12, .ref h18, .int x13, .int x14, .int x15, .int x16, .ref h19, .ref h20, .ref h21, .ref h22, .ref h23, .ref h24, .ref h25, .ref h26, .ref h27, .ref h28, .ref h29, .int x17, .int x18, .int z17, .int z18, .int x21, .int x22, .int x23, .long y4, .int x24, .ref h1, .ref h2, .long z19, .long z20, .int z21, .ref h3, .int x26, .ref h30, .ref h31, .ref h32, .ref h33, .int x27, .int x28, .int x29, .int x30, .ref h34, .ref h35, .int x31, .int x32, .ref h36])), (h1, .inl (gI g, 400, .inl f22)), (h2, .inl (gJ g, 2400, .inr (.inl f23)))] rfl ?_
        have gz19 := fb_rngL z19
        have gz20 := fb_rngL z20
        have p27 : 0 ≤ (Int32.toInt r24) := w25.1
        have p28 : (Int32.toInt r24) ≤ 1 := w25.2.1
        have p29 : 0 ≤ (Int32.toInt z17) := w25.2.2.1
        have p30 : (Int32.toInt z17) ≤ 9 := w25.2.2.2.1
        have p31 : 0 ≤ (Int32.toInt z18) := w25.2.2.2.2.1
        have p32 : (Int32.toInt z18) ≤ 400 := w25.2.2.2.2.2.1
        have p33 : 0 ≤ (Int32.toInt z21) := w25.2.2.2.2.2.2.1
        have p34 : (Int32.toInt z21) ≤ 1 := w25.2.2.2.2.2.2.2.1
        have p35 : ((Int32.toInt z18) ≤ (Int32.toInt x21)) := w25.2.2.2.2.2.2.2.2.1
        have p36 : (((Int32.toInt r24) = 0 ∧ 1 ≤ (Int32.toInt z17)) ∨ ((Int32.toInt r24) = 1 ∧ (Int32.toInt z17) = (Int32.toInt x19))) := w25.2.2.2.2.2.2.2.2.2
        rcases p36 with ⟨k37, k38⟩ | p36
        · skip
          refine r_if_ne_f 98 103 C dX12_flex1_98 (by decide) ((fa_eq r24 0).mpr (by show (Int32.toInt r24) = 0; omega)) ?_
          refine r_iconst 101 0 C dX12_flex1_101 (by decide) ?_
          exact r_zret 102 Rt dX12_flex1_102 (by decide) (z17, z18, z19, z20, z21, f22, f23) (show 0 ≤ (Int32.toInt 0) ∧ (Int32.toInt 0) ≤ 1 ∧ 0 ≤ (Int32.toInt z17) ∧ (Int32.toInt z17) ≤ 9 ∧ 0 ≤ (Int32.toInt z18) ∧ (Int32.toInt z18) ≤ 400 ∧ 0 ≤ (Int32.toInt z21) ∧ (Int32.toInt z21) ≤ 1 ∧ ((Int32.toInt z18) ≤ (Int32.toInt x21)) ∧ ((0 = 0 ∧ 1 ≤ (Int32.toInt z17)) ∨ (0 = 1 ∧ (Int32.toInt z17) = (Int32.toInt x19))) from ⟨(by decide), (by decide), (show _ ∧ _ from ⟨p29, p30⟩).1, (show _ ∧ _ from ⟨p29, p30⟩).2, (show _ ∧ _ from ⟨p31, p32⟩).1, (show _ ∧ _ from ⟨p31, p32⟩).2, (show _ ∧ _ from ⟨p33, p34⟩).1, (show _ ∧ _ from ⟨p33, p34⟩).2, (by first | omega | ((repeat' apply And.intro) <;> first | trivial | rfl | assumption | omega | decide | exact Or.inl rfl | exact Or.inr (Or.inl rfl) | exact Or.inr (Or.inr rfl) | exact Or.inr (Or.inr (by assumption)))), (by first | omega | ((repeat' apply And.intro) <;> first | trivial | rfl | assumption | omega | decide | exact Or.inl rfl | exact Or.inr (Or.inl rfl) | exact Or.inr (Or.inr rfl) | exact Or.inr (Or.inr (by assumption))))⟩) [1, 2, 3, 0] (by decide) rfl (Nat.le_of_ble_eq_true rfl) (Nat.le_of_ble_eq_true rfl)
        obtain ⟨k39, k40⟩ := p36
        refine r_if_ne_t 98 103 C dX12_flex1_98 (by decide) (fun h_9 => by have h_8 : (Int32.toInt r24) = 0 := (fa_eq r24 0).mp h_9; omega) ?_
        refine r_lload 103 2 C dX12_flex1_103 rfl ?_
        refine r_lconst 105 0 C dX12_flex1_105 (by decide) ?_
        obtain ⟨z41, ez41⟩ : ∃ z_9, lg_cmp z3 0 = z_9 := ⟨_, rfl⟩
        have l1z41 : (Int32.toInt z41) < 0 ↔ (Int64.toInt z3) < 0 := by rw [← ez41]; exact lgI1 z3 0
        have l2z41 : 0 < (Int32.toInt z41) ↔ 0 < (Int64.toInt z3) := by rw [← ez41]; exact lgI2 z3 0
        refine r_lcmp 106 z41 C dX12_flex1_106 ez41 ?_
        refine r_if_ge 107 116 C dX12_flex1_107 (by decide) (fun c42 => ?_) (fun c42 => ?_)
        · skip
          have k43 : 0 ≤ (Int32.toInt z41) := (fa_le 0 z41).mp c42
          refine r_lload 116 2 C dX12_flex1_116 rfl ?_
          refine r_lload 118 1 C dX12_flex1_118 rfl ?_
          refine r_lconst 120 0 C dX12_flex1_120 (by decide) ?_
          obtain ⟨z44, ez44⟩ : ∃ z_9, lg_cmp z2 0 = z_9 := ⟨_, rfl⟩
          have l1z44 : (Int32.toInt z44) < 0 ↔ (Int64.toInt z2) < 0 := by rw [← ez44]; exact lgI1 z2 0
          have l2z44 : 0 < (Int32.toInt z44) ↔ 0 < (Int64.toInt z2) := by rw [← ez44]; exact lgI2 z2 0
          refine r_lcmp 121 z44 C dX12_flex1_121 ez44 ?_
          refine r_if_ge 122 131 C dX12_flex1_122 (by decide) (fun c45 => ?_) (fun c45 => ?_)
          · skip
            have k46 : 0 ≤ (Int32.toInt z44) := (fa_le 0 z44).mp c45
            refine r_lload 131 1 C dX12_flex1_131 rfl ?_
            obtain ⟨z47, ez47⟩ : ∃ z_9, lg_cmp z3 z2 = z_9 := ⟨_, rfl⟩
            have l1z47 : (Int32.toInt z47) < 0 ↔ (Int64.toInt z3) < (Int64.toInt z2) := by rw [← ez47]; exact lgI1 z3 z2
            have l2z47 : 0 < (Int32.toInt z47) ↔ (Int64.toInt z2) < (Int64.toInt z3) := by rw [← ez47]; exact lgI2 z3 z2
            refine r_lcmp 133 z47 C dX12_flex1_133 ez47 ?_
            refine r_if_le 134 141 C dX12_flex1_134 (by decide) (fun c48 => ?_) (fun c48 => ?_)
            · skip
              have k49 : (Int32.toInt z47) ≤ 0 := (fa_le z47 0).mp c48
              refine r_iconst 141 0 C dX12_flex1_141 (by decide) ?_
              refine r_istore 142 C dX12_flex1_142 [(9, .int 0), (7, .long z2), (5, .long z3), (3, .long y6), (1, .long y5), (0, .ref h0)] (by decide) rfl ?_
              refine r_aload_n 144 5 C dX12_flex1_144 rfl ?_
              refine r_get 145 C dX12_flex1_145 (k := 58) 1 rfl rfl hiX12 (by decide) rfl (mg 1 rfl) (Or.inl rfl) rfl ?_
              refine r_aload_n 148 5 C dX12_flex1_148 rfl ?_
              refine r_get 149 C dX12_flex1_149 (k := 61) 1 rfl rfl hiX12 (by decide) rfl (mg 3 rfl) (Or.inl rfl) rfl ?_
              refine r_bipush 152 6 C dX12_flex1_152 (by decide) ?_
              obtain ⟨z50, ez50⟩ : ∃ z_9, fm1 (Int32.toNatClampNeg 6) = z_9 := ⟨_, rfl⟩
              refine r_lald 154 z50 C dX12_flex1_154 0 rfl (vin (by decide)) ez50 ?_
              have gz50 := fb_rngL z50
              obtain ⟨z51, ez51⟩ : ∃ z_9, z19 + z50 = z_9 := ⟨_, rfl⟩
              have gz51 := fb_rngL z51
              refine r_ladd 155 z51 C dX12_flex1_155 ez51 ?_
              refine r_aload_n 156 5 C dX12_flex1_156 rfl ?_
              refine r_get 157 C dX12_flex1_157 (k := 61) 1 rfl rfl hiX12 (by decide) rfl (mg 3 rfl) (Or.inl rfl) rfl ?_
              refine r_bipush 160 8 C dX12_flex1_160 (by decide) ?_
              obtain ⟨z52, ez52⟩ : ∃ z_9, fm1 (Int32.toNatClampNeg 8) = z_9 := ⟨_, rfl⟩
              refine r_lald 162 z52 C dX12_flex1_162 0 rfl (vin (by decide)) ez52 ?_
              have gz52 := fb_rngL z52
              obtain ⟨z53, ez53⟩ : ∃ z_9, z51 + z52 = z_9 := ⟨_, rfl⟩
              have gz53 := fb_rngL z53
              refine r_ladd 163 z53 C dX12_flex1_163 ez53 ?_
              refine r_lstore 164 C dX12_flex1_164 [(10, .long z53), (9, .int 0), (7, .long z2), (5, .long z3), (3, .long y6), (1, .long y5), (0, .ref h0)] (by decide) rfl ?_
              refine r_aload_n 166 6 C dX12_flex1_166 rfl ?_
              refine r_get 167 C dX12_flex1_167 (k := 59) 1 rfl rfl hiX12 (by decide) rfl (mg 2 rfl) (Or.inl rfl) rfl ?_
              refine r_aload_n 170 6 C dX12_flex1_170 rfl ?_
              refine r_get 171 C dX12_flex1_171 (k := 61) 1 rfl rfl hiX12 (by decide) rfl (mg 3 rfl) (Or.inl rfl) rfl ?_
              refine r_bipush 174 7 C dX12_flex1_174 (by decide) ?_
              obtain ⟨z54, ez54⟩ : ∃ z_9, fm1 (Int32.toNatClampNeg 7) = z_9 := ⟨_, rfl⟩
              refine r_lald 176 z54 C dX12_flex1_176 0 rfl (vin (by decide)) ez54 ?_
              have gz54 := fb_rngL z54
              obtain ⟨z55, ez55⟩ : ∃ z_9, z20 + z54 = z_9 := ⟨_, rfl⟩
              have gz55 := fb_rngL z55
              refine r_ladd 177 z55 C dX12_flex1_177 ez55 ?_
              refine r_aload_n 178 6 C dX12_flex1_178 rfl ?_
              refine r_get 179 C dX12_flex1_179 (k := 61) 1 rfl rfl hiX12 (by decide) rfl (mg 3 rfl) (Or.inl rfl) rfl ?_
              refine r_bipush 182 9 C dX12_flex1_182 (by decide) ?_
              obtain ⟨z56, ez56⟩ : ∃ z_9, fm1 (Int32.toNatClampNeg 9) = z_9 := ⟨_, rfl⟩
              refine r_lald 184 z56 C dX12_flex1_184 0 rfl (vin (by decide)) ez56 ?_
              have gz56 := fb_rngL z56
              obtain ⟨z57, ez57⟩ : ∃ z_9, z55 + z56 = z_9 := ⟨_, rfl⟩
              have gz57 := fb_rngL z57
              refine r_ladd 185 z57 C dX12_flex1_185 ez57 ?_
              refine r_lstore 186 C dX12_flex1_186 [(12, .long z57), (10, .long z53), (9, .int 0), (7, .long z2), (5, .long z3), (3, .long y6), (1, .long y5), (0, .ref h0)] (by decide) rfl ?_
              refine r_aload_n 188 7 C dX12_flex1_188 rfl ?_
              refine r_aload_n 189 7 C dX12_flex1_189 rfl ?_
              refine r_get 190 C dX12_flex1_190 (k := 61) 1 rfl rfl hiX12 (by decide) rfl (mg 3 rfl) (Or.inl rfl) rfl ?_
              refine r_bipush 193 6 C dX12_flex1_193 (by decide) ?_
              refine r_lald 195 z50 C dX12_flex1_195 0 rfl (vin (by decide)) ez50 ?_
              refine r_aload_n 196 7 C dX12_flex1_196 rfl ?_
              refine r_get 197 C dX12_flex1_197 (k := 61) 1 rfl rfl hiX12 (by decide) rfl (mg 3 rfl) (Or.inl rfl) rfl ?_
              refine r_bipush 200 7 C dX12_flex1_200 (by decide) ?_
              refine r_lald 202 z54 C dX12_flex1_202 0 rfl (vin (by decide)) ez54 ?_
              refine r_aload_n 203 7 C dX12_flex1_203 rfl ?_
              refine r_get 204 C dX12_flex1_204 (k := 61) 1 rfl rfl hiX12 (by decide) rfl (mg 3 rfl) (Or.inl rfl) rfl ?_
              refine r_bipush 207 8 C dX12_flex1_207 (by decide) ?_
              refine r_lald 209 z52 C dX12_flex1_209 0 rfl (vin (by decide)) ez52 ?_
              refine r_aload_n 210 7 C dX12_flex1_210 rfl ?_
              refine r_get 211 C dX12_flex1_211 (k := 61) 1 rfl rfl hiX12 (by decide) rfl (mg 3 rfl) (Or.inl rfl) rfl ?_
              refine r_bipush 214 9 C dX12_flex1_214 (by decide) ?_
              refine r_lald 216 z56 C dX12_flex1_216 0 rfl (vin (by decide)) ez56 ?_
              refine r_iload 217 2 C dX12_flex1_217 rfl ?_
              refine r_if_eq_t 219 232 C dX12_flex1_219 (by decide) (by decide) ?_
              refine r_lload_n 232 6 C dX12_flex1_232 rfl ?_
              refine r_lload 233 1 C dX12_flex1_233 rfl ?_
              obtain ⟨z58, ez58⟩ : ∃ z_9, y5 - z53 = z_9 := ⟨_, rfl⟩
              have gz58 := fb_rngL z58
              refine r_lsub 235 z58 C dX12_flex1_235 ez58 ?_
              refine r_iload 236 2 C dX12_flex1_236 rfl ?_
              refine r_if_eq_t 238 248 C dX12_flex1_238 (by decide) (by decide) ?_
              refine r_aload_n 248 7 C dX12_flex1_248 rfl ?_
              refine r_get 249 C dX12_flex1_249 (k := 61) 1 rfl rfl hiX12 (by decide) rfl (mg 3 rfl) (Or.inl rfl) rfl ?_
              refine r_bipush 252 10 C dX12_flex1_252 (by decide) ?_
              obtain ⟨z59, ez59⟩ : ∃ z_9, fm1 (Int32.toNatClampNeg 10) = z_9 := ⟨_, rfl⟩
              refine r_lald 254 z59 C dX12_flex1_254 0 rfl (vin (by decide)) ez59 ?_
              have gz59 := fb_rngL z59
              refine r_callVi 255 C dX12_flex1_255 [] [(h0, .inr (11, [.ref h4, .int x0, .ref h5, .int x1, .int x2, .int x3, .ref h6, .ref h7, .ref h8, .ref h9, .int x4, .int x5, .int x6, .ref h10, .ref h11, .ref h12, .ref h13, .int x7, .int x8, .int x9, .long y0, .int x10, .int x11, .long y1, .long y2, .ref h14, .ref h15, .ref h16, .ref h17, .long y3, .int x12, .ref h18, .int x13, .int x14, .int x15, .int x16, .ref h19, .ref h20, .ref h21, .ref h22, .ref h23, .ref h24, .ref h25, .ref h26, .ref h27, .ref h28, .ref h29, .int x17, .int x18, .int z17, .int z18, .int x21, .int x22, .int x23, .long y4, .int x24, .ref h1, .ref h2, .long z19, .long z20, .int z21, .ref h3, .int x26, .ref h30, .ref h31, .ref h32, .ref h33, .int x27, .int x28, .int x29, .int x30, .ref h34, .ref h35, .int x31, .int x32, .ref h36])), (h1, .inl (gI g, 400, .inl f22)), (h2, .inl (gJ g, 2400, .inr (.inl f23)))] [(h3, .inl (gJ g, 48, .inr (.inl fm1)))] (fun sz => c114_X12_curve l g h0 h1 h2 z50 z54 z52 z56 z58 z59 h4 x0 h5 x1 x2 x3 h6 h7 h8 h9 x4 x5 x6 h10 h11 h12 h13 x7 x8 x9 y0 x10 x11 y1 y2 h14 h15 h16 h17 y3 x12 h18 x13 x14 x15 x16 h19 h20 h21 h22 h23 h24 h25 h26 h27 h28 h29 x17 x18 z17 z18 x21 x22 x23 y4 x24 z19 z20 z21 h3 x26 h30 h31 h32 h33 x27 x28 x29 x30 h34 h35 x31 x32 h36 f22 f23 i_x0 i_x1 i_x3 i_x6 i_x7 i_x10 i_x11 i_y1 i_y2 i_x12 i_x13 i_x14 i_x15 i_x16 i_x18 ⟨p29, p30⟩ ⟨p31, p32⟩ i_x21 i_x22 i_x24 ⟨p33, p34⟩ i_x26 i_x27 i_x28 i_x29 i_x30 i_x31 i_x32 (by show ((Int32.toInt z18) ≤ (Int32.toInt x21)); first | assumption | omega) sz) gX12_flex1_X12_curve rfl ⟨rfl, rfl⟩ 6 (by decide) ⟨Nat.le_of_ble_eq_true rfl, Nat.le_of_ble_eq_true rfl⟩ 1 rfl rfl [1, 2, 3] [0] rfl rfl (by decide) (by decide) (by decide) rfl rfl (Nat.le_of_ble_eq_true rfl) ⟨Nat.le_of_ble_eq_true rfl, Nat.le_of_ble_eq_true rfl⟩ (fun r67 u69 w68 => ?_)
              obtain ⟨z60, z61, z62, z63, z64, f65, f66⟩ := u69
              refine r_ws [(h3, .inl (gJ g, 48, .inr (.inl fm1))), (h0, .inr (11, [.ref h4, .int x0, .ref h5, .int x1, .int x2, .int x3, .ref h6, .ref h7, .ref h8, .ref h9, .int x4, .int x5, .int x6, .ref h10, .ref h11, .ref h12, .ref h13, .int x7, .int x8, .int x9, .long y0, .int x10, .int x11, .long y1, .long y2, .ref h14, .ref h15, .ref h16, .ref h17, .long y3, .int x12, .ref h18, .int x13, .int x14, .int x15, .int x16, .ref h19, .ref h20, .ref h21, .ref h22, .ref h23, .ref h24, .ref h25, .ref h26, .ref h27, .ref h28, .ref h29, .int x17, .int x18, .int z60, .int z61, .int x21, .int x22, .int x23, .long y4, .int x24, .ref h1, .ref h2, .long z62, .long z63, .int z64, .ref h3, .int x26, .ref h30, .ref h31, .ref h32, .ref h33, .int x27, .int x28, .int x29, .int x30, .ref h34, .ref h35, .int x31, .int x32, .ref h36])), (h1, .inl (gI g, 400, .inl f65)), (h2, .inl (gJ g, 2400, .inr (.inl f66)))] rfl ?_
              have gz62 := fb_rngL z62
              have gz63 := fb_rngL z63
              have p70 : 0 ≤ (Int32.toInt r67) := w68.1
              have p71 : (Int32.toInt r67) ≤ 1 := w68.2.1
              have p72 : 0 ≤ (Int32.toInt z60) := w68.2.2.1
              have p73 : (Int32.toInt z60) ≤ 9 := w68.2.2.2.1
              have p74 : 0 ≤ (Int32.toInt z61) := w68.2.2.2.2.1
              have p75 : (Int32.toInt z61) ≤ 400 := w68.2.2.2.2.2.1
              have p76 : 0 ≤ (Int32.toInt z64) := w68.2.2.2.2.2.2.1
              have p77 : (Int32.toInt z64) ≤ 1 := w68.2.2.2.2.2.2.2.1
              have p78 : ((Int32.toInt z61) ≤ (Int32.toInt x21)) := w68.2.2.2.2.2.2.2.2.1
              have p79 : (((Int32.toInt r67) = 0 ∧ 1 ≤ (Int32.toInt z60)) ∨ ((Int32.toInt r67) = 1 ∧ (Int32.toInt z60) = (Int32.toInt z17))) := w68.2.2.2.2.2.2.2.2.2
              rcases p79 with ⟨k80, k81⟩ | p79
              · skip
                exact r_zret 258 Rt dX12_flex1_258 (nz_n (by omega) (by omega)) (z60, z61, z62, z63, z64, f65, f66) (show 0 ≤ (Int32.toInt r67) ∧ (Int32.toInt r67) ≤ 1 ∧ 0 ≤ (Int32.toInt z60) ∧ (Int32.toInt z60) ≤ 9 ∧ 0 ≤ (Int32.toInt z61) ∧ (Int32.toInt z61) ≤ 400 ∧ 0 ≤ (Int32.toInt z64) ∧ (Int32.toInt z64) ≤ 1 ∧ ((Int32.toInt z61) ≤ (Int32.toInt x21)) ∧ (((Int32.toInt r67) = 0 ∧ 1 ≤ (Int32.toInt z60)) ∨ ((Int32.toInt r67) = 1 ∧ (Int32.toInt z60) = (Int32.toInt x19))) from ⟨(show _ ∧ _ from ⟨p70, p71⟩).1, (show _ ∧ _ from ⟨p70, p71⟩).2, (show _ ∧ _ from ⟨p72, p73⟩).1, (show _ ∧ _ from ⟨p72, p73⟩).2, (show _ ∧ _ from ⟨p74, p75⟩).1, (show _ ∧ _ from ⟨p74, p75⟩).2, (show _ ∧ _ from ⟨p76, p77⟩).1, (show _ ∧ _ from ⟨p76, p77⟩).2, (by first | omega | ((repeat' apply And.intro) <;> first | trivial | rfl | assumption | omega | decide | exact Or.inl rfl | exact Or.inr (Or.inl rfl) | exact Or.inr (Or.inr rfl) | exact Or.inr (Or.inr (by assumption)))), (by first | omega | ((repeat' apply And.intro) <;> first | trivial | rfl | assumption | omega | decide | exact Or.inl rfl | exact Or.inr (Or.inl rfl) | exact Or.inr (Or.inr rfl) | exact Or.inr (Or.inr (by assumption))))⟩) [1, 2, 3, 0] (by decide) rfl (Nat.le_of_ble_eq_true rfl) (Nat.le_of_ble_eq_true rfl)
              obtain ⟨k82, k83⟩ := p79
              exact r_zret 258 Rt dX12_flex1_258 (nz_n (by omega) (by omega)) (z60, z61, z62, z63, z64, f65, f66) (show 0 ≤ (Int32.toInt r67) ∧ (Int32.toInt r67) ≤ 1 ∧ 0 ≤ (Int32.toInt z60) ∧ (Int32.toInt z60) ≤ 9 ∧ 0 ≤ (Int32.toInt z61) ∧ (Int32.toInt z61) ≤ 400 ∧ 0 ≤ (Int32.toInt z64) ∧ (Int32.toInt z64) ≤ 1 ∧ ((Int32.toInt z61) ≤ (Int32.toInt x21)) ∧ (((Int32.toInt r67) = 0 ∧ 1 ≤ (Int32.toInt z60)) ∨ ((Int32.toInt r67) = 1 ∧ (Int32.toInt z60) = (Int32.toInt x19))) from ⟨(show _ ∧ _ from ⟨p70, p71⟩).1, (show _ ∧ _ from ⟨p70, p71⟩).2, (show _ ∧ _ from ⟨p72, p73⟩).1, (show _ ∧ _ from ⟨p72, p73⟩).2, (show _ ∧ _ from ⟨p74, p75⟩).1, (show _ ∧ _ from ⟨p74, p75⟩).2, (show _ ∧ _ from ⟨p76, p77⟩).1, (show _ ∧ _ from ⟨p76, p77⟩).2, (by first | omega | ((repeat' apply And.intro) <;> first | trivial | rfl | assumption | omega | decide | exact Or.inl rfl | exact Or.inr (Or.inl rfl) | exact Or.inr (Or.inr rfl) | exact Or.inr (Or.inr (by assumption)))), (by first | omega | ((repeat' apply And.intro) <;> first | trivial | rfl | assumption | omega | decide | exact Or.inl rfl | exact Or.inr (Or.inl rfl) | exact Or.inr (Or.inr rfl) | exact Or.inr (Or.inr (by assumption))))⟩) [1, 2, 3, 0] (by decide) rfl (Nat.le_of_ble_eq_true rfl) (Nat.le_of_ble_eq_true rfl)
            · skip
              have k84 : ¬ ((Int32.toInt z47) ≤ 0) := fun h_9 => c48 ((fa_le z47 0).mpr h_9)
              refine r_iconst 137 1 C dX12_flex1_137 (by decide) ?_
              refine r_goto 138 142 C dX12_flex1_138 (by decide) ?_
              refine r_istore 142 C dX12_flex1_142 [(9, .int 1), (7, .long z2), (5, .long z3), (3, .long y6), (1, .long y5), (0, .ref h0)] (by decide) rfl ?_
              refine r_aload_n 144 5 C dX12_flex1_144 rfl ?_
              refine r_get 145 C dX12_flex1_145 (k := 58) 1 rfl rfl hiX12 (by decide) rfl (mg 1 rfl) (Or.inl rfl) rfl ?_
              refine r_aload_n 148 5 C dX12_flex1_148 rfl ?_
              refine r_get 149 C dX12_flex1_149 (k := 61) 1 rfl rfl hiX12 (by decide) rfl (mg 3 rfl) (Or.inl rfl) rfl ?_
              refine r_bipush 152 6 C dX12_flex1_152 (by decide) ?_
              obtain ⟨z85, ez85⟩ : ∃ z_9, fm1 (Int32.toNatClampNeg 6) = z_9 := ⟨_, rfl⟩
              refine r_lald 154 z85 C dX12_flex1_154 0 rfl (vin (by decide)) ez85 ?_
              have gz85 := fb_rngL z85
              obtain ⟨z86, ez86⟩ : ∃ z_9, z19 + z85 = z_9 := ⟨_, rfl⟩
              have gz86 := fb_rngL z86
              refine r_ladd 155 z86 C dX12_flex1_155 ez86 ?_
              refine r_aload_n 156 5 C dX12_flex1_156 rfl ?_
              refine r_get 157 C dX12_flex1_157 (k := 61) 1 rfl rfl hiX12 (by decide) rfl (mg 3 rfl) (Or.inl rfl) rfl ?_
              refine r_bipush 160 8 C dX12_flex1_160 (by decide) ?_
              obtain ⟨z87, ez87⟩ : ∃ z_9, fm1 (Int32.toNatClampNeg 8) = z_9 := ⟨_, rfl⟩
              refine r_lald 162 z87 C dX12_flex1_162 0 rfl (vin (by decide)) ez87 ?_
              have gz87 := fb_rngL z87
              obtain ⟨z88, ez88⟩ : ∃ z_9, z86 + z87 = z_9 := ⟨_, rfl⟩
              have gz88 := fb_rngL z88
              refine r_ladd 163 z88 C dX12_flex1_163 ez88 ?_
              refine r_lstore 164 C dX12_flex1_164 [(10, .long z88), (9, .int 1), (7, .long z2), (5, .long z3), (3, .long y6), (1, .long y5), (0, .ref h0)] (by decide) rfl ?_
              refine r_aload_n 166 6 C dX12_flex1_166 rfl ?_
              refine r_get 167 C dX12_flex1_167 (k := 59) 1 rfl rfl hiX12 (by decide) rfl (mg 2 rfl) (Or.inl rfl) rfl ?_
              refine r_aload_n 170 6 C dX12_flex1_170 rfl ?_
              refine r_get 171 C dX12_flex1_171 (k := 61) 1 rfl rfl hiX12 (by decide) rfl (mg 3 rfl) (Or.inl rfl) rfl ?_
              refine r_bipush 174 7 C dX12_flex1_174 (by decide) ?_
              obtain ⟨z89, ez89⟩ : ∃ z_9, fm1 (Int32.toNatClampNeg 7) = z_9 := ⟨_, rfl⟩
              refine r_lald 176 z89 C dX12_flex1_176 0 rfl (vin (by decide)) ez89 ?_
              have gz89 := fb_rngL z89
              obtain ⟨z90, ez90⟩ : ∃ z_9, z20 + z89 = z_9 := ⟨_, rfl⟩
              have gz90 := fb_rngL z90
              refine r_ladd 177 z90 C dX12_flex1_177 ez90 ?_
              refine r_aload_n 178 6 C dX12_flex1_178 rfl ?_
              refine r_get 179 C dX12_flex1_179 (k := 61) 1 rfl rfl hiX12 (by decide) rfl (mg 3 rfl) (Or.inl rfl) rfl ?_
              refine r_bipush 182 9 C dX12_flex1_182 (by decide) ?_
              obtain ⟨z91, ez91⟩ : ∃ z_9, fm1 (Int32.toNatClampNeg 9) = z_9 := ⟨_, rfl⟩
              refine r_lald 184 z91 C dX12_flex1_184 0 rfl (vin (by decide)) ez91 ?_
              have gz91 := fb_rngL z91
              obtain ⟨z92, ez92⟩ : ∃ z_9, z90 + z91 = z_9 := ⟨_, rfl⟩
              have gz92 := fb_rngL z92
              refine r_ladd 185 z92 C dX12_flex1_185 ez92 ?_
              refine r_lstore 186 C dX12_flex1_186 [(12, .long z92), (10, .long z88), (9, .int 1), (7, .long z2), (5, .long z3), (3, .long y6), (1, .long y5), (0, .ref h0)] (by decide) rfl ?_
              refine r_aload_n 188 7 C dX12_flex1_188 rfl ?_
              refine r_aload_n 189 7 C dX12_flex1_189 rfl ?_
              refine r_get 190 C dX12_flex1_190 (k := 61) 1 rfl rfl hiX12 (by decide) rfl (mg 3 rfl) (Or.inl rfl) rfl ?_
              refine r_bipush 193 6 C dX12_flex1_193 (by decide) ?_
              refine r_lald 195 z85 C dX12_flex1_195 0 rfl (vin (by decide)) ez85 ?_
              refine r_aload_n 196 7 C dX12_flex1_196 rfl ?_
              refine r_get 197 C dX12_flex1_197 (k := 61) 1 rfl rfl hiX12 (by decide) rfl (mg 3 rfl) (Or.inl rfl) rfl ?_
              refine r_bipush 200 7 C dX12_flex1_200 (by decide) ?_
              refine r_lald 202 z89 C dX12_flex1_202 0 rfl (vin (by decide)) ez89 ?_
              refine r_aload_n 203 7 C dX12_flex1_203 rfl ?_
              refine r_get 204 C dX12_flex1_204 (k := 61) 1 rfl rfl hiX12 (by decide) rfl (mg 3 rfl) (Or.inl rfl) rfl ?_
              refine r_bipush 207 8 C dX12_flex1_207 (by decide) ?_
              refine r_lald 209 z87 C dX12_flex1_209 0 rfl (vin (by decide)) ez87 ?_
              refine r_aload_n 210 7 C dX12_flex1_210 rfl ?_
              refine r_get 211 C dX12_flex1_211 (k := 61) 1 rfl rfl hiX12 (by decide) rfl (mg 3 rfl) (Or.inl rfl) rfl ?_
              refine r_bipush 214 9 C dX12_flex1_214 (by decide) ?_
              refine r_lald 216 z91 C dX12_flex1_216 0 rfl (vin (by decide)) ez91 ?_
              refine r_iload 217 2 C dX12_flex1_217 rfl ?_
              refine r_if_eq_f 219 232 C dX12_flex1_219 (by decide) (by decide) ?_
              refine r_aload_n 222 7 C dX12_flex1_222 rfl ?_
              refine r_get 223 C dX12_flex1_223 (k := 61) 1 rfl rfl hiX12 (by decide) rfl (mg 3 rfl) (Or.inl rfl) rfl ?_
              refine r_bipush 226 10 C dX12_flex1_226 (by decide) ?_
              obtain ⟨z93, ez93⟩ : ∃ z_9, fm1 (Int32.toNatClampNeg 10) = z_9 := ⟨_, rfl⟩
              refine r_lald 228 z93 C dX12_flex1_228 0 rfl (vin (by decide)) ez93 ?_
              have gz93 := fb_rngL z93
              refine r_goto 229 236 C dX12_flex1_229 (by decide) ?_
              refine r_iload 236 2 C dX12_flex1_236 rfl ?_
              refine r_if_eq_f 238 248 C dX12_flex1_238 (by decide) (by decide) ?_
              refine r_lload_n 241 5 C dX12_flex1_241 rfl ?_
              refine r_lload 242 0 C dX12_flex1_242 rfl ?_
              obtain ⟨z94, ez94⟩ : ∃ z_9, y6 - z92 = z_9 := ⟨_, rfl⟩
              have gz94 := fb_rngL z94
              refine r_lsub 244 z94 C dX12_flex1_244 ez94 ?_
              refine r_goto 245 255 C dX12_flex1_245 (by decide) ?_
              refine r_callVi 255 C dX12_flex1_255 [] [(h0, .inr (11, [.ref h4, .int x0, .ref h5, .int x1, .int x2, .int x3, .ref h6, .ref h7, .ref h8, .ref h9, .int x4, .int x5, .int x6, .ref h10, .ref h11, .ref h12, .ref h13, .int x7, .int x8, .int x9, .long y0, .int x10, .int x11, .long y1, .long y2, .ref h14, .ref h15, .ref h16, .ref h17, .long y3, .int x12, .ref h18, .int x13, .int x14, .int x15, .int x16, .ref h19, .ref h20, .ref h21, .ref h22, .ref h23, .ref h24, .ref h25, .ref h26, .ref h27, .ref h28, .ref h29, .int x17, .int x18, .int z17, .int z18, .int x21, .int x22, .int x23, .long y4, .int x24, .ref h1, .ref h2, .long z19, .long z20, .int z21, .ref h3, .int x26, .ref h30, .ref h31, .ref h32, .ref h33, .int x27, .int x28, .int x29, .int x30, .ref h34, .ref h35, .int x31, .int x32, .ref h36])), (h1, .inl (gI g, 400, .inl f22)), (h2, .inl (gJ g, 2400, .inr (.inl f23)))] [(h3, .inl (gJ g, 48, .inr (.inl fm1)))] (fun sz => c114_X12_curve l g h0 h1 h2 z85 z89 z87 z91 z93 z94 h4 x0 h5 x1 x2 x3 h6 h7 h8 h9 x4 x5 x6 h10 h11 h12 h13 x7 x8 x9 y0 x10 x11 y1 y2 h14 h15 h16 h17 y3 x12 h18 x13 x14 x15 x16 h19 h20 h21 h22 h23 h24 h25 h26 h27 h28 h29 x17 x18 z17 z18 x21 x22 x23 y4 x24 z19 z20 z21 h3 x26 h30 h31 h32 h33 x27 x28 x29 x30 h34 h35 x31 x32 h36 f22 f23 i_x0 i_x1 i_x3 i_x6 i_x7 i_x10 i_x11 i_y1 i_y2 i_x12 i_x13 i_x14 i_x15 i_x16 i_x18 ⟨p29, p30⟩ ⟨p31, p32⟩ i_x21 i_x22 i_x24 ⟨p33, p34⟩ i_x26 i_x27 i_x28 i_x29 i_x30 i_x31 i_x32 (by show ((Int32.toInt z18) ≤ (Int32.toInt x21)); first | assumption | omega) sz) gX12_flex1_X12_curve rfl ⟨rfl, rfl⟩ 6 (by decide) ⟨Nat.le_of_ble_eq_true rfl, Nat.le_of_ble_eq_true rfl⟩ 1 rfl rfl [1, 2, 3] [0] rfl rfl (by decide) (by decide) (by decide) rfl rfl (Nat.le_of_ble_eq_true rfl) ⟨Nat.le_of_ble_eq_true rfl, Nat.le_of_ble_eq_true rfl⟩ (fun r102 u104 w103 => ?_)
              obtain ⟨z95, z96, z97, z98, z99, f100, f101⟩ := u104
              refine r_ws [(h3, .inl (gJ g, 48, .inr (.inl fm1))), (h0, .inr (11, [.ref h4, .int x0, .ref h5, .int x1, .int x2, .int x3, .ref h6, .ref h7, .ref h8, .ref h9, .int x4, .int x5, .int x6, .ref h10, .ref h11, .ref h12, .ref h13, .int x7, .int x8, .int x9, .long y0, .int x10, .int x11, .long y1, .long y2, .ref h14, .ref h15, .ref h16, .ref h17, .long y3, .int x12, .ref h18, .int x13, .int x14, .int x15, .int x16, .ref h19, .ref h20, .ref h21, .ref h22, .ref h23, .ref h24, .ref h25, .ref h26, .ref h27, .ref h28, .ref h29, .int x17, .int x18, .int z95, .int z96, .int x21, .int x22, .int x23, .long y4, .int x24, .ref h1, .ref h2, .long z97, .long z98, .int z99, .ref h3, .int x26, .ref h30, .ref h31, .ref h32, .ref h33, .int x27, .int x28, .int x29, .int x30, .ref h34, .ref h35, .int x31, .int x32, .ref h36])), (h1, .inl (gI g, 400, .inl f100)), (h2, .inl (gJ g, 2400, .inr (.inl f101)))] rfl ?_
              have gz97 := fb_rngL z97
              have gz98 := fb_rngL z98
              have p105 : 0 ≤ (Int32.toInt r102) := w103.1
              have p106 : (Int32.toInt r102) ≤ 1 := w103.2.1
              have p107 : 0 ≤ (Int32.toInt z95) := w103.2.2.1
              have p108 : (Int32.toInt z95) ≤ 9 := w103.2.2.2.1
              have p109 : 0 ≤ (Int32.toInt z96) := w103.2.2.2.2.1
              have p110 : (Int32.toInt z96) ≤ 400 := w103.2.2.2.2.2.1
              have p111 : 0 ≤ (Int32.toInt z99) := w103.2.2.2.2.2.2.1
              have p112 : (Int32.toInt z99) ≤ 1 := w103.2.2.2.2.2.2.2.1
              have p113 : ((Int32.toInt z96) ≤ (Int32.toInt x21)) := w103.2.2.2.2.2.2.2.2.1
              have p114 : (((Int32.toInt r102) = 0 ∧ 1 ≤ (Int32.toInt z95)) ∨ ((Int32.toInt r102) = 1 ∧ (Int32.toInt z95) = (Int32.toInt z17))) := w103.2.2.2.2.2.2.2.2.2
              rcases p114 with ⟨k115, k116⟩ | p114
              · skip
                exact r_zret 258 Rt dX12_flex1_258 (nz_n (by omega) (by omega)) (z95, z96, z97, z98, z99, f100, f101) (show 0 ≤ (Int32.toInt r102) ∧ (Int32.toInt r102) ≤ 1 ∧ 0 ≤ (Int32.toInt z95) ∧ (Int32.toInt z95) ≤ 9 ∧ 0 ≤ (Int32.toInt z96) ∧ (Int32.toInt z96) ≤ 400 ∧ 0 ≤ (Int32.toInt z99) ∧ (Int32.toInt z99) ≤ 1 ∧ ((Int32.toInt z96) ≤ (Int32.toInt x21)) ∧ (((Int32.toInt r102) = 0 ∧ 1 ≤ (Int32.toInt z95)) ∨ ((Int32.toInt r102) = 1 ∧ (Int32.toInt z95) = (Int32.toInt x19))) from ⟨(show _ ∧ _ from ⟨p105, p106⟩).1, (show _ ∧ _ from ⟨p105, p106⟩).2, (show _ ∧ _ from ⟨p107, p108⟩).1, (show _ ∧ _ from ⟨p107, p108⟩).2, (show _ ∧ _ from ⟨p109, p110⟩).1, (show _ ∧ _ from ⟨p109, p110⟩).2, (show _ ∧ _ from ⟨p111, p112⟩).1, (show _ ∧ _ from ⟨p111, p112⟩).2, (by first | omega | ((repeat' apply And.intro) <;> first | trivial | rfl | assumption | omega | decide | exact Or.inl rfl | exact Or.inr (Or.inl rfl) | exact Or.inr (Or.inr rfl) | exact Or.inr (Or.inr (by assumption)))), (by first | omega | ((repeat' apply And.intro) <;> first | trivial | rfl | assumption | omega | decide | exact Or.inl rfl | exact Or.inr (Or.inl rfl) | exact Or.inr (Or.inr rfl) | exact Or.inr (Or.inr (by assumption))))⟩) [1, 2, 3, 0] (by decide) rfl (Nat.le_of_ble_eq_true rfl) (Nat.le_of_ble_eq_true rfl)
              obtain ⟨k117, k118⟩ := p114
              exact r_zret 258 Rt dX12_flex1_258 (nz_n (by omega) (by omega)) (z95, z96, z97, z98, z99, f100, f101) (show 0 ≤ (Int32.toInt r102) ∧ (Int32.toInt r102) ≤ 1 ∧ 0 ≤ (Int32.toInt z95) ∧ (Int32.toInt z95) ≤ 9 ∧ 0 ≤ (Int32.toInt z96) ∧ (Int32.toInt z96) ≤ 400 ∧ 0 ≤ (Int32.toInt z99) ∧ (Int32.toInt z99) ≤ 1 ∧ ((Int32.toInt z96) ≤ (Int32.toInt x21)) ∧ (((Int32.toInt r102) = 0 ∧ 1 ≤ (Int32.toInt z95)) ∨ ((Int32.toInt r102) = 1 ∧ (Int32.toInt z95) = (Int32.toInt x19))) from ⟨(show _ ∧ _ from ⟨p105, p106⟩).1, (show _ ∧ _ from ⟨p105, p106⟩).2, (show _ ∧ _ from ⟨p107, p108⟩).1, (show _ ∧ _ from ⟨p107, p108⟩).2, (show _ ∧ _ from ⟨p109, p110⟩).1, (show _ ∧ _ from ⟨p109, p110⟩).2, (show _ ∧ _ from ⟨p111, p112⟩).1, (show _ ∧ _ from ⟨p111, p112⟩).2, (by first | omega | ((repeat' apply And.intro) <;> first | trivial | rfl | assumption | omega | decide | exact Or.inl rfl | exact Or.inr (Or.inl rfl) | exact Or.inr (Or.inr rfl) | exact Or.inr (Or.inr (by assumption)))), (by first | omega | ((repeat' apply And.intro) <;> first | trivial | rfl | assumption | omega | decide | exact Or.inl rfl | exact Or.inr (Or.inl rfl) | exact Or.inr (Or.inr rfl) | exact Or.inr (Or.inr (by assumption))))⟩) [1, 2, 3, 0] (by decide) rfl (Nat.le_of_ble_eq_true rfl) (Nat.le_of_ble_eq_true rfl)
          · skip
            have k119 : ¬ (0 ≤ (Int32.toInt z44)) := fun h_9 => c45 ((fa_le 0 z44).mpr h_9)
            refine r_lload 125 1 C dX12_flex1_125 rfl ?_
            obtain ⟨z120, ez120⟩ : ∃ z_9, -z2 = z_9 := ⟨_, rfl⟩
            have gz120 := fb_rngL z120
            refine r_lneg 127 z120 C dX12_flex1_127 ez120 ?_
            refine r_goto 128 133 C dX12_flex1_128 (by decide) ?_
            obtain ⟨z121, ez121⟩ : ∃ z_9, lg_cmp z3 z120 = z_9 := ⟨_, rfl⟩
            have l1z121 : (Int32.toInt z121) < 0 ↔ (Int64.toInt z3) < (Int64.toInt z120) := by rw [← ez121]; exact lgI1 z3 z120
            have l2z121 : 0 < (Int32.toInt z121) ↔ (Int64.toInt z120) < (Int64.toInt z3) := by rw [← ez121]; exact lgI2 z3 z120
            refine r_lcmp 133 z121 C dX12_flex1_133 ez121 ?_
            refine r_if_le 134 141 C dX12_flex1_134 (by decide) (fun c122 => ?_) (fun c122 => ?_)
            · skip
              have k123 : (Int32.toInt z121) ≤ 0 := (fa_le z121 0).mp c122
              refine r_iconst 141 0 C dX12_flex1_141 (by decide) ?_
              refine r_istore 142 C dX12_flex1_142 [(9, .int 0), (7, .long z2), (5, .long z3), (3, .long y6), (1, .long y5), (0, .ref h0)] (by decide) rfl ?_
              refine r_aload_n 144 5 C dX12_flex1_144 rfl ?_
              refine r_get 145 C dX12_flex1_145 (k := 58) 1 rfl rfl hiX12 (by decide) rfl (mg 1 rfl) (Or.inl rfl) rfl ?_
              refine r_aload_n 148 5 C dX12_flex1_148 rfl ?_
              refine r_get 149 C dX12_flex1_149 (k := 61) 1 rfl rfl hiX12 (by decide) rfl (mg 3 rfl) (Or.inl rfl) rfl ?_
              refine r_bipush 152 6 C dX12_flex1_152 (by decide) ?_
              obtain ⟨z124, ez124⟩ : ∃ z_9, fm1 (Int32.toNatClampNeg 6) = z_9 := ⟨_, rfl⟩
              refine r_lald 154 z124 C dX12_flex1_154 0 rfl (vin (by decide)) ez124 ?_
              have gz124 := fb_rngL z124
              obtain ⟨z125, ez125⟩ : ∃ z_9, z19 + z124 = z_9 := ⟨_, rfl⟩
              have gz125 := fb_rngL z125
              refine r_ladd 155 z125 C dX12_flex1_155 ez125 ?_
              refine r_aload_n 156 5 C dX12_flex1_156 rfl ?_
              refine r_get 157 C dX12_flex1_157 (k := 61) 1 rfl rfl hiX12 (by decide) rfl (mg 3 rfl) (Or.inl rfl) rfl ?_
              refine r_bipush 160 8 C dX12_flex1_160 (by decide) ?_
              obtain ⟨z126, ez126⟩ : ∃ z_9, fm1 (Int32.toNatClampNeg 8) = z_9 := ⟨_, rfl⟩
              refine r_lald 162 z126 C dX12_flex1_162 0 rfl (vin (by decide)) ez126 ?_
              have gz126 := fb_rngL z126
              obtain ⟨z127, ez127⟩ : ∃ z_9, z125 + z126 = z_9 := ⟨_, rfl⟩
              have gz127 := fb_rngL z127
              refine r_ladd 163 z127 C dX12_flex1_163 ez127 ?_
              refine r_lstore 164 C dX12_flex1_164 [(10, .long z127), (9, .int 0), (7, .long z2), (5, .long z3), (3, .long y6), (1, .long y5), (0, .ref h0)] (by decide) rfl ?_
              refine r_aload_n 166 6 C dX12_flex1_166 rfl ?_
              refine r_get 167 C dX12_flex1_167 (k := 59) 1 rfl rfl hiX12 (by decide) rfl (mg 2 rfl) (Or.inl rfl) rfl ?_
              refine r_aload_n 170 6 C dX12_flex1_170 rfl ?_
              refine r_get 171 C dX12_flex1_171 (k := 61) 1 rfl rfl hiX12 (by decide) rfl (mg 3 rfl) (Or.inl rfl) rfl ?_
              refine r_bipush 174 7 C dX12_flex1_174 (by decide) ?_
              obtain ⟨z128, ez128⟩ : ∃ z_9, fm1 (Int32.toNatClampNeg 7) = z_9 := ⟨_, rfl⟩
              refine r_lald 176 z128 C dX12_flex1_176 0 rfl (vin (by decide)) ez128 ?_
              have gz128 := fb_rngL z128
              obtain ⟨z129, ez129⟩ : ∃ z_9, z20 + z128 = z_9 := ⟨_, rfl⟩
              have gz129 := fb_rngL z129
              refine r_ladd 177 z129 C dX12_flex1_177 ez129 ?_
              refine r_aload_n 178 6 C dX12_flex1_178 rfl ?_
              refine r_get 179 C dX12_flex1_179 (k := 61) 1 rfl rfl hiX12 (by decide) rfl (mg 3 rfl) (Or.inl rfl) rfl ?_
              refine r_bipush 182 9 C dX12_flex1_182 (by decide) ?_
              obtain ⟨z130, ez130⟩ : ∃ z_9, fm1 (Int32.toNatClampNeg 9) = z_9 := ⟨_, rfl⟩
              refine r_lald 184 z130 C dX12_flex1_184 0 rfl (vin (by decide)) ez130 ?_
              have gz130 := fb_rngL z130
              obtain ⟨z131, ez131⟩ : ∃ z_9, z129 + z130 = z_9 := ⟨_, rfl⟩
              have gz131 := fb_rngL z131
              refine r_ladd 185 z131 C dX12_flex1_185 ez131 ?_
              refine r_lstore 186 C dX12_flex1_186 [(12, .long z131), (10, .long z127), (9, .int 0), (7, .long z2), (5, .long z3), (3, .long y6), (1, .long y5), (0, .ref h0)] (by decide) rfl ?_
              refine r_aload_n 188 7 C dX12_flex1_188 rfl ?_
              refine r_aload_n 189 7 C dX12_flex1_189 rfl ?_
              refine r_get 190 C dX12_flex1_190 (k := 61) 1 rfl rfl hiX12 (by decide) rfl (mg 3 rfl) (Or.inl rfl) rfl ?_
              refine r_bipush 193 6 C dX12_flex1_193 (by decide) ?_
              refine r_lald 195 z124 C dX12_flex1_195 0 rfl (vin (by decide)) ez124 ?_
              refine r_aload_n 196 7 C dX12_flex1_196 rfl ?_
              refine r_get 197 C dX12_flex1_197 (k := 61) 1 rfl rfl hiX12 (by decide) rfl (mg 3 rfl) (Or.inl rfl) rfl ?_
              refine r_bipush 200 7 C dX12_flex1_200 (by decide) ?_
              refine r_lald 202 z128 C dX12_flex1_202 0 rfl (vin (by decide)) ez128 ?_
              refine r_aload_n 203 7 C dX12_flex1_203 rfl ?_
              refine r_get 204 C dX12_flex1_204 (k := 61) 1 rfl rfl hiX12 (by decide) rfl (mg 3 rfl) (Or.inl rfl) rfl ?_
              refine r_bipush 207 8 C dX12_flex1_207 (by decide) ?_
              refine r_lald 209 z126 C dX12_flex1_209 0 rfl (vin (by decide)) ez126 ?_
              refine r_aload_n 210 7 C dX12_flex1_210 rfl ?_
              refine r_get 211 C dX12_flex1_211 (k := 61) 1 rfl rfl hiX12 (by decide) rfl (mg 3 rfl) (Or.inl rfl) rfl ?_
              refine r_bipush 214 9 C dX12_flex1_214 (by decide) ?_
              refine r_lald 216 z130 C dX12_flex1_216 0 rfl (vin (by decide)) ez130 ?_
              refine r_iload 217 2 C dX12_flex1_217 rfl ?_
              refine r_if_eq_t 219 232 C dX12_flex1_219 (by decide) (by decide) ?_
              refine r_lload_n 232 6 C dX12_flex1_232 rfl ?_
              refine r_lload 233 1 C dX12_flex1_233 rfl ?_
              obtain ⟨z132, ez132⟩ : ∃ z_9, y5 - z127 = z_9 := ⟨_, rfl⟩
              have gz132 := fb_rngL z132
              refine r_lsub 235 z132 C dX12_flex1_235 ez132 ?_
              refine r_iload 236 2 C dX12_flex1_236 rfl ?_
              refine r_if_eq_t 238 248 C dX12_flex1_238 (by decide) (by decide) ?_
              refine r_aload_n 248 7 C dX12_flex1_248 rfl ?_
              refine r_get 249 C dX12_flex1_249 (k := 61) 1 rfl rfl hiX12 (by decide) rfl (mg 3 rfl) (Or.inl rfl) rfl ?_
              refine r_bipush 252 10 C dX12_flex1_252 (by decide) ?_
              obtain ⟨z133, ez133⟩ : ∃ z_9, fm1 (Int32.toNatClampNeg 10) = z_9 := ⟨_, rfl⟩
              refine r_lald 254 z133 C dX12_flex1_254 0 rfl (vin (by decide)) ez133 ?_
              have gz133 := fb_rngL z133
              refine r_callVi 255 C dX12_flex1_255 [] [(h0, .inr (11, [.ref h4, .int x0, .ref h5, .int x1, .int x2, .int x3, .ref h6, .ref h7, .ref h8, .ref h9, .int x4, .int x5, .int x6, .ref h10, .ref h11, .ref h12, .ref h13, .int x7, .int x8, .int x9, .long y0, .int x10, .int x11, .long y1, .long y2, .ref h14, .ref h15, .ref h16, .ref h17, .long y3, .int x12, .ref h18, .int x13, .int x14, .int x15, .int x16, .ref h19, .ref h20, .ref h21, .ref h22, .ref h23, .ref h24, .ref h25, .ref h26, .ref h27, .ref h28, .ref h29, .int x17, .int x18, .int z17, .int z18, .int x21, .int x22, .int x23, .long y4, .int x24, .ref h1, .ref h2, .long z19, .long z20, .int z21, .ref h3, .int x26, .ref h30, .ref h31, .ref h32, .ref h33, .int x27, .int x28, .int x29, .int x30, .ref h34, .ref h35, .int x31, .int x32, .ref h36])), (h1, .inl (gI g, 400, .inl f22)), (h2, .inl (gJ g, 2400, .inr (.inl f23)))] [(h3, .inl (gJ g, 48, .inr (.inl fm1)))] (fun sz => c114_X12_curve l g h0 h1 h2 z124 z128 z126 z130 z132 z133 h4 x0 h5 x1 x2 x3 h6 h7 h8 h9 x4 x5 x6 h10 h11 h12 h13 x7 x8 x9 y0 x10 x11 y1 y2 h14 h15 h16 h17 y3 x12 h18 x13 x14 x15 x16 h19 h20 h21 h22 h23 h24 h25 h26 h27 h28 h29 x17 x18 z17 z18 x21 x22 x23 y4 x24 z19 z20 z21 h3 x26 h30 h31 h32 h33 x27 x28 x29 x30 h34 h35 x31 x32 h36 f22 f23 i_x0 i_x1 i_x3 i_x6 i_x7 i_x10 i_x11 i_y1 i_y2 i_x12 i_x13 i_x14 i_x15 i_x16 i_x18 ⟨p29, p30⟩ ⟨p31, p32⟩ i_x21 i_x22 i_x24 ⟨p33, p34⟩ i_x26 i_x27 i_x28 i_x29 i_x30 i_x31 i_x32 (by show ((Int32.toInt z18) ≤ (Int32.toInt x21)); first | assumption | omega) sz) gX12_flex1_X12_curve rfl ⟨rfl, rfl⟩ 6 (by decide) ⟨Nat.le_of_ble_eq_true rfl, Nat.le_of_ble_eq_true rfl⟩ 1 rfl rfl [1, 2, 3] [0] rfl rfl (by decide) (by decide) (by decide) rfl rfl (Nat.le_of_ble_eq_true rfl) ⟨Nat.le_of_ble_eq_true rfl, Nat.le_of_ble_eq_true rfl⟩ (fun r141 u143 w142 => ?_)
              obtain ⟨z134, z135, z136, z137, z138, f139, f140⟩ := u143
              refine r_ws [(h3, .inl (gJ g, 48, .inr (.inl fm1))), (h0, .inr (11, [.ref h4, .int x0, .ref h5, .int x1, .int x2, .int x3, .ref h6, .ref h7, .ref h8, .ref h9, .int x4, .int x5, .int x6, .ref h10, .ref h11, .ref h12, .ref h13, .int x7, .int x8, .int x9, .long y0, .int x10, .int x11, .long y1, .long y2, .ref h14, .ref h15, .ref h16, .ref h17, .long y3, .int x12, .ref h18, .int x13, .int x14, .int x15, .int x16, .ref h19, .ref h20, .ref h21, .ref h22, .ref h23, .ref h24, .ref h25, .ref h26, .ref h27, .ref h28, .ref h29, .int x17, .int x18, .int z134, .int z135, .int x21, .int x22, .int x23, .long y4, .int x24, .ref h1, .ref h2, .long z136, .long z137, .int z138, .ref h3, .int x26, .ref h30, .ref h31, .ref h32, .ref h33, .int x27, .int x28, .int x29, .int x30, .ref h34, .ref h35, .int x31, .int x32, .ref h36])), (h1, .inl (gI g, 400, .inl f139)), (h2, .inl (gJ g, 2400, .inr (.inl f140)))] rfl ?_
              have gz136 := fb_rngL z136
              have gz137 := fb_rngL z137
              have p144 : 0 ≤ (Int32.toInt r141) := w142.1
              have p145 : (Int32.toInt r141) ≤ 1 := w142.2.1
              have p146 : 0 ≤ (Int32.toInt z134) := w142.2.2.1
              have p147 : (Int32.toInt z134) ≤ 9 := w142.2.2.2.1
              have p148 : 0 ≤ (Int32.toInt z135) := w142.2.2.2.2.1
              have p149 : (Int32.toInt z135) ≤ 400 := w142.2.2.2.2.2.1
              have p150 : 0 ≤ (Int32.toInt z138) := w142.2.2.2.2.2.2.1
              have p151 : (Int32.toInt z138) ≤ 1 := w142.2.2.2.2.2.2.2.1
              have p152 : ((Int32.toInt z135) ≤ (Int32.toInt x21)) := w142.2.2.2.2.2.2.2.2.1
              have p153 : (((Int32.toInt r141) = 0 ∧ 1 ≤ (Int32.toInt z134)) ∨ ((Int32.toInt r141) = 1 ∧ (Int32.toInt z134) = (Int32.toInt z17))) := w142.2.2.2.2.2.2.2.2.2
              rcases p153 with ⟨k154, k155⟩ | p153
              · skip
                exact r_zret 258 Rt dX12_flex1_258 (nz_n (by omega) (by omega)) (z134, z135, z136, z137, z138, f139, f140) (show 0 ≤ (Int32.toInt r141) ∧ (Int32.toInt r141) ≤ 1 ∧ 0 ≤ (Int32.toInt z134) ∧ (Int32.toInt z134) ≤ 9 ∧ 0 ≤ (Int32.toInt z135) ∧ (Int32.toInt z135) ≤ 400 ∧ 0 ≤ (Int32.toInt z138) ∧ (Int32.toInt z138) ≤ 1 ∧ ((Int32.toInt z135) ≤ (Int32.toInt x21)) ∧ (((Int32.toInt r141) = 0 ∧ 1 ≤ (Int32.toInt z134)) ∨ ((Int32.toInt r141) = 1 ∧ (Int32.toInt z134) = (Int32.toInt x19))) from ⟨(show _ ∧ _ from ⟨p144, p145⟩).1, (show _ ∧ _ from ⟨p144, p145⟩).2, (show _ ∧ _ from ⟨p146, p147⟩).1, (show _ ∧ _ from ⟨p146, p147⟩).2, (show _ ∧ _ from ⟨p148, p149⟩).1, (show _ ∧ _ from ⟨p148, p149⟩).2, (show _ ∧ _ from ⟨p150, p151⟩).1, (show _ ∧ _ from ⟨p150, p151⟩).2, (by first | omega | ((repeat' apply And.intro) <;> first | trivial | rfl | assumption | omega | decide | exact Or.inl rfl | exact Or.inr (Or.inl rfl) | exact Or.inr (Or.inr rfl) | exact Or.inr (Or.inr (by assumption)))), (by first | omega | ((repeat' apply And.intro) <;> first | trivial | rfl | assumption | omega | decide | exact Or.inl rfl | exact Or.inr (Or.inl rfl) | exact Or.inr (Or.inr rfl) | exact Or.inr (Or.inr (by assumption))))⟩) [1, 2, 3, 0] (by decide) rfl (Nat.le_of_ble_eq_true rfl) (Nat.le_of_ble_eq_true rfl)
              obtain ⟨k156, k157⟩ := p153
              exact r_zret 258 Rt dX12_flex1_258 (nz_n (by omega) (by omega)) (z134, z135, z136, z137, z138, f139, f140) (show 0 ≤ (Int32.toInt r141) ∧ (Int32.toInt r141) ≤ 1 ∧ 0 ≤ (Int32.toInt z134) ∧ (Int32.toInt z134) ≤ 9 ∧ 0 ≤ (Int32.toInt z135) ∧ (Int32.toInt z135) ≤ 400 ∧ 0 ≤ (Int32.toInt z138) ∧ (Int32.toInt z138) ≤ 1 ∧ ((Int32.toInt z135) ≤ (Int32.toInt x21)) ∧ (((Int32.toInt r141) = 0 ∧ 1 ≤ (Int32.toInt z134)) ∨ ((Int32.toInt r141) = 1 ∧ (Int32.toInt z134) = (Int32.toInt x19))) from ⟨(show _ ∧ _ from ⟨p144, p145⟩).1, (show _ ∧ _ from ⟨p144, p145⟩).2, (show _ ∧ _ from ⟨p146, p147⟩).1, (show _ ∧ _ from ⟨p146, p147⟩).2, (show _ ∧ _ from ⟨p148, p149⟩).1, (show _ ∧ _ from ⟨p148, p149⟩).2, (show _ ∧ _ from ⟨p150, p151⟩).1, (show _ ∧ _ from ⟨p150, p151⟩).2, (by first | omega | ((repeat' apply And.intro) <;> first | trivial | rfl | assumption | omega | decide | exact Or.inl rfl | exact Or.inr (Or.inl rfl) | exact Or.inr (Or.inr rfl) | exact Or.inr (Or.inr (by assumption)))), (by first | omega | ((repeat' apply And.intro) <;> first | trivial | rfl | assumption | omega | decide | exact Or.inl rfl | exact Or.inr (Or.inl rfl) | exact Or.inr (Or.inr rfl) | exact Or.inr (Or.inr (by assumption))))⟩) [1, 2, 3, 0] (by decide) rfl (Nat.le_of_ble_eq_true rfl) (Nat.le_of_ble_eq_true rfl)
            · skip
              have k158 : ¬ ((Int32.toInt z121) ≤ 0) := fun h_9 => c122 ((fa_le z121 0).mpr h_9)
              refine r_iconst 137 1 C dX12_flex1_137 (by decide) ?_
              refine r_goto 138 142 C dX12_flex1_138 (by decide) ?_
              refine r_istore 142 C dX12_flex1_142 [(9, .int 1), (7, .long z2), (5, .long z3), (3, .long y6), (1, .long y5), (0, .ref h0)] (by decide) rfl ?_
              refine r_aload_n 144 5 C dX12_flex1_144 rfl ?_
              refine r_get 145 C dX12_flex1_145 (k := 58) 1 rfl rfl hiX12 (by decide) rfl (mg 1 rfl) (Or.inl rfl) rfl ?_
              refine r_aload_n 148 5 C dX12_flex1_148 rfl ?_
              refine r_get 149 C dX12_flex1_149 (k := 61) 1 rfl rfl hiX12 (by decide) rfl (mg 3 rfl) (Or.inl rfl) rfl ?_
              refine r_bipush 152 6 C dX12_flex1_152 (by decide) ?_
              obtain ⟨z159, ez159⟩ : ∃ z_9, fm1 (Int32.toNatClampNeg 6) = z_9 := ⟨_, rfl⟩
              refine r_lald 154 z159 C dX12_flex1_154 0 rfl (vin (by decide)) ez159 ?_
              have gz159 := fb_rngL z159
              obtain ⟨z160, ez160⟩ : ∃ z_9, z19 + z159 = z_9 := ⟨_, rfl⟩
              have gz160 := fb_rngL z160
              refine r_ladd 155 z160 C dX12_flex1_155 ez160 ?_
              refine r_aload_n 156 5 C dX12_flex1_156 rfl ?_
              refine r_get 157 C dX12_flex1_157 (k := 61) 1 rfl rfl hiX12 (by decide) rfl (mg 3 rfl) (Or.inl rfl) rfl ?_
              refine r_bipush 160 8 C dX12_flex1_160 (by decide) ?_
              obtain ⟨z161, ez161⟩ : ∃ z_9, fm1 (Int32.toNatClampNeg 8) = z_9 := ⟨_, rfl⟩
              refine r_lald 162 z161 C dX12_flex1_162 0 rfl (vin (by decide)) ez161 ?_
              have gz161 := fb_rngL z161
              obtain ⟨z162, ez162⟩ : ∃ z_9, z160 + z161 = z_9 := ⟨_, rfl⟩
              have gz162 := fb_rngL z162
              refine r_ladd 163 z162 C dX12_flex1_163 ez162 ?_
              refine r_lstore 164 C dX12_flex1_164 [(10, .long z162), (9, .int 1), (7, .long z2), (5, .long z3), (3, .long y6), (1, .long y5), (0, .ref h0)] (by decide) rfl ?_
              refine r_aload_n 166 6 C dX12_flex1_166 rfl ?_
              refine r_get 167 C dX12_flex1_167 (k := 59) 1 rfl rfl hiX12 (by decide) rfl (mg 2 rfl) (Or.inl rfl) rfl ?_
              refine r_aload_n 170 6 C dX12_flex1_170 rfl ?_
              refine r_get 171 C dX12_flex1_171 (k := 61) 1 rfl rfl hiX12 (by decide) rfl (mg 3 rfl) (Or.inl rfl) rfl ?_
              refine r_bipush 174 7 C dX12_flex1_174 (by decide) ?_
              obtain ⟨z163, ez163⟩ : ∃ z_9, fm1 (Int32.toNatClampNeg 7) = z_9 := ⟨_, rfl⟩
              refine r_lald 176 z163 C dX12_flex1_176 0 rfl (vin (by decide)) ez163 ?_
              have gz163 := fb_rngL z163
              obtain ⟨z164, ez164⟩ : ∃ z_9, z20 + z163 = z_9 := ⟨_, rfl⟩
              have gz164 := fb_rngL z164
              refine r_ladd 177 z164 C dX12_flex1_177 ez164 ?_
              refine r_aload_n 178 6 C dX12_flex1_178 rfl ?_
              refine r_get 179 C dX12_flex1_179 (k := 61) 1 rfl rfl hiX12 (by decide) rfl (mg 3 rfl) (Or.inl rfl) rfl ?_
              refine r_bipush 182 9 C dX12_flex1_182 (by decide) ?_
              obtain ⟨z165, ez165⟩ : ∃ z_9, fm1 (Int32.toNatClampNeg 9) = z_9 := ⟨_, rfl⟩
              refine r_lald 184 z165 C dX12_flex1_184 0 rfl (vin (by decide)) ez165 ?_
              have gz165 := fb_rngL z165
              obtain ⟨z166, ez166⟩ : ∃ z_9, z164 + z165 = z_9 := ⟨_, rfl⟩
              have gz166 := fb_rngL z166
              refine r_ladd 185 z166 C dX12_flex1_185 ez166 ?_
              refine r_lstore 186 C dX12_flex1_186 [(12, .long z166), (10, .long z162), (9, .int 1), (7, .long z2), (5, .long z3), (3, .long y6), (1, .long y5), (0, .ref h0)] (by decide) rfl ?_
              refine r_aload_n 188 7 C dX12_flex1_188 rfl ?_
              refine r_aload_n 189 7 C dX12_flex1_189 rfl ?_
              refine r_get 190 C dX12_flex1_190 (k := 61) 1 rfl rfl hiX12 (by decide) rfl (mg 3 rfl) (Or.inl rfl) rfl ?_
              refine r_bipush 193 6 C dX12_flex1_193 (by decide) ?_
              refine r_lald 195 z159 C dX12_flex1_195 0 rfl (vin (by decide)) ez159 ?_
              refine r_aload_n 196 7 C dX12_flex1_196 rfl ?_
              refine r_get 197 C dX12_flex1_197 (k := 61) 1 rfl rfl hiX12 (by decide) rfl (mg 3 rfl) (Or.inl rfl) rfl ?_
              refine r_bipush 200 7 C dX12_flex1_200 (by decide) ?_
              refine r_lald 202 z163 C dX12_flex1_202 0 rfl (vin (by decide)) ez163 ?_
              refine r_aload_n 203 7 C dX12_flex1_203 rfl ?_
              refine r_get 204 C dX12_flex1_204 (k := 61) 1 rfl rfl hiX12 (by decide) rfl (mg 3 rfl) (Or.inl rfl) rfl ?_
              refine r_bipush 207 8 C dX12_flex1_207 (by decide) ?_
              refine r_lald 209 z161 C dX12_flex1_209 0 rfl (vin (by decide)) ez161 ?_
              refine r_aload_n 210 7 C dX12_flex1_210 rfl ?_
              refine r_get 211 C dX12_flex1_211 (k := 61) 1 rfl rfl hiX12 (by decide) rfl (mg 3 rfl) (Or.inl rfl) rfl ?_
              refine r_bipush 214 9 C dX12_flex1_214 (by decide) ?_
              refine r_lald 216 z165 C dX12_flex1_216 0 rfl (vin (by decide)) ez165 ?_
              refine r_iload 217 2 C dX12_flex1_217 rfl ?_
              refine r_if_eq_f 219 232 C dX12_flex1_219 (by decide) (by decide) ?_
              refine r_aload_n 222 7 C dX12_flex1_222 rfl ?_
              refine r_get 223 C dX12_flex1_223 (k := 61) 1 rfl rfl hiX12 (by decide) rfl (mg 3 rfl) (Or.inl rfl) rfl ?_
              refine r_bipush 226 10 C dX12_flex1_226 (by decide) ?_
              obtain ⟨z167, ez167⟩ : ∃ z_9, fm1 (Int32.toNatClampNeg 10) = z_9 := ⟨_, rfl⟩
              refine r_lald 228 z167 C dX12_flex1_228 0 rfl (vin (by decide)) ez167 ?_
              have gz167 := fb_rngL z167
              refine r_goto 229 236 C dX12_flex1_229 (by decide) ?_
              refine r_iload 236 2 C dX12_flex1_236 rfl ?_
              refine r_if_eq_f 238 248 C dX12_flex1_238 (by decide) (by decide) ?_
              refine r_lload_n 241 5 C dX12_flex1_241 rfl ?_
              refine r_lload 242 0 C dX12_flex1_242 rfl ?_
              obtain ⟨z168, ez168⟩ : ∃ z_9, y6 - z166 = z_9 := ⟨_, rfl⟩
              have gz168 := fb_rngL z168
              refine r_lsub 244 z168 C dX12_flex1_244 ez168 ?_
              refine r_goto 245 255 C dX12_flex1_245 (by decide) ?_
              refine r_callVi 255 C dX12_flex1_255 [] [(h0, .inr (11, [.ref h4, .int x0, .ref h5, .int x1, .int x2, .int x3, .ref h6, .ref h7, .ref h8, .ref h9, .int x4, .int x5, .int x6, .ref h10, .ref h11, .ref h12, .ref h13, .int x7, .int x8, .int x9, .long y0, .int x10, .int x11, .long y1, .long y2, .ref h14, .ref h15, .ref h16, .ref h17, .long y3, .int x12, .ref h18, .int x13, .int x14, .int x15, .int x16, .ref h19, .ref h20, .ref h21, .ref h22, .ref h23, .ref h24, .ref h25, .ref h26, .ref h27, .ref h28, .ref h29, .int x17, .int x18, .int z17, .int z18, .int x21, .int x22, .int x23, .long y4, .int x24, .ref h1, .ref h2, .long z19, .long z20, .int z21, .ref h3, .int x26, .ref h30, .ref h31, .ref h32, .ref h33, .int x27, .int x28, .int x29, .int x30, .ref h34, .ref h35, .int x31, .int x32, .ref h36])), (h1, .inl (gI g, 400, .inl f22)), (h2, .inl (gJ g, 2400, .inr (.inl f23)))] [(h3, .inl (gJ g, 48, .inr (.inl fm1)))] (fun sz => c114_X12_curve l g h0 h1 h2 z159 z163 z161 z165 z167 z168 h4 x0 h5 x1 x2 x3 h6 h7 h8 h9 x4 x5 x6 h10 h11 h12 h13 x7 x8 x9 y0 x10 x11 y1 y2 h14 h15 h16 h17 y3 x12 h18 x13 x14 x15 x16 h19 h20 h21 h22 h23 h24 h25 h26 h27 h28 h29 x17 x18 z17 z18 x21 x22 x23 y4 x24 z19 z20 z21 h3 x26 h30 h31 h32 h33 x27 x28 x29 x30 h34 h35 x31 x32 h36 f22 f23 i_x0 i_x1 i_x3 i_x6 i_x7 i_x10 i_x11 i_y1 i_y2 i_x12 i_x13 i_x14 i_x15 i_x16 i_x18 ⟨p29, p30⟩ ⟨p31, p32⟩ i_x21 i_x22 i_x24 ⟨p33, p34⟩ i_x26 i_x27 i_x28 i_x29 i_x30 i_x31 i_x32 (by show ((Int32.toInt z18) ≤ (Int32.toInt x21)); first | assumption | omega) sz) gX12_flex1_X12_curve rfl ⟨rfl, rfl⟩ 6 (by decide) ⟨Nat.le_of_ble_eq_true rfl, Nat.le_of_ble_eq_true rfl⟩ 1 rfl rfl [1, 2, 3] [0] rfl rfl (by decide) (by decide) (by decide) rfl rfl (Nat.le_of_ble_eq_true rfl) ⟨Nat.le_of_ble_eq_true rfl, Nat.le_of_ble_eq_true rfl⟩ (fun r176 u178 w177 => ?_)
              obtain ⟨z169, z170, z171, z172, z173, f174, f175⟩ := u178
              refine r_ws [(h3, .inl (gJ g, 48, .inr (.inl fm1))), (h0, .inr (11, [.ref h4, .int x0, .ref h5, .int x1, .int x2, .int x3, .ref h6, .ref h7, .ref h8, .ref h9, .int x4, .int x5, .int x6, .ref h10, .ref h11, .ref h12, .ref h13, .int x7, .int x8, .int x9, .long y0, .int x10, .int x11, .long y1, .long y2, .ref h14, .ref h15, .ref h16, .ref h17, .long y3, .int x12, .ref h18, .int x13, .int x14, .int x15, .int x16, .ref h19, .ref h20, .ref h21, .ref h22, .ref h23, .ref h24, .ref h25, .ref h26, .ref h27, .ref h28, .ref h29, .int x17, .int x18, .int z169, .int z170, .int x21, .int x22, .int x23, .long y4, .int x24, .ref h1, .ref h2, .long z171, .long z172, .int z173, .ref h3, .int x26, .ref h30, .ref h31, .ref h32, .ref h33, .int x27, .int x28, .int x29, .int x30, .ref h34, .ref h35, .int x31, .int x32, .ref h36])), (h1, .inl (gI g, 400, .inl f174)), (h2, .inl (gJ g, 2400, .inr (.inl f175)))] rfl ?_
              have gz171 := fb_rngL z171
              have gz172 := fb_rngL z172
              have p179 : 0 ≤ (Int32.toInt r176) := w177.1
              have p180 : (Int32.toInt r176) ≤ 1 := w177.2.1
              have p181 : 0 ≤ (Int32.toInt z169) := w177.2.2.1
              have p182 : (Int32.toInt z169) ≤ 9 := w177.2.2.2.1
              have p183 : 0 ≤ (Int32.toInt z170) := w177.2.2.2.2.1
              have p184 : (Int32.toInt z170) ≤ 400 := w177.2.2.2.2.2.1
              have p185 : 0 ≤ (Int32.toInt z173) := w177.2.2.2.2.2.2.1
              have p186 : (Int32.toInt z173) ≤ 1 := w177.2.2.2.2.2.2.2.1
              have p187 : ((Int32.toInt z170) ≤ (Int32.toInt x21)) := w177.2.2.2.2.2.2.2.2.1
              have p188 : (((Int32.toInt r176) = 0 ∧ 1 ≤ (Int32.toInt z169)) ∨ ((Int32.toInt r176) = 1 ∧ (Int32.toInt z169) = (Int32.toInt z17))) := w177.2.2.2.2.2.2.2.2.2
              rcases p188 with ⟨k189, k190⟩ | p188
              · skip
                exact r_zret 258 Rt dX12_flex1_258 (nz_n (by omega) (by omega)) (z169, z170, z171, z172, z173, f174, f175) (show 0 ≤ (Int32.toInt r176) ∧ (Int32.toInt r176) ≤ 1 ∧ 0 ≤ (Int32.toInt z169) ∧ (Int32.toInt z169) ≤ 9 ∧ 0 ≤ (Int32.toInt z170) ∧ (Int32.toInt z170) ≤ 400 ∧ 0 ≤ (Int32.toInt z173) ∧ (Int32.toInt z173) ≤ 1 ∧ ((Int32.toInt z170) ≤ (Int32.toInt x21)) ∧ (((Int32.toInt r176) = 0 ∧ 1 ≤ (Int32.toInt z169)) ∨ ((Int32.toInt r176) = 1 ∧ (Int32.toInt z169) = (Int32.toInt x19))) from ⟨(show _ ∧ _ from ⟨p179, p180⟩).1, (show _ ∧ _ from ⟨p179, p180⟩).2, (show _ ∧ _ from ⟨p181, p182⟩).1, (show _ ∧ _ from ⟨p181, p182⟩).2, (show _ ∧ _ from ⟨p183, p184⟩).1, (show _ ∧ _ from ⟨p183, p184⟩).2, (show _ ∧ _ from ⟨p185, p186⟩).1, (show _ ∧ _ from ⟨p185, p186⟩).2, (by first | omega | ((repeat' apply And.intro) <;> first | trivial | rfl | assumption | omega | decide | exact Or.inl rfl | exact Or.inr (Or.inl rfl) | exact Or.inr (Or.inr rfl) | exact Or.inr (Or.inr (by assumption)))), (by first | omega | ((repeat' apply And.intro) <;> first | trivial | rfl | assumption | omega | decide | exact Or.inl rfl | exact Or.inr (Or.inl rfl) | exact Or.inr (Or.inr rfl) | exact Or.inr (Or.inr (by assumption))))⟩) [1, 2, 3, 0] (by decide) rfl (Nat.le_of_ble_eq_true rfl) (Nat.le_of_ble_eq_true rfl)
              obtain ⟨k191, k192⟩ := p188
              exact r_zret 258 Rt dX12_flex1_258 (nz_n (by omega) (by omega)) (z169, z170, z171, z172, z173, f174, f175) (show 0 ≤ (Int32.toInt r176) ∧ (Int32.toInt r176) ≤ 1 ∧ 0 ≤ (Int32.toInt z169) ∧ (Int32.toInt z169) ≤ 9 ∧ 0 ≤ (Int32.toInt z170) ∧ (Int32.toInt z170) ≤ 400 ∧ 0 ≤ (Int32.toInt z173) ∧ (Int32.toInt z173) ≤ 1 ∧ ((Int32.toInt z170) ≤ (Int32.toInt x21)) ∧ (((Int32.toInt r176) = 0 ∧ 1 ≤ (Int32.toInt z169)) ∨ ((Int32.toInt r176) = 1 ∧ (Int32.toInt z169) = (Int32.toInt x19))) from ⟨(show _ ∧ _ from ⟨p179, p180⟩).1, (show _ ∧ _ from ⟨p179, p180⟩).2, (show _ ∧ _ from ⟨p181, p182⟩).1, (show _ ∧ _ from ⟨p181, p182⟩).2, (show _ ∧ _ from ⟨p183, p184⟩).1, (show _ ∧ _ from ⟨p183, p184⟩).2, (show _ ∧ _ from ⟨p185, p186⟩).1, (show _ ∧ _ from ⟨p185, p186⟩).2, (by first | omega | ((repeat' apply And.intro) <;> first | trivial | rfl | assumption | omega | decide | exact Or.inl rfl | exact Or.inr (Or.inl rfl) | exact Or.inr (Or.inr rfl) | exact Or.inr (Or.inr (by assumption)))), (by first | omega | ((repeat' apply And.intro) <;> first | trivial | rfl | assumption | omega | decide | exact Or.inl rfl | exact Or.inr (Or.inl rfl) | exact Or.inr (Or.inr rfl) | exact Or.inr (Or.inr (by assumption))))⟩) [1, 2, 3, 0] (by decide) rfl (Nat.le_of_ble_eq_true rfl) (Nat.le_of_ble_eq_true rfl)
        · skip
          have k193 : ¬ (0 ≤ (Int32.toInt z41)) := fun h_9 => c42 ((fa_le 0 z41).mpr h_9)
          refine r_lload 110 2 C dX12_flex1_110 rfl ?_
          obtain ⟨z194, ez194⟩ : ∃ z_9, -z3 = z_9 := ⟨_, rfl⟩
          have gz194 := fb_rngL z194
          refine r_lneg 112 z194 C dX12_flex1_112 ez194 ?_
          refine r_goto 113 118 C dX12_flex1_113 (by decide) ?_
          refine r_lload 118 1 C dX12_flex1_118 rfl ?_
          refine r_lconst 120 0 C dX12_flex1_120 (by decide) ?_
          obtain ⟨z195, ez195⟩ : ∃ z_9, lg_cmp z2 0 = z_9 := ⟨_, rfl⟩
          have l1z195 : (Int32.toInt z195) < 0 ↔ (Int64.toInt z2) < 0 := by rw [← ez195]; exact lgI1 z2 0
          have l2z195 : 0 < (Int32.toInt z195) ↔ 0 < (Int64.toInt z2) := by rw [← ez195]; exact lgI2 z2 0
          refine r_lcmp 121 z195 C dX12_flex1_121 ez195 ?_
          refine r_if_ge 122 131 C dX12_flex1_122 (by decide) (fun c196 => ?_) (fun c196 => ?_)
          · skip
            have k197 : 0 ≤ (Int32.toInt z195) := (fa_le 0 z195).mp c196
            refine r_lload 131 1 C dX12_flex1_131 rfl ?_
            obtain ⟨z198, ez198⟩ : ∃ z_9, lg_cmp z194 z2 = z_9 := ⟨_, rfl⟩
            have l1z198 : (Int32.toInt z198) < 0 ↔ (Int64.toInt z194) < (Int64.toInt z2) := by rw [← ez198]; exact lgI1 z194 z2
            have l2z198 : 0 < (Int32.toInt z198) ↔ (Int64.toInt z2) < (Int64.toInt z194) := by rw [← ez198]; exact lgI2 z194 z2
            refine r_lcmp 133 z198 C dX12_flex1_133 ez198 ?_
            refine r_if_le 134 141 C dX12_flex1_134 (by decide) (fun c199 => ?_) (fun c199 => ?_)
            · skip
              have k200 : (Int32.toInt z198) ≤ 0 := (fa_le z198 0).mp c199
              refine r_iconst 141 0 C dX12_flex1_141 (by decide) ?_
              refine r_istore 142 C dX12_flex1_142 [(9, .int 0), (7, .long z2), (5, .long z3), (3, .long y6), (1, .long y5), (0, .ref h0)] (by decide) rfl ?_
              refine r_aload_n 144 5 C dX12_flex1_144 rfl ?_
              refine r_get 145 C dX12_flex1_145 (k := 58) 1 rfl rfl hiX12 (by decide) rfl (mg 1 rfl) (Or.inl rfl) rfl ?_
              refine r_aload_n 148 5 C dX12_flex1_148 rfl ?_
              refine r_get 149 C dX12_flex1_149 (k := 61) 1 rfl rfl hiX12 (by decide) rfl (mg 3 rfl) (Or.inl rfl) rfl ?_
              refine r_bipush 152 6 C dX12_flex1_152 (by decide) ?_
              obtain ⟨z201, ez201⟩ : ∃ z_9, fm1 (Int32.toNatClampNeg 6) = z_9 := ⟨_, rfl⟩
              refine r_lald 154 z201 C dX12_flex1_154 0 rfl (vin (by decide)) ez201 ?_
              have gz201 := fb_rngL z201
              obtain ⟨z202, ez202⟩ : ∃ z_9, z19 + z201 = z_9 := ⟨_, rfl⟩
              have gz202 := fb_rngL z202
              refine r_ladd 155 z202 C dX12_flex1_155 ez202 ?_
              refine r_aload_n 156 5 C dX12_flex1_156 rfl ?_
              refine r_get 157 C dX12_flex1_157 (k := 61) 1 rfl rfl hiX12 (by decide) rfl (mg 3 rfl) (Or.inl rfl) rfl ?_
              refine r_bipush 160 8 C dX12_flex1_160 (by decide) ?_
              obtain ⟨z203, ez203⟩ : ∃ z_9, fm1 (Int32.toNatClampNeg 8) = z_9 := ⟨_, rfl⟩
              refine r_lald 162 z203 C dX12_flex1_162 0 rfl (vin (by decide)) ez203 ?_
              have gz203 := fb_rngL z203
              obtain ⟨z204, ez204⟩ : ∃ z_9, z202 + z203 = z_9 := ⟨_, rfl⟩
              have gz204 := fb_rngL z204
              refine r_ladd 163 z204 C dX12_flex1_163 ez204 ?_
              refine r_lstore 164 C dX12_flex1_164 [(10, .long z204), (9, .int 0), (7, .long z2), (5, .long z3), (3, .long y6), (1, .long y5), (0, .ref h0)] (by decide) rfl ?_
              refine r_aload_n 166 6 C dX12_flex1_166 rfl ?_
              refine r_get 167 C dX12_flex1_167 (k := 59) 1 rfl rfl hiX12 (by decide) rfl (mg 2 rfl) (Or.inl rfl) rfl ?_
              refine r_aload_n 170 6 C dX12_flex1_170 rfl ?_
              refine r_get 171 C dX12_flex1_171 (k := 61) 1 rfl rfl hiX12 (by decide) rfl (mg 3 rfl) (Or.inl rfl) rfl ?_
              refine r_bipush 174 7 C dX12_flex1_174 (by decide) ?_
              obtain ⟨z205, ez205⟩ : ∃ z_9, fm1 (Int32.toNatClampNeg 7) = z_9 := ⟨_, rfl⟩
              refine r_lald 176 z205 C dX12_flex1_176 0 rfl (vin (by decide)) ez205 ?_
              have gz205 := fb_rngL z205
              obtain ⟨z206, ez206⟩ : ∃ z_9, z20 + z205 = z_9 := ⟨_, rfl⟩
              have gz206 := fb_rngL z206
              refine r_ladd 177 z206 C dX12_flex1_177 ez206 ?_
              refine r_aload_n 178 6 C dX12_flex1_178 rfl ?_
              refine r_get 179 C dX12_flex1_179 (k := 61) 1 rfl rfl hiX12 (by decide) rfl (mg 3 rfl) (Or.inl rfl) rfl ?_
              refine r_bipush 182 9 C dX12_flex1_182 (by decide) ?_
              obtain ⟨z207, ez207⟩ : ∃ z_9, fm1 (Int32.toNatClampNeg 9) = z_9 := ⟨_, rfl⟩
              refine r_lald 184 z207 C dX12_flex1_184 0 rfl (vin (by decide)) ez207 ?_
              have gz207 := fb_rngL z207
              obtain ⟨z208, ez208⟩ : ∃ z_9, z206 + z207 = z_9 := ⟨_, rfl⟩
              have gz208 := fb_rngL z208
              refine r_ladd 185 z208 C dX12_flex1_185 ez208 ?_
              refine r_lstore 186 C dX12_flex1_186 [(12, .long z208), (10, .long z204), (9, .int 0), (7, .long z2), (5, .long z3), (3, .long y6), (1, .long y5), (0, .ref h0)] (by decide) rfl ?_
              refine r_aload_n 188 7 C dX12_flex1_188 rfl ?_
              refine r_aload_n 189 7 C dX12_flex1_189 rfl ?_
              refine r_get 190 C dX12_flex1_190 (k := 61) 1 rfl rfl hiX12 (by decide) rfl (mg 3 rfl) (Or.inl rfl) rfl ?_
              refine r_bipush 193 6 C dX12_flex1_193 (by decide) ?_
              refine r_lald 195 z201 C dX12_flex1_195 0 rfl (vin (by decide)) ez201 ?_
              refine r_aload_n 196 7 C dX12_flex1_196 rfl ?_
              refine r_get 197 C dX12_flex1_197 (k := 61) 1 rfl rfl hiX12 (by decide) rfl (mg 3 rfl) (Or.inl rfl) rfl ?_
              refine r_bipush 200 7 C dX12_flex1_200 (by decide) ?_
              refine r_lald 202 z205 C dX12_flex1_202 0 rfl (vin (by decide)) ez205 ?_
              refine r_aload_n 203 7 C dX12_flex1_203 rfl ?_
              refine r_get 204 C dX12_flex1_204 (k := 61) 1 rfl rfl hiX12 (by decide) rfl (mg 3 rfl) (Or.inl rfl) rfl ?_
              refine r_bipush 207 8 C dX12_flex1_207 (by decide) ?_
              refine r_lald 209 z203 C dX12_flex1_209 0 rfl (vin (by decide)) ez203 ?_
              refine r_aload_n 210 7 C dX12_flex1_210 rfl ?_
              refine r_get 211 C dX12_flex1_211 (k := 61) 1 rfl rfl hiX12 (by decide) rfl (mg 3 rfl) (Or.inl rfl) rfl ?_
              refine r_bipush 214 9 C dX12_flex1_214 (by decide) ?_
              refine r_lald 216 z207 C dX12_flex1_216 0 rfl (vin (by decide)) ez207 ?_
              refine r_iload 217 2 C dX12_flex1_217 rfl ?_
              refine r_if_eq_t 219 232 C dX12_flex1_219 (by decide) (by decide) ?_
              refine r_lload_n 232 6 C dX12_flex1_232 rfl ?_
              refine r_lload 233 1 C dX12_flex1_233 rfl ?_
              obtain ⟨z209, ez209⟩ : ∃ z_9, y5 - z204 = z_9 := ⟨_, rfl⟩
              have gz209 := fb_rngL z209
              refine r_lsub 235 z209 C dX12_flex1_235 ez209 ?_
              refine r_iload 236 2 C dX12_flex1_236 rfl ?_
              refine r_if_eq_t 238 248 C dX12_flex1_238 (by decide) (by decide) ?_
              refine r_aload_n 248 7 C dX12_flex1_248 rfl ?_
              refine r_get 249 C dX12_flex1_249 (k := 61) 1 rfl rfl hiX12 (by decide) rfl (mg 3 rfl) (Or.inl rfl) rfl ?_
              refine r_bipush 252 10 C dX12_flex1_252 (by decide) ?_
              obtain ⟨z210, ez210⟩ : ∃ z_9, fm1 (Int32.toNatClampNeg 10) = z_9 := ⟨_, rfl⟩
              refine r_lald 254 z210 C dX12_flex1_254 0 rfl (vin (by decide)) ez210 ?_
              have gz210 := fb_rngL z210
              refine r_callVi 255 C dX12_flex1_255 [] [(h0, .inr (11, [.ref h4, .int x0, .ref h5, .int x1, .int x2, .int x3, .ref h6, .ref h7, .ref h8, .ref h9, .int x4, .int x5, .int x6, .ref h10, .ref h11, .ref h12, .ref h13, .int x7, .int x8, .int x9, .long y0, .int x10, .int x11, .long y1, .long y2, .ref h14, .ref h15, .ref h16, .ref h17, .long y3, .int x12, .ref h18, .int x13, .int x14, .int x15, .int x16, .ref h19, .ref h20, .ref h21, .ref h22, .ref h23, .ref h24, .ref h25, .ref h26, .ref h27, .ref h28, .ref h29, .int x17, .int x18, .int z17, .int z18, .int x21, .int x22, .int x23, .long y4, .int x24, .ref h1, .ref h2, .long z19, .long z20, .int z21, .ref h3, .int x26, .ref h30, .ref h31, .ref h32, .ref h33, .int x27, .int x28, .int x29, .int x30, .ref h34, .ref h35, .int x31, .int x32, .ref h36])), (h1, .inl (gI g, 400, .inl f22)), (h2, .inl (gJ g, 2400, .inr (.inl f23)))] [(h3, .inl (gJ g, 48, .inr (.inl fm1)))] (fun sz => c114_X12_curve l g h0 h1 h2 z201 z205 z203 z207 z209 z210 h4 x0 h5 x1 x2 x3 h6 h7 h8 h9 x4 x5 x6 h10 h11 h12 h13 x7 x8 x9 y0 x10 x11 y1 y2 h14 h15 h16 h17 y3 x12 h18 x13 x14 x15 x16 h19 h20 h21 h22 h23 h24 h25 h26 h27 h28 h29 x17 x18 z17 z18 x21 x22 x23 y4 x24 z19 z20 z21 h3 x26 h30 h31 h32 h33 x27 x28 x29 x30 h34 h35 x31 x32 h36 f22 f23 i_x0 i_x1 i_x3 i_x6 i_x7 i_x10 i_x11 i_y1 i_y2 i_x12 i_x13 i_x14 i_x15 i_x16 i_x18 ⟨p29, p30⟩ ⟨p31, p32⟩ i_x21 i_x22 i_x24 ⟨p33, p34⟩ i_x26 i_x27 i_x28 i_x29 i_x30 i_x31 i_x32 (by show ((Int32.toInt z18) ≤ (Int32.toInt x21)); first | assumption | omega) sz) gX12_flex1_X12_curve rfl ⟨rfl, rfl⟩ 6 (by decide) ⟨Nat.le_of_ble_eq_true rfl, Nat.le_of_ble_eq_true rfl⟩ 1 rfl rfl [1, 2, 3] [0] rfl rfl (by decide) (by decide) (by decide) rfl rfl (Nat.le_of_ble_eq_true rfl) ⟨Nat.le_of_ble_eq_true rfl, Nat.le_of_ble_eq_true rfl⟩ (fun r218 u220 w219 => ?_)
              obtain ⟨z211, z212, z213, z214, z215, f216, f217⟩ := u220
              refine r_ws [(h3, .inl (gJ g, 48, .inr (.inl fm1))), (h0, .inr (11, [.ref h4, .int x0, .ref h5, .int x1, .int x2, .int x3, .ref h6, .ref h7, .ref h8, .ref h9, .int x4, .int x5, .int x6, .ref h10, .ref h11, .ref h12, .ref h13, .int x7, .int x8, .int x9, .long y0, .int x10, .int x11, .long y1, .long y2, .ref h14, .ref h15, .ref h16, .ref h17, .long y3, .int x12, .ref h18, .int x13, .int x14, .int x15, .int x16, .ref h19, .ref h20, .ref h21, .ref h22, .ref h23, .ref h24, .ref h25, .ref h26, .ref h27, .ref h28, .ref h29, .int x17, .int x18, .int z211, .int z212, .int x21, .int x22, .int x23, .long y4, .int x24, .ref h1, .ref h2, .long z213, .long z214, .int z215, .ref h3, .int x26, .ref h30, .ref h31, .ref h32, .ref h33, .int x27, .int x28, .int x29, .int x30, .ref h34, .ref h35, .int x31, .int x32, .ref h36])), (h1, .inl (gI g, 400, .inl f216)), (h2, .inl (gJ g, 2400, .inr (.inl f217)))] rfl ?_
              have gz213 := fb_rngL z213
              have gz214 := fb_rngL z214
              have p221 : 0 ≤ (Int32.toInt r218) := w219.1
              have p222 : (Int32.toInt r218) ≤ 1 := w219.2.1
              have p223 : 0 ≤ (Int32.toInt z211) := w219.2.2.1
              have p224 : (Int32.toInt z211) ≤ 9 := w219.2.2.2.1
              have p225 : 0 ≤ (Int32.toInt z212) := w219.2.2.2.2.1
              have p226 : (Int32.toInt z212) ≤ 400 := w219.2.2.2.2.2.1
              have p227 : 0 ≤ (Int32.toInt z215) := w219.2.2.2.2.2.2.1
              have p228 : (Int32.toInt z215) ≤ 1 := w219.2.2.2.2.2.2.2.1
              have p229 : ((Int32.toInt z212) ≤ (Int32.toInt x21)) := w219.2.2.2.2.2.2.2.2.1
              have p230 : (((Int32.toInt r218) = 0 ∧ 1 ≤ (Int32.toInt z211)) ∨ ((Int32.toInt r218) = 1 ∧ (Int32.toInt z211) = (Int32.toInt z17))) := w219.2.2.2.2.2.2.2.2.2
              rcases p230 with ⟨k231, k232⟩ | p230
              · skip
                exact r_zret 258 Rt dX12_flex1_258 (nz_n (by omega) (by omega)) (z211, z212, z213, z214, z215, f216, f217) (show 0 ≤ (Int32.toInt r218) ∧ (Int32.toInt r218) ≤ 1 ∧ 0 ≤ (Int32.toInt z211) ∧ (Int32.toInt z211) ≤ 9 ∧ 0 ≤ (Int32.toInt z212) ∧ (Int32.toInt z212) ≤ 400 ∧ 0 ≤ (Int32.toInt z215) ∧ (Int32.toInt z215) ≤ 1 ∧ ((Int32.toInt z212) ≤ (Int32.toInt x21)) ∧ (((Int32.toInt r218) = 0 ∧ 1 ≤ (Int32.toInt z211)) ∨ ((Int32.toInt r218) = 1 ∧ (Int32.toInt z211) = (Int32.toInt x19))) from ⟨(show _ ∧ _ from ⟨p221, p222⟩).1, (show _ ∧ _ from ⟨p221, p222⟩).2, (show _ ∧ _ from ⟨p223, p224⟩).1, (show _ ∧ _ from ⟨p223, p224⟩).2, (show _ ∧ _ from ⟨p225, p226⟩).1, (show _ ∧ _ from ⟨p225, p226⟩).2, (show _ ∧ _ from ⟨p227, p228⟩).1, (show _ ∧ _ from ⟨p227, p228⟩).2, (by first | omega | ((repeat' apply And.intro) <;> first | trivial | rfl | assumption | omega | decide | exact Or.inl rfl | exact Or.inr (Or.inl rfl) | exact Or.inr (Or.inr rfl) | exact Or.inr (Or.inr (by assumption)))), (by first | omega | ((repeat' apply And.intro) <;> first | trivial | rfl | assumption | omega | decide | exact Or.inl rfl | exact Or.inr (Or.inl rfl) | exact Or.inr (Or.inr rfl) | exact Or.inr (Or.inr (by assumption))))⟩) [1, 2, 3, 0] (by decide) rfl (Nat.le_of_ble_eq_true rfl) (Nat.le_of_ble_eq_true rfl)
              obtain ⟨k233, k234⟩ := p230
              exact r_zret 258 Rt dX12_flex1_258 (nz_n (by omega) (by omega)) (z211, z212, z213, z214, z215, f216, f217) (show 0 ≤ (Int32.toInt r218) ∧ (Int32.toInt r218) ≤ 1 ∧ 0 ≤ (Int32.toInt z211) ∧ (Int32.toInt z211) ≤ 9 ∧ 0 ≤ (Int32.toInt z212) ∧ (Int32.toInt z212) ≤ 400 ∧ 0 ≤ (Int32.toInt z215) ∧ (Int32.toInt z215) ≤ 1 ∧ ((Int32.toInt z212) ≤ (Int32.toInt x21)) ∧ (((Int32.toInt r218) = 0 ∧ 1 ≤ (Int32.toInt z211)) ∨ ((Int32.toInt r218) = 1 ∧ (Int32.toInt z211) = (Int32.toInt x19))) from ⟨(show _ ∧ _ from ⟨p221, p222⟩).1, (show _ ∧ _ from ⟨p221, p222⟩).2, (show _ ∧ _ from ⟨p223, p224⟩).1, (show _ ∧ _ from ⟨p223, p224⟩).2, (show _ ∧ _ from ⟨p225, p226⟩).1, (show _ ∧ _ from ⟨p225, p226⟩).2, (show _ ∧ _ from ⟨p227, p228⟩).1, (show _ ∧ _ from ⟨p227, p228⟩).2, (by first | omega | ((repeat' apply And.intro) <;> first | trivial | rfl | assumption | omega | decide | exact Or.inl rfl | exact Or.inr (Or.inl rfl) | exact Or.inr (Or.inr rfl) | exact Or.inr (Or.inr (by assumption)))), (by first | omega | ((repeat' apply And.intro) <;> first | trivial | rfl | assumption | omega | decide | exact Or.inl rfl | exact Or.inr (Or.inl rfl) | exact Or.inr (Or.inr rfl) | exact Or.inr (Or.inr (by assumption))))⟩) [1, 2, 3, 0] (by decide) rfl (Nat.le_of_ble_eq_true rfl) (Nat.le_of_ble_eq_true rfl)
            · skip
              have k235 : ¬ ((Int32.toInt z198) ≤ 0) := fun h_9 => c199 ((fa_le z198 0).mpr h_9)
              refine r_iconst 137 1 C dX12_flex1_137 (by decide) ?_
              refine r_goto 138 142 C dX12_flex1_138 (by decide) ?_
              refine r_istore 142 C dX12_flex1_142 [(9, .int 1), (7, .long z2), (5, .long z3), (3, .long y6), (1, .long y5), (0, .ref h0)] (by decide) rfl ?_
              refine r_aload_n 144 5 C dX12_flex1_144 rfl ?_
              refine r_get 145 C dX12_flex1_145 (k := 58) 1 rfl rfl hiX12 (by decide) rfl (mg 1 rfl) (Or.inl rfl) rfl ?_
              refine r_aload_n 148 5 C dX12_flex1_148 rfl ?_
              refine r_get 149 C dX12_flex1_149 (k := 61) 1 rfl rfl hiX12 (by decide) rfl (mg 3 rfl) (Or.inl rfl) rfl ?_
              refine r_bipush 152 6 C dX12_flex1_152 (by decide) ?_
              obtain ⟨z236, ez236⟩ : ∃ z_9, fm1 (Int32.toNatClampNeg 6) = z_9 := ⟨_, rfl⟩
              refine r_lald 154 z236 C dX12_flex1_154 0 rfl (vin (by decide)) ez236 ?_
              have gz236 := fb_rngL z236
              obtain ⟨z237, ez237⟩ : ∃ z_9, z19 + z236 = z_9 := ⟨_, rfl⟩
              have gz237 := fb_rngL z237
              refine r_ladd 155 z237 C dX12_flex1_155 ez237 ?_
              refine r_aload_n 156 5 C dX12_flex1_156 rfl ?_
              refine r_get 157 C dX12_flex1_157 (k := 61) 1 rfl rfl hiX12 (by decide) rfl (mg 3 rfl) (Or.inl rfl) rfl ?_
              refine r_bipush 160 8 C dX12_flex1_160 (by decide) ?_
              obtain ⟨z238, ez238⟩ : ∃ z_9, fm1 (Int32.toNatClampNeg 8) = z_9 := ⟨_, rfl⟩
              refine r_lald 162 z238 C dX12_flex1_162 0 rfl (vin (by decide)) ez238 ?_
              have gz238 := fb_rngL z238
              obtain ⟨z239, ez239⟩ : ∃ z_9, z237 + z238 = z_9 := ⟨_, rfl⟩
              have gz239 := fb_rngL z239
              refine r_ladd 163 z239 C dX12_flex1_163 ez239 ?_
              refine r_lstore 164 C dX12_flex1_164 [(10, .long z239), (9, .int 1), (7, .long z2), (5, .long z3), (3, .long y6), (1, .long y5), (0, .ref h0)] (by decide) rfl ?_
              refine r_aload_n 166 6 C dX12_flex1_166 rfl ?_
              refine r_get 167 C dX12_flex1_167 (k := 59) 1 rfl rfl hiX12 (by decide) rfl (mg 2 rfl) (Or.inl rfl) rfl ?_
              refine r_aload_n 170 6 C dX12_flex1_170 rfl ?_
              refine r_get 171 C dX12_flex1_171 (k := 61) 1 rfl rfl hiX12 (by decide) rfl (mg 3 rfl) (Or.inl rfl) rfl ?_
              refine r_bipush 174 7 C dX12_flex1_174 (by decide) ?_
              obtain ⟨z240, ez240⟩ : ∃ z_9, fm1 (Int32.toNatClampNeg 7) = z_9 := ⟨_, rfl⟩
              refine r_lald 176 z240 C dX12_flex1_176 0 rfl (vin (by decide)) ez240 ?_
              have gz240 := fb_rngL z240
              obtain ⟨z241, ez241⟩ : ∃ z_9, z20 + z240 = z_9 := ⟨_, rfl⟩
              have gz241 := fb_rngL z241
              refine r_ladd 177 z241 C dX12_flex1_177 ez241 ?_
              refine r_aload_n 178 6 C dX12_flex1_178 rfl ?_
              refine r_get 179 C dX12_flex1_179 (k := 61) 1 rfl rfl hiX12 (by decide) rfl (mg 3 rfl) (Or.inl rfl) rfl ?_
              refine r_bipush 182 9 C dX12_flex1_182 (by decide) ?_
              obtain ⟨z242, ez242⟩ : ∃ z_9, fm1 (Int32.toNatClampNeg 9) = z_9 := ⟨_, rfl⟩
              refine r_lald 184 z242 C dX12_flex1_184 0 rfl (vin (by decide)) ez242 ?_
              have gz242 := fb_rngL z242
              obtain ⟨z243, ez243⟩ : ∃ z_9, z241 + z242 = z_9 := ⟨_, rfl⟩
              have gz243 := fb_rngL z243
              refine r_ladd 185 z243 C dX12_flex1_185 ez243 ?_
              refine r_lstore 186 C dX12_flex1_186 [(12, .long z243), (10, .long z239), (9, .int 1), (7, .long z2), (5, .long z3), (3, .long y6), (1, .long y5), (0, .ref h0)] (by decide) rfl ?_
              refine r_aload_n 188 7 C dX12_flex1_188 rfl ?_
              refine r_aload_n 189 7 C dX12_flex1_189 rfl ?_
              refine r_get 190 C dX12_flex1_190 (k := 61) 1 rfl rfl hiX12 (by decide) rfl (mg 3 rfl) (Or.inl rfl) rfl ?_
              refine r_bipush 193 6 C dX12_flex1_193 (by decide) ?_
              refine r_lald 195 z236 C dX12_flex1_195 0 rfl (vin (by decide)) ez236 ?_
              refine r_aload_n 196 7 C dX12_flex1_196 rfl ?_
              refine r_get 197 C dX12_flex1_197 (k := 61) 1 rfl rfl hiX12 (by decide) rfl (mg 3 rfl) (Or.inl rfl) rfl ?_
              refine r_bipush 200 7 C dX12_flex1_200 (by decide) ?_
              refine r_lald 202 z240 C dX12_flex1_202 0 rfl (vin (by decide)) ez240 ?_
              refine r_aload_n 203 7 C dX12_flex1_203 rfl ?_
              refine r_get 204 C dX12_flex1_204 (k := 61) 1 rfl rfl hiX12 (by decide) rfl (mg 3 rfl) (Or.inl rfl) rfl ?_
              refine r_bipush 207 8 C dX12_flex1_207 (by decide) ?_
              refine r_lald 209 z238 C dX12_flex1_209 0 rfl (vin (by decide)) ez238 ?_
              refine r_aload_n 210 7 C dX12_flex1_210 rfl ?_
              refine r_get 211 C dX12_flex1_211 (k := 61) 1 rfl rfl hiX12 (by decide) rfl (mg 3 rfl) (Or.inl rfl) rfl ?_
              refine r_bipush 214 9 C dX12_flex1_214 (by decide) ?_
              refine r_lald 216 z242 C dX12_flex1_216 0 rfl (vin (by decide)) ez242 ?_
              refine r_iload 217 2 C dX12_flex1_217 rfl ?_
              refine r_if_eq_f 219 232 C dX12_flex1_219 (by decide) (by decide) ?_
              refine r_aload_n 222 7 C dX12_flex1_222 rfl ?_
              refine r_get 223 C dX12_flex1_223 (k := 61) 1 rfl rfl hiX12 (by decide) rfl (mg 3 rfl) (Or.inl rfl) rfl ?_
              refine r_bipush 226 10 C dX12_flex1_226 (by decide) ?_
              obtain ⟨z244, ez244⟩ : ∃ z_9, fm1 (Int32.toNatClampNeg 10) = z_9 := ⟨_, rfl⟩
              refine r_lald 228 z244 C dX12_flex1_228 0 rfl (vin (by decide)) ez244 ?_
              have gz244 := fb_rngL z244
              refine r_goto 229 236 C dX12_flex1_229 (by decide) ?_
              refine r_iload 236 2 C dX12_flex1_236 rfl ?_
              refine r_if_eq_f 238 248 C dX12_flex1_238 (by decide) (by decide) ?_
              refine r_lload_n 241 5 C dX12_flex1_241 rfl ?_
              refine r_lload 242 0 C dX12_flex1_242 rfl ?_
              obtain ⟨z245, ez245⟩ : ∃ z_9, y6 - z243 = z_9 := ⟨_, rfl⟩
              have gz245 := fb_rngL z245
              refine r_lsub 244 z245 C dX12_flex1_244 ez245 ?_
              refine r_goto 245 255 C dX12_flex1_245 (by decide) ?_
              refine r_callVi 255 C dX12_flex1_255 [] [(h0, .inr (11, [.ref h4, .int x0, .ref h5, .int x1, .int x2, .int x3, .ref h6, .ref h7, .ref h8, .ref h9, .int x4, .int x5, .int x6, .ref h10, .ref h11, .ref h12, .ref h13, .int x7, .int x8, .int x9, .long y0, .int x10, .int x11, .long y1, .long y2, .ref h14, .ref h15, .ref h16, .ref h17, .long y3, .int x12, .ref h18, .int x13, .int x14, .int x15, .int x16, .ref h19, .ref h20, .ref h21, .ref h22, .ref h23, .ref h24, .ref h25, .ref h26, .ref h27, .ref h28, .ref h29, .int x17, .int x18, .int z17, .int z18, .int x21, .int x22, .int x23, .long y4, .int x24, .ref h1, .ref h2, .long z19, .long z20, .int z21, .ref h3, .int x26, .ref h30, .ref h31, .ref h32, .ref h33, .int x27, .int x28, .int x29, .int x30, .ref h34, .ref h35, .int x31, .int x32, .ref h36])), (h1, .inl (gI g, 400, .inl f22)), (h2, .inl (gJ g, 2400, .inr (.inl f23)))] [(h3, .inl (gJ g, 48, .inr (.inl fm1)))] (fun sz => c114_X12_curve l g h0 h1 h2 z236 z240 z238 z242 z244 z245 h4 x0 h5 x1 x2 x3 h6 h7 h8 h9 x4 x5 x6 h10 h11 h12 h13 x7 x8 x9 y0 x10 x11 y1 y2 h14 h15 h16 h17 y3 x12 h18 x13 x14 x15 x16 h19 h20 h21 h22 h23 h24 h25 h26 h27 h28 h29 x17 x18 z17 z18 x21 x22 x23 y4 x24 z19 z20 z21 h3 x26 h30 h31 h32 h33 x27 x28 x29 x30 h34 h35 x31 x32 h36 f22 f23 i_x0 i_x1 i_x3 i_x6 i_x7 i_x10 i_x11 i_y1 i_y2 i_x12 i_x13 i_x14 i_x15 i_x16 i_x18 ⟨p29, p30⟩ ⟨p31, p32⟩ i_x21 i_x22 i_x24 ⟨p33, p34⟩ i_x26 i_x27 i_x28 i_x29 i_x30 i_x31 i_x32 (by show ((Int32.toInt z18) ≤ (Int32.toInt x21)); first | assumption | omega) sz) gX12_flex1_X12_curve rfl ⟨rfl, rfl⟩ 6 (by decide) ⟨Nat.le_of_ble_eq_true rfl, Nat.le_of_ble_eq_true rfl⟩ 1 rfl rfl [1, 2, 3] [0] rfl rfl (by decide) (by decide) (by decide) rfl rfl (Nat.le_of_ble_eq_true rfl) ⟨Nat.le_of_ble_eq_true rfl, Nat.le_of_ble_eq_true rfl⟩ (fun r253 u255 w254 => ?_)
              obtain ⟨z246, z247, z248, z249, z250, f251, f252⟩ := u255
              refine r_ws [(h3, .inl (gJ g, 48, .inr (.inl fm1))), (h0, .inr (11, [.ref h4, .int x0, .ref h5, .int x1, .int x2, .int x3, .ref h6, .ref h7, .ref h8, .ref h9, .int x4, .int x5, .int x6, .ref h10, .ref h11, .ref h12, .ref h13, .int x7, .int x8, .int x9, .long y0, .int x10, .int x11, .long y1, .long y2, .ref h14, .ref h15, .ref h16, .ref h17, .long y3, .int x12, .ref h18, .int x13, .int x14, .int x15, .int x16, .ref h19, .ref h20, .ref h21, .ref h22, .ref h23, .ref h24, .ref h25, .ref h26, .ref h27, .ref h28, .ref h29, .int x17, .int x18, .int z246, .int z247, .int x21, .int x22, .int x23, .long y4, .int x24, .ref h1, .ref h2, .long z248, .long z249, .int z250, .ref h3, .int x26, .ref h30, .ref h31, .ref h32, .ref h33, .int x27, .int x28, .int x29, .int x30, .ref h34, .ref h35, .int x31, .int x32, .ref h36])), (h1, .inl (gI g, 400, .inl f251)), (h2, .inl (gJ g, 2400, .inr (.inl f252)))] rfl ?_
              have gz248 := fb_rngL z248
              have gz249 := fb_rngL z249
              have p256 : 0 ≤ (Int32.toInt r253) := w254.1
              have p257 : (Int32.toInt r253) ≤ 1 := w254.2.1
              have p258 : 0 ≤ (Int32.toInt z246) := w254.2.2.1
              have p259 : (Int32.toInt z246) ≤ 9 := w254.2.2.2.1
              have p260 : 0 ≤ (Int32.toInt z247) := w254.2.2.2.2.1
              have p261 : (Int32.toInt z247) ≤ 400 := w254.2.2.2.2.2.1
              have p262 : 0 ≤ (Int32.toInt z250) := w254.2.2.2.2.2.2.1
              have p263 : (Int32.toInt z250) ≤ 1 := w254.2.2.2.2.2.2.2.1
              have p264 : ((Int32.toInt z247) ≤ (Int32.toInt x21)) := w254.2.2.2.2.2.2.2.2.1
              have p265 : (((Int32.toInt r253) = 0 ∧ 1 ≤ (Int32.toInt z246)) ∨ ((Int32.toInt r253) = 1 ∧ (Int32.toInt z246) = (Int32.toInt z17))) := w254.2.2.2.2.2.2.2.2.2
              rcases p265 with ⟨k266, k267⟩ | p265
              · skip
                exact r_zret 258 Rt dX12_flex1_258 (nz_n (by omega) (by omega)) (z246, z247, z248, z249, z250, f251, f252) (show 0 ≤ (Int32.toInt r253) ∧ (Int32.toInt r253) ≤ 1 ∧ 0 ≤ (Int32.toInt z246) ∧ (Int32.toInt z246) ≤ 9 ∧ 0 ≤ (Int32.toInt z247) ∧ (Int32.toInt z247) ≤ 400 ∧ 0 ≤ (Int32.toInt z250) ∧ (Int32.toInt z250) ≤ 1 ∧ ((Int32.toInt z247) ≤ (Int32.toInt x21)) ∧ (((Int32.toInt r253) = 0 ∧ 1 ≤ (Int32.toInt z246)) ∨ ((Int32.toInt r253) = 1 ∧ (Int32.toInt z246) = (Int32.toInt x19))) from ⟨(show _ ∧ _ from ⟨p256, p257⟩).1, (show _ ∧ _ from ⟨p256, p257⟩).2, (show _ ∧ _ from ⟨p258, p259⟩).1, (show _ ∧ _ from ⟨p258, p259⟩).2, (show _ ∧ _ from ⟨p260, p261⟩).1, (show _ ∧ _ from ⟨p260, p261⟩).2, (show _ ∧ _ from ⟨p262, p263⟩).1, (show _ ∧ _ from ⟨p262, p263⟩).2, (by first | omega | ((repeat' apply And.intro) <;> first | trivial | rfl | assumption | omega | decide | exact Or.inl rfl | exact Or.inr (Or.inl rfl) | exact Or.inr (Or.inr rfl) | exact Or.inr (Or.inr (by assumption)))), (by first | omega | ((repeat' apply And.intro) <;> first | trivial | rfl | assumption | omega | decide | exact Or.inl rfl | exact Or.inr (Or.inl rfl) | exact Or.inr (Or.inr rfl) | exact Or.inr (Or.inr (by assumption))))⟩) [1, 2, 3, 0] (by decide) rfl (Nat.le_of_ble_eq_true rfl) (Nat.le_of_ble_eq_true rfl)
              obtain ⟨k268, k269⟩ := p265
              exact r_zret 258 Rt dX12_flex1_258 (nz_n (by omega) (by omega)) (z246, z247, z248, z249, z250, f251, f252) (show 0 ≤ (Int32.toInt r253) ∧ (Int32.toInt r253) ≤ 1 ∧ 0 ≤ (Int32.toInt z246) ∧ (Int32.toInt z246) ≤ 9 ∧ 0 ≤ (Int32.toInt z247) ∧ (Int32.toInt z247) ≤ 400 ∧ 0 ≤ (Int32.toInt z250) ∧ (Int32.toInt z250) ≤ 1 ∧ ((Int32.toInt z247) ≤ (Int32.toInt x21)) ∧ (((Int32.toInt r253) = 0 ∧ 1 ≤ (Int32.toInt z246)) ∨ ((Int32.toInt r253) = 1 ∧ (Int32.toInt z246) = (Int32.toInt x19))) from ⟨(show _ ∧ _ from ⟨p256, p257⟩).1, (show _ ∧ _ from ⟨p256, p257⟩).2, (show _ ∧ _ from ⟨p258, p259⟩).1, (show _ ∧ _ from ⟨p258, p259⟩).2, (show _ ∧ _ from ⟨p260, p261⟩).1, (show _ ∧ _ from ⟨p260, p261⟩).2, (show _ ∧ _ from ⟨p262, p263⟩).1, (show _ ∧ _ from ⟨p262, p263⟩).2, (by first | omega | ((repeat' apply And.intro) <;> first | trivial | rfl | assumption | omega | decide | exact Or.inl rfl | exact Or.inr (Or.inl rfl) | exact Or.inr (Or.inr rfl) | exact Or.inr (Or.inr (by assumption)))), (by first | omega | ((repeat' apply And.intro) <;> first | trivial | rfl | assumption | omega | decide | exact Or.inl rfl | exact Or.inr (Or.inl rfl) | exact Or.inr (Or.inr rfl) | exact Or.inr (Or.inr (by assumption))))⟩) [1, 2, 3, 0] (by decide) rfl (Nat.le_of_ble_eq_true rfl) (Nat.le_of_ble_eq_true rfl)
          · skip
            have k270 : ¬ (0 ≤ (Int32.toInt z195)) := fun h_9 => c196 ((fa_le 0 z195).mpr h_9)
            refine r_lload 125 1 C dX12_flex1_125 rfl ?_
            obtain ⟨z271, ez271⟩ : ∃ z_9, -z2 = z_9 := ⟨_, rfl⟩
            have gz271 := fb_rngL z271
            refine r_lneg 127 z271 C dX12_flex1_127 ez271 ?_
            refine r_goto 128 133 C dX12_flex1_128 (by decide) ?_
            obtain ⟨z272, ez272⟩ : ∃ z_9, lg_cmp z194 z271 = z_9 := ⟨_, rfl⟩
            have l1z272 : (Int32.toInt z272) < 0 ↔ (Int64.toInt z194) < (Int64.toInt z271) := by rw [← ez272]; exact lgI1 z194 z271
            have l2z272 : 0 < (Int32.toInt z272) ↔ (Int64.toInt z271) < (Int64.toInt z194) := by rw [← ez272]; exact lgI2 z194 z271
            refine r_lcmp 133 z272 C dX12_flex1_133 ez272 ?_
            refine r_if_le 134 141 C dX12_flex1_134 (by decide) (fun c273 => ?_) (fun c273 => ?_)
            · skip
              have k274 : (Int32.toInt z272) ≤ 0 := (fa_le z272 0).mp c273
              refine r_iconst 141 0 C dX12_flex1_141 (by decide) ?_
              refine r_istore 142 C dX12_flex1_142 [(9, .int 0), (7, .long z2), (5, .long z3), (3, .long y6), (1, .long y5), (0, .ref h0)] (by decide) rfl ?_
              refine r_aload_n 144 5 C dX12_flex1_144 rfl ?_
              refine r_get 145 C dX12_flex1_145 (k := 58) 1 rfl rfl hiX12 (by decide) rfl (mg 1 rfl) (Or.inl rfl) rfl ?_
              refine r_aload_n 148 5 C dX12_flex1_148 rfl ?_
              refine r_get 149 C dX12_flex1_149 (k := 61) 1 rfl rfl hiX12 (by decide) rfl (mg 3 rfl) (Or.inl rfl) rfl ?_
              refine r_bipush 152 6 C dX12_flex1_152 (by decide) ?_
              obtain ⟨z275, ez275⟩ : ∃ z_9, fm1 (Int32.toNatClampNeg 6) = z_9 := ⟨_, rfl⟩
              refine r_lald 154 z275 C dX12_flex1_154 0 rfl (vin (by decide)) ez275 ?_
              have gz275 := fb_rngL z275
              obtain ⟨z276, ez276⟩ : ∃ z_9, z19 + z275 = z_9 := ⟨_, rfl⟩
              have gz276 := fb_rngL z276
              refine r_ladd 155 z276 C dX12_flex1_155 ez276 ?_
              refine r_aload_n 156 5 C dX12_flex1_156 rfl ?_
              refine r_get 157 C dX12_flex1_157 (k := 61) 1 rfl rfl hiX12 (by decide) rfl (mg 3 rfl) (Or.inl rfl) rfl ?_
              refine r_bipush 160 8 C dX12_flex1_160 (by decide) ?_
              obtain ⟨z277, ez277⟩ : ∃ z_9, fm1 (Int32.toNatClampNeg 8) = z_9 := ⟨_, rfl⟩
              refine r_lald 162 z277 C dX12_flex1_162 0 rfl (vin (by decide)) ez277 ?_
              have gz277 := fb_rngL z277
              obtain ⟨z278, ez278⟩ : ∃ z_9, z276 + z277 = z_9 := ⟨_, rfl⟩
              have gz278 := fb_rngL z278
              refine r_ladd 163 z278 C dX12_flex1_163 ez278 ?_
              refine r_lstore 164 C dX12_flex1_164 [(10, .long z278), (9, .int 0), (7, .long z2), (5, .long z3), (3, .long y6), (1, .long y5), (0, .ref h0)] (by decide) rfl ?_
              refine r_aload_n 166 6 C dX12_flex1_166 rfl ?_
              refine r_get 167 C dX12_flex1_167 (k := 59) 1 rfl rfl hiX12 (by decide) rfl (mg 2 rfl) (Or.inl rfl) rfl ?_
              refine r_aload_n 170 6 C dX12_flex1_170 rfl ?_
              refine r_get 171 C dX12_flex1_171 (k := 61) 1 rfl rfl hiX12 (by decide) rfl (mg 3 rfl) (Or.inl rfl) rfl ?_
              refine r_bipush 174 7 C dX12_flex1_174 (by decide) ?_
              obtain ⟨z279, ez279⟩ : ∃ z_9, fm1 (Int32.toNatClampNeg 7) = z_9 := ⟨_, rfl⟩
              refine r_lald 176 z279 C dX12_flex1_176 0 rfl (vin (by decide)) ez279 ?_
              have gz279 := fb_rngL z279
              obtain ⟨z280, ez280⟩ : ∃ z_9, z20 + z279 = z_9 := ⟨_, rfl⟩
              have gz280 := fb_rngL z280
              refine r_ladd 177 z280 C dX12_flex1_177 ez280 ?_
              refine r_aload_n 178 6 C dX12_flex1_178 rfl ?_
              refine r_get 179 C dX12_flex1_179 (k := 61) 1 rfl rfl hiX12 (by decide) rfl (mg 3 rfl) (Or.inl rfl) rfl ?_
              refine r_bipush 182 9 C dX12_flex1_182 (by decide) ?_
              obtain ⟨z281, ez281⟩ : ∃ z_9, fm1 (Int32.toNatClampNeg 9) = z_9 := ⟨_, rfl⟩
              refine r_lald 184 z281 C dX12_flex1_184 0 rfl (vin (by decide)) ez281 ?_
              have gz281 := fb_rngL z281
              obtain ⟨z282, ez282⟩ : ∃ z_9, z280 + z281 = z_9 := ⟨_, rfl⟩
              have gz282 := fb_rngL z282
              refine r_ladd 185 z282 C dX12_flex1_185 ez282 ?_
              refine r_lstore 186 C dX12_flex1_186 [(12, .long z282), (10, .long z278), (9, .int 0), (7, .long z2), (5, .long z3), (3, .long y6), (1, .long y5), (0, .ref h0)] (by decide) rfl ?_
              refine r_aload_n 188 7 C dX12_flex1_188 rfl ?_
              refine r_aload_n 189 7 C dX12_flex1_189 rfl ?_
              refine r_get 190 C dX12_flex1_190 (k := 61) 1 rfl rfl hiX12 (by decide) rfl (mg 3 rfl) (Or.inl rfl) rfl ?_
              refine r_bipush 193 6 C dX12_flex1_193 (by decide) ?_
              refine r_lald 195 z275 C dX12_flex1_195 0 rfl (vin (by decide)) ez275 ?_
              refine r_aload_n 196 7 C dX12_flex1_196 rfl ?_
              refine r_get 197 C dX12_flex1_197 (k := 61) 1 rfl rfl hiX12 (by decide) rfl (mg 3 rfl) (Or.inl rfl) rfl ?_
              refine r_bipush 200 7 C dX12_flex1_200 (by decide) ?_
              refine r_lald 202 z279 C dX12_flex1_202 0 rfl (vin (by decide)) ez279 ?_
              refine r_aload_n 203 7 C dX12_flex1_203 rfl ?_
              refine r_get 204 C dX12_flex1_204 (k := 61) 1 rfl rfl hiX12 (by decide) rfl (mg 3 rfl) (Or.inl rfl) rfl ?_
              refine r_bipush 207 8 C dX12_flex1_207 (by decide) ?_
              refine r_lald 209 z277 C dX12_flex1_209 0 rfl (vin (by decide)) ez277 ?_
              refine r_aload_n 210 7 C dX12_flex1_210 rfl ?_
              refine r_get 211 C dX12_flex1_211 (k := 61) 1 rfl rfl hiX12 (by decide) rfl (mg 3 rfl) (Or.inl rfl) rfl ?_
              refine r_bipush 214 9 C dX12_flex1_214 (by decide) ?_
              refine r_lald 216 z281 C dX12_flex1_216 0 rfl (vin (by decide)) ez281 ?_
              refine r_iload 217 2 C dX12_flex1_217 rfl ?_
              refine r_if_eq_t 219 232 C dX12_flex1_219 (by decide) (by decide) ?_
              refine r_lload_n 232 6 C dX12_flex1_232 rfl ?_
              refine r_lload 233 1 C dX12_flex1_233 rfl ?_
              obtain ⟨z283, ez283⟩ : ∃ z_9, y5 - z278 = z_9 := ⟨_, rfl⟩
              have gz283 := fb_rngL z283
              refine r_lsub 235 z283 C dX12_flex1_235 ez283 ?_
              refine r_iload 236 2 C dX12_flex1_236 rfl ?_
              refine r_if_eq_t 238 248 C dX12_flex1_238 (by decide) (by decide) ?_
              refine r_aload_n 248 7 C dX12_flex1_248 rfl ?_
              refine r_get 249 C dX12_flex1_249 (k := 61) 1 rfl rfl hiX12 (by decide) rfl (mg 3 rfl) (Or.inl rfl) rfl ?_
              refine r_bipush 252 10 C dX12_flex1_252 (by decide) ?_
              obtain ⟨z284, ez284⟩ : ∃ z_9, fm1 (Int32.toNatClampNeg 10) = z_9 := ⟨_, rfl⟩
              refine r_lald 254 z284 C dX12_flex1_254 0 rfl (vin (by decide)) ez284 ?_
              have gz284 := fb_rngL z284
              refine r_callVi 255 C dX12_flex1_255 [] [(h0, .inr (11, [.ref h4, .int x0, .ref h5, .int x1, .int x2, .int x3, .ref h6, .ref h7, .ref h8, .ref h9, .int x4, .int x5, .int x6, .ref h10, .ref h11, .ref h12, .ref h13, .int x7, .int x8, .int x9, .long y0, .int x10, .int x11, .long y1, .long y2, .ref h14, .ref h15, .ref h16, .ref h17, .long y3, .int x12, .ref h18, .int x13, .int x14, .int x15, .int x16, .ref h19, .ref h20, .ref h21, .ref h22, .ref h23, .ref h24, .ref h25, .ref h26, .ref h27, .ref h28, .ref h29, .int x17, .int x18, .int z17, .int z18, .int x21, .int x22, .int x23, .long y4, .int x24, .ref h1, .ref h2, .long z19, .long z20, .int z21, .ref h3, .int x26, .ref h30, .ref h31, .ref h32, .ref h33, .int x27, .int x28, .int x29, .int x30, .ref h34, .ref h35, .int x31, .int x32, .ref h36])), (h1, .inl (gI g, 400, .inl f22)), (h2, .inl (gJ g, 2400, .inr (.inl f23)))] [(h3, .inl (gJ g, 48, .inr (.inl fm1)))] (fun sz => c114_X12_curve l g h0 h1 h2 z275 z279 z277 z281 z283 z284 h4 x0 h5 x1 x2 x3 h6 h7 h8 h9 x4 x5 x6 h10 h11 h12 h13 x7 x8 x9 y0 x10 x11 y1 y2 h14 h15 h16 h17 y3 x12 h18 x13 x14 x15 x16 h19 h20 h21 h22 h23 h24 h25 h26 h27 h28 h29 x17 x18 z17 z18 x21 x22 x23 y4 x24 z19 z20 z21 h3 x26 h30 h31 h32 h33 x27 x28 x29 x30 h34 h35 x31 x32 h36 f22 f23 i_x0 i_x1 i_x3 i_x6 i_x7 i_x10 i_x11 i_y1 i_y2 i_x12 i_x13 i_x14 i_x15 i_x16 i_x18 ⟨p29, p30⟩ ⟨p31, p32⟩ i_x21 i_x22 i_x24 ⟨p33, p34⟩ i_x26 i_x27 i_x28 i_x29 i_x30 i_x31 i_x32 (by show ((Int32.toInt z18) ≤ (Int32.toInt x21)); first | assumption | omega) sz) gX12_flex1_X12_curve rfl ⟨rfl, rfl⟩ 6 (by decide) ⟨Nat.le_of_ble_eq_true rfl, Nat.le_of_ble_eq_true rfl⟩ 1 rfl rfl [1, 2, 3] [0] rfl rfl (by decide) (by decide) (by decide) rfl rfl (Nat.le_of_ble_eq_true rfl) ⟨Nat.le_of_ble_eq_true rfl, Nat.le_of_ble_eq_true rfl⟩ (fun r292 u294 w293 => ?_)
              obtain ⟨z285, z286, z287, z288, z289, f290, f291⟩ := u294
              refine r_ws [(h3, .inl (gJ g, 48, .inr (.inl fm1))), (h0, .inr (11, [.ref h4, .int x0, .ref h5, .int x1, .int x2, .int x3, .ref h6, .ref h7, .ref h8, .ref h9, .int x4, .int x5, .int x6, .ref h10, .ref h11, .ref h12, .ref h13, .int x7, .int x8, .int x9, .long y0, .int x10, .int x11, .long y1, .long y2, .ref h14, .ref h15, .ref h16, .ref h17, .long y3, .int x12, .ref h18, .int x13, .int x14, .int x15, .int x16, .ref h19, .ref h20, .ref h21, .ref h22, .ref h23, .ref h24, .ref h25, .ref h26, .ref h27, .ref h28, .ref h29, .int x17, .int x18, .int z285, .int z286, .int x21, .int x22, .int x23, .long y4, .int x24, .ref h1, .ref h2, .long z287, .long z288, .int z289, .ref h3, .int x26, .ref h30, .ref h31, .ref h32, .ref h33, .int x27, .int x28, .int x29, .int x30, .ref h34, .ref h35, .int x31, .int x32, .ref h36])), (h1, .inl (gI g, 400, .inl f290)), (h2, .inl (gJ g, 2400, .inr (.inl f291)))] rfl ?_
              have gz287 := fb_rngL z287
              have gz288 := fb_rngL z288
              have p295 : 0 ≤ (Int32.toInt r292) := w293.1
              have p296 : (Int32.toInt r292) ≤ 1 := w293.2.1
              have p297 : 0 ≤ (Int32.toInt z285) := w293.2.2.1
              have p298 : (Int32.toInt z285) ≤ 9 := w293.2.2.2.1
              have p299 : 0 ≤ (Int32.toInt z286) := w293.2.2.2.2.1
              have p300 : (Int32.toInt z286) ≤ 400 := w293.2.2.2.2.2.1
              have p301 : 0 ≤ (Int32.toInt z289) := w293.2.2.2.2.2.2.1
              have p302 : (Int32.toInt z289) ≤ 1 := w293.2.2.2.2.2.2.2.1
              have p303 : ((Int32.toInt z286) ≤ (Int32.toInt x21)) := w293.2.2.2.2.2.2.2.2.1
              have p304 : (((Int32.toInt r292) = 0 ∧ 1 ≤ (Int32.toInt z285)) ∨ ((Int32.toInt r292) = 1 ∧ (Int32.toInt z285) = (Int32.toInt z17))) := w293.2.2.2.2.2.2.2.2.2
              rcases p304 with ⟨k305, k306⟩ | p304
              · skip
                exact r_zret 258 Rt dX12_flex1_258 (nz_n (by omega) (by omega)) (z285, z286, z287, z288, z289, f290, f291) (show 0 ≤ (Int32.toInt r292) ∧ (Int32.toInt r292) ≤ 1 ∧ 0 ≤ (Int32.toInt z285) ∧ (Int32.toInt z285) ≤ 9 ∧ 0 ≤ (Int32.toInt z286) ∧ (Int32.toInt z286) ≤ 400 ∧ 0 ≤ (Int32.toInt z289) ∧ (Int32.toInt z289) ≤ 1 ∧ ((Int32.toInt z286) ≤ (Int32.toInt x21)) ∧ (((Int32.toInt r292) = 0 ∧ 1 ≤ (Int32.toInt z285)) ∨ ((Int32.toInt r292) = 1 ∧ (Int32.toInt z285) = (Int32.toInt x19))) from ⟨(show _ ∧ _ from ⟨p295, p296⟩).1, (show _ ∧ _ from ⟨p295, p296⟩).2, (show _ ∧ _ from ⟨p297, p298⟩).1, (show _ ∧ _ from ⟨p297, p298⟩).2, (show _ ∧ _ from ⟨p299, p300⟩).1, (show _ ∧ _ from ⟨p299, p300⟩).2, (show _ ∧ _ from ⟨p301, p302⟩).1, (show _ ∧ _ from ⟨p301, p302⟩).2, (by first | omega | ((repeat' apply And.intro) <;> first | trivial | rfl | assumption | omega | decide | exact Or.inl rfl | exact Or.inr (Or.inl rfl) | exact Or.inr (Or.inr rfl) | exact Or.inr (Or.inr (by assumption)))), (by first | omega | ((repeat' apply And.intro) <;> first | trivial | rfl | assumption | omega | decide | exact Or.inl rfl | exact Or.inr (Or.inl rfl) | exact Or.inr (Or.inr rfl) | exact Or.inr (Or.inr (by assumption))))⟩) [1, 2, 3, 0] (by decide) rfl (Nat.le_of_ble_eq_true rfl) (Nat.le_of_ble_eq_true rfl)
              obtain ⟨k307, k308⟩ := p304
              exact r_zret 258 Rt dX12_flex1_258 (nz_n (by omega) (by omega)) (z285, z286, z287, z288, z289, f290, f291) (show 0 ≤ (Int32.toInt r292) ∧ (Int32.toInt r292) ≤ 1 ∧ 0 ≤ (Int32.toInt z285) ∧ (Int32.toInt z285) ≤ 9 ∧ 0 ≤ (Int32.toInt z286) ∧ (Int32.toInt z286) ≤ 400 ∧ 0 ≤ (Int32.toInt z289) ∧ (Int32.toInt z289) ≤ 1 ∧ ((Int32.toInt z286) ≤ (Int32.toInt x21)) ∧ (((Int32.toInt r292) = 0 ∧ 1 ≤ (Int32.toInt z285)) ∨ ((Int32.toInt r292) = 1 ∧ (Int32.toInt z285) = (Int32.toInt x19))) from ⟨(show _ ∧ _ from ⟨p295, p296⟩).1, (show _ ∧ _ from ⟨p295, p296⟩).2, (show _ ∧ _ from ⟨p297, p298⟩).1, (show _ ∧ _ from ⟨p297, p298⟩).2, (show _ ∧ _ from ⟨p299, p300⟩).1, (show _ ∧ _ from ⟨p299, p300⟩).2, (show _ ∧ _ from ⟨p301, p302⟩).1, (show _ ∧ _ from ⟨p301, p302⟩).2, (by first | omega | ((repeat' apply And.intro) <;> first | trivial | rfl | assumption | omega | decide | exact Or.inl rfl | exact Or.inr (Or.inl rfl) | exact Or.inr (Or.inr rfl) | exact Or.inr (Or.inr (by assumption)))), (by first | omega | ((repeat' apply And.intro) <;> first | trivial | rfl | assumption | omega | decide | exact Or.inl rfl | exact Or.inr (Or.inl rfl) | exact Or.inr (Or.inr rfl) | exact Or.inr (Or.inr (by assumption))))⟩) [1, 2, 3, 0] (by decide) rfl (Nat.le_of_ble_eq_true rfl) (Nat.le_of_ble_eq_true rfl)
            · skip
              have k309 : ¬ ((Int32.toInt z272) ≤ 0) := fun h_9 => c273 ((fa_le z272 0).mpr h_9)
              refine r_iconst 137 1 C dX12_flex1_137 (by decide) ?_
              refine r_goto 138 142 C dX12_flex1_138 (by decide) ?_
              refine r_istore 142 C dX12_flex1_142 [(9, .int 1), (7, .long z2), (5, .long z3), (3, .long y6), (1, .long y5), (0, .ref h0)] (by decide) rfl ?_
              refine r_aload_n 144 5 C dX12_flex1_144 rfl ?_
              refine r_get 145 C dX12_flex1_145 (k := 58) 1 rfl rfl hiX12 (by decide) rfl (mg 1 rfl) (Or.inl rfl) rfl ?_
              refine r_aload_n 148 5 C dX12_flex1_148 rfl ?_
              refine r_get 149 C dX12_flex1_149 (k := 61) 1 rfl rfl hiX12 (by decide) rfl (mg 3 rfl) (Or.inl rfl) rfl ?_
              refine r_bipush 152 6 C dX12_flex1_152 (by decide) ?_
              obtain ⟨z310, ez310⟩ : ∃ z_9, fm1 (Int32.toNatClampNeg 6) = z_9 := ⟨_, rfl⟩
              refine r_lald 154 z310 C dX12_flex1_154 0 rfl (vin (by decide)) ez310 ?_
              have gz310 := fb_rngL z310
              obtain ⟨z311, ez311⟩ : ∃ z_9, z19 + z310 = z_9 := ⟨_, rfl⟩
              have gz311 := fb_rngL z311
              refine r_ladd 155 z311 C dX12_flex1_155 ez311 ?_
              refine r_aload_n 156 5 C dX12_flex1_156 rfl ?_
              refine r_get 157 C dX12_flex1_157 (k := 61) 1 rfl rfl hiX12 (by decide) rfl (mg 3 rfl) (Or.inl rfl) rfl ?_
              refine r_bipush 160 8 C dX12_flex1_160 (by decide) ?_
              obtain ⟨z312, ez312⟩ : ∃ z_9, fm1 (Int32.toNatClampNeg 8) = z_9 := ⟨_, rfl⟩
              refine r_lald 162 z312 C dX12_flex1_162 0 rfl (vin (by decide)) ez312 ?_
              have gz312 := fb_rngL z312
              obtain ⟨z313, ez313⟩ : ∃ z_9, z311 + z312 = z_9 := ⟨_, rfl⟩
              have gz313 := fb_rngL z313
              refine r_ladd 163 z313 C dX12_flex1_163 ez313 ?_
              refine r_lstore 164 C dX12_flex1_164 [(10, .long z313), (9, .int 1), (7, .long z2), (5, .long z3), (3, .long y6), (1, .long y5), (0, .ref h0)] (by decide) rfl ?_
              refine r_aload_n 166 6 C dX12_flex1_166 rfl ?_
              refine r_get 167 C dX12_flex1_167 (k := 59) 1 rfl rfl hiX12 (by decide) rfl (mg 2 rfl) (Or.inl rfl) rfl ?_
              refine r_aload_n 170 6 C dX12_flex1_170 rfl ?_
              refine r_get 171 C dX12_flex1_171 (k := 61) 1 rfl rfl hiX12 (by decide) rfl (mg 3 rfl) (Or.inl rfl) rfl ?_
              refine r_bipush 174 7 C dX12_flex1_174 (by decide) ?_
              obtain ⟨z314, ez314⟩ : ∃ z_9, fm1 (Int32.toNatClampNeg 7) = z_9 := ⟨_, rfl⟩
              refine r_lald 176 z314 C dX12_flex1_176 0 rfl (vin (by decide)) ez314 ?_
              have gz314 := fb_rngL z314
              obtain ⟨z315, ez315⟩ : ∃ z_9, z20 + z314 = z_9 := ⟨_, rfl⟩
              have gz315 := fb_rngL z315
              refine r_ladd 177 z315 C dX12_flex1_177 ez315 ?_
              refine r_aload_n 178 6 C dX12_flex1_178 rfl ?_
              refine r_get 179 C dX12_flex1_179 (k := 61) 1 rfl rfl hiX12 (by decide) rfl (mg 3 rfl) (Or.inl rfl) rfl ?_
              refine r_bipush 182 9 C dX12_flex1_182 (by decide) ?_
              obtain ⟨z316, ez316⟩ : ∃ z_9, fm1 (Int32.toNatClampNeg 9) = z_9 := ⟨_, rfl⟩
              refine r_lald 184 z316 C dX12_flex1_184 0 rfl (vin (by decide)) ez316 ?_
              have gz316 := fb_rngL z316
              obtain ⟨z317, ez317⟩ : ∃ z_9, z315 + z316 = z_9 := ⟨_, rfl⟩
              have gz317 := fb_rngL z317
              refine r_ladd 185 z317 C dX12_flex1_185 ez317 ?_
              refine r_lstore 186 C dX12_flex1_186 [(12, .long z317), (10, .long z313), (9, .int 1), (7, .long z2), (5, .long z3), (3, .long y6), (1, .long y5), (0, .ref h0)] (by decide) rfl ?_
              refine r_aload_n 188 7 C dX12_flex1_188 rfl ?_
              refine r_aload_n 189 7 C dX12_flex1_189 rfl ?_
              refine r_get 190 C dX12_flex1_190 (k := 61) 1 rfl rfl hiX12 (by decide) rfl (mg 3 rfl) (Or.inl rfl) rfl ?_
              refine r_bipush 193 6 C dX12_flex1_193 (by decide) ?_
              refine r_lald 195 z310 C dX12_flex1_195 0 rfl (vin (by decide)) ez310 ?_
              refine r_aload_n 196 7 C dX12_flex1_196 rfl ?_
              refine r_get 197 C dX12_flex1_197 (k := 61) 1 rfl rfl hiX12 (by decide) rfl (mg 3 rfl) (Or.inl rfl) rfl ?_
              refine r_bipush 200 7 C dX12_flex1_200 (by decide) ?_
              refine r_lald 202 z314 C dX12_flex1_202 0 rfl (vin (by decide)) ez314 ?_
              refine r_aload_n 203 7 C dX12_flex1_203 rfl ?_
              refine r_get 204 C dX12_flex1_204 (k := 61) 1 rfl rfl hiX12 (by decide) rfl (mg 3 rfl) (Or.inl rfl) rfl ?_
              refine r_bipush 207 8 C dX12_flex1_207 (by decide) ?_
              refine r_lald 209 z312 C dX12_flex1_209 0 rfl (vin (by decide)) ez312 ?_
              refine r_aload_n 210 7 C dX12_flex1_210 rfl ?_
              refine r_get 211 C dX12_flex1_211 (k := 61) 1 rfl rfl hiX12 (by decide) rfl (mg 3 rfl) (Or.inl rfl) rfl ?_
              refine r_bipush 214 9 C dX12_flex1_214 (by decide) ?_
              refine r_lald 216 z316 C dX12_flex1_216 0 rfl (vin (by decide)) ez316 ?_
              refine r_iload 217 2 C dX12_flex1_217 rfl ?_
              refine r_if_eq_f 219 232 C dX12_flex1_219 (by decide) (by decide) ?_
              refine r_aload_n 222 7 C dX12_flex1_222 rfl ?_
              refine r_get 223 C dX12_flex1_223 (k := 61) 1 rfl rfl hiX12 (by decide) rfl (mg 3 rfl) (Or.inl rfl) rfl ?_
              refine r_bipush 226 10 C dX12_flex1_226 (by decide) ?_
              obtain ⟨z318, ez318⟩ : ∃ z_9, fm1 (Int32.toNatClampNeg 10) = z_9 := ⟨_, rfl⟩
              refine r_lald 228 z318 C dX12_flex1_228 0 rfl (vin (by decide)) ez318 ?_
              have gz318 := fb_rngL z318
              refine r_goto 229 236 C dX12_flex1_229 (by decide) ?_
              refine r_iload 236 2 C dX12_flex1_236 rfl ?_
              refine r_if_eq_f 238 248 C dX12_flex1_238 (by decide) (by decide) ?_
              refine r_lload_n 241 5 C dX12_flex1_241 rfl ?_
              refine r_lload 242 0 C dX12_flex1_242 rfl ?_
              obtain ⟨z319, ez319⟩ : ∃ z_9, y6 - z317 = z_9 := ⟨_, rfl⟩
              have gz319 := fb_rngL z319
              refine r_lsub 244 z319 C dX12_flex1_244 ez319 ?_
              refine r_goto 245 255 C dX12_flex1_245 (by decide) ?_
              refine r_callVi 255 C dX12_flex1_255 [] [(h0, .inr (11, [.ref h4, .int x0, .ref h5, .int x1, .int x2, .int x3, .ref h6, .ref h7, .ref h8, .ref h9, .int x4, .int x5, .int x6, .ref h10, .ref h11, .ref h12, .ref h13, .int x7, .int x8, .int x9, .long y0, .int x10, .int x11, .long y1, .long y2, .ref h14, .ref h15, .ref h16, .ref h17, .long y3, .int x12, .ref h18, .int x13, .int x14, .int x15, .int x16, .ref h19, .ref h20, .ref h21, .ref h22, .ref h23, .ref h24, .ref h25, .ref h26, .ref h27, .ref h28, .ref h29, .int x17, .int x18, .int z17, .int z18, .int x21, .int x22, .int x23, .long y4, .int x24, .ref h1, .ref h2, .long z19, .long z20, .int z21, .ref h3, .int x26, .ref h30, .ref h31, .ref h32, .ref h33, .int x27, .int x28, .int x29, .int x30, .ref h34, .ref h35, .int x31, .int x32, .ref h36])), (h1, .inl (gI g, 400, .inl f22)), (h2, .inl (gJ g, 2400, .inr (.inl f23)))] [(h3, .inl (gJ g, 48, .inr (.inl fm1)))] (fun sz => c114_X12_curve l g h0 h1 h2 z310 z314 z312 z316 z318 z319 h4 x0 h5 x1 x2 x3 h6 h7 h8 h9 x4 x5 x6 h10 h11 h12 h13 x7 x8 x9 y0 x10 x11 y1 y2 h14 h15 h16 h17 y3 x12 h18 x13 x14 x15 x16 h19 h20 h21 h22 h23 h24 h25 h26 h27 h28 h29 x17 x18 z17 z18 x21 x22 x23 y4 x24 z19 z20 z21 h3 x26 h30 h31 h32 h33 x27 x28 x29 x30 h34 h35 x31 x32 h36 f22 f23 i_x0 i_x1 i_x3 i_x6 i_x7 i_x10 i_x11 i_y1 i_y2 i_x12 i_x13 i_x14 i_x15 i_x16 i_x18 ⟨p29, p30⟩ ⟨p31, p32⟩ i_x21 i_x22 i_x24 ⟨p33, p34⟩ i_x26 i_x27 i_x28 i_x29 i_x30 i_x31 i_x32 (by show ((Int32.toInt z18) ≤ (Int32.toInt x21)); first | assumption | omega) sz) gX12_flex1_X12_curve rfl ⟨rfl, rfl⟩ 6 (by decide) ⟨Nat.le_of_ble_eq_true rfl, Nat.le_of_ble_eq_true rfl⟩ 1 rfl rfl [1, 2, 3] [0] rfl rfl (by decide) (by decide) (by decide) rfl rfl (Nat.le_of_ble_eq_true rfl) ⟨Nat.le_of_ble_eq_true rfl, Nat.le_of_ble_eq_true rfl⟩ (fun r327 u329 w328 => ?_)
              obtain ⟨z320, z321, z322, z323, z324, f325, f326⟩ := u329
              refine r_ws [(h3, .inl (gJ g, 48, .inr (.inl fm1))), (h0, .inr (11, [.ref h4, .int x0, .ref h5, .int x1, .int x2, .int x3, .ref h6, .ref h7, .ref h8, .ref h9, .int x4, .int x5, .int x6, .ref h10, .ref h11, .ref h12, .ref h13, .int x7, .int x8, .int x9, .long y0, .int x10, .int x11, .long y1, .long y2, .ref h14, .ref h15, .ref h16, .ref h17, .long y3, .int x12, .ref h18, .int x13, .int x14, .int x15, .int x16, .ref h19, .ref h20, .ref h21, .ref h22, .ref h23, .ref h24, .ref h25, .ref h26, .ref h27, .ref h28, .ref h29, .int x17, .int x18, .int z320, .int z321, .int x21, .int x22, .int x23, .long y4, .int x24, .ref h1, .ref h2, .long z322, .long z323, .int z324, .ref h3, .int x26, .ref h30, .ref h31, .ref h32, .ref h33, .int x27, .int x28, .int x29, .int x30, .ref h34, .ref h35, .int x31, .int x32, .ref h36])), (h1, .inl (gI g, 400, .inl f325)), (h2, .inl (gJ g, 2400, .inr (.inl f326)))] rfl ?_
              have gz322 := fb_rngL z322
              have gz323 := fb_rngL z323
              have p330 : 0 ≤ (Int32.toInt r327) := w328.1
              have p331 : (Int32.toInt r327) ≤ 1 := w328.2.1
              have p332 : 0 ≤ (Int32.toInt z320) := w328.2.2.1
              have p333 : (Int32.toInt z320) ≤ 9 := w328.2.2.2.1
              have p334 : 0 ≤ (Int32.toInt z321) := w328.2.2.2.2.1
              have p335 : (Int32.toInt z321) ≤ 400 := w328.2.2.2.2.2.1
              have p336 : 0 ≤ (Int32.toInt z324) := w328.2.2.2.2.2.2.1
              have p337 : (Int32.toInt z324) ≤ 1 := w328.2.2.2.2.2.2.2.1
              have p338 : ((Int32.toInt z321) ≤ (Int32.toInt x21)) := w328.2.2.2.2.2.2.2.2.1
              have p339 : (((Int32.toInt r327) = 0 ∧ 1 ≤ (Int32.toInt z320)) ∨ ((Int32.toInt r327) = 1 ∧ (Int32.toInt z320) = (Int32.toInt z17))) := w328.2.2.2.2.2.2.2.2.2
              rcases p339 with ⟨k340, k341⟩ | p339
              · skip
                exact r_zret 258 Rt dX12_flex1_258 (nz_n (by omega) (by omega)) (z320, z321, z322, z323, z324, f325, f326) (show 0 ≤ (Int32.toInt r327) ∧ (Int32.toInt r327) ≤ 1 ∧ 0 ≤ (Int32.toInt z320) ∧ (Int32.toInt z320) ≤ 9 ∧ 0 ≤ (Int32.toInt z321) ∧ (Int32.toInt z321) ≤ 400 ∧ 0 ≤ (Int32.toInt z324) ∧ (Int32.toInt z324) ≤ 1 ∧ ((Int32.toInt z321) ≤ (Int32.toInt x21)) ∧ (((Int32.toInt r327) = 0 ∧ 1 ≤ (Int32.toInt z320)) ∨ ((Int32.toInt r327) = 1 ∧ (Int32.toInt z320) = (Int32.toInt x19))) from ⟨(show _ ∧ _ from ⟨p330, p331⟩).1, (show _ ∧ _ from ⟨p330, p331⟩).2, (show _ ∧ _ from ⟨p332, p333⟩).1, (show _ ∧ _ from ⟨p332, p333⟩).2, (show _ ∧ _ from ⟨p334, p335⟩).1, (show _ ∧ _ from ⟨p334, p335⟩).2, (show _ ∧ _ from ⟨p336, p337⟩).1, (show _ ∧ _ from ⟨p336, p337⟩).2, (by first | omega | ((repeat' apply And.intro) <;> first | trivial | rfl | assumption | omega | decide | exact Or.inl rfl | exact Or.inr (Or.inl rfl) | exact Or.inr (Or.inr rfl) | exact Or.inr (Or.inr (by assumption)))), (by first | omega | ((repeat' apply And.intro) <;> first | trivial | rfl | assumption | omega | decide | exact Or.inl rfl | exact Or.inr (Or.inl rfl) | exact Or.inr (Or.inr rfl) | exact Or.inr (Or.inr (by assumption))))⟩) [1, 2, 3, 0] (by decide) rfl (Nat.le_of_ble_eq_true rfl) (Nat.le_of_ble_eq_true rfl)
              obtain ⟨k342, k343⟩ := p339
              exact r_zret 258 Rt dX12_flex1_258 (nz_n (by omega) (by omega)) (z320, z321, z322, z323, z324, f325, f326) (show 0 ≤ (Int32.toInt r327) ∧ (Int32.toInt r327) ≤ 1 ∧ 0 ≤ (Int32.toInt z320) ∧ (Int32.toInt z320) ≤ 9 ∧ 0 ≤ (Int32.toInt z321) ∧ (Int32.toInt z321) ≤ 400 ∧ 0 ≤ (Int32.toInt z324) ∧ (Int32.toInt z324) ≤ 1 ∧ ((Int32.toInt z321) ≤ (Int32.toInt x21)) ∧ (((Int32.toInt r327) = 0 ∧ 1 ≤ (Int32.toInt z320)) ∨ ((Int32.toInt r327) = 1 ∧ (Int32.toInt z320) = (Int32.toInt x19))) from ⟨(show _ ∧ _ from ⟨p330, p331⟩).1, (show _ ∧ _ from ⟨p330, p331⟩).2, (show _ ∧ _ from ⟨p332, p333⟩).1, (show _ ∧ _ from ⟨p332, p333⟩).2, (show _ ∧ _ from ⟨p334, p335⟩).1, (show _ ∧ _ from ⟨p334, p335⟩).2, (show _ ∧ _ from ⟨p336, p337⟩).1, (show _ ∧ _ from ⟨p336, p337⟩).2, (by first | omega | ((repeat' apply And.intro) <;> first | trivial | rfl | assumption | omega | decide | exact Or.inl rfl | exact Or.inr (Or.inl rfl) | exact Or.inr (Or.inr rfl) | exact Or.inr (Or.inr (by assumption)))), (by first | omega | ((repeat' apply And.intro) <;> first | trivial | rfl | assumption | omega | decide | exact Or.inl rfl | exact Or.inr (Or.inl rfl) | exact Or.inr (Or.inr rfl) | exact Or.inr (Or.inr (by assumption))))⟩) [1, 2, 3, 0] (by decide) rfl (Nat.le_of_ble_eq_true rfl) (Nat.le_of_ble_eq_true rfl)
      · skip
        have k344 : ¬ (10 ≤ (Int32.toInt z1)) := fun h_9 => c9 ((fa_le 10 z1).mpr h_9)
        refine r_lload 26 2 C dX12_flex1_26 rfl ?_
        refine r_aload_n 28 5 C dX12_flex1_28 rfl ?_
        refine r_get 29 C dX12_flex1_29 (k := 61) 0 rfl rfl hiX12 (by decide) rfl (mg 3 rfl) (Or.inl rfl) rfl ?_
        refine r_iload 32 0 C dX12_flex1_32 rfl ?_
        obtain ⟨z345, ez345⟩ : ∃ z_9, fm1 (Int32.toNatClampNeg z1) = z_9 := ⟨_, rfl⟩
        refine r_lald 34 z345 C dX12_flex1_34 3 rfl (vinI (by omega) (by omega)) ez345 ?_
        have gz345 := fb_rngL z345
        obtain ⟨z346, ez346⟩ : ∃ z_9, z3 + z345 = z_9 := ⟨_, rfl⟩
        have gz346 := fb_rngL z346
        refine r_ladd 35 z346 C dX12_flex1_35 ez346 ?_
        refine r_lstore 36 C dX12_flex1_36 [(5, .long z346), (9, .int z1), (7, .long z2), (3, .long y6), (1, .long y5), (0, .ref h0)] (by decide) rfl ?_
        refine r_lload 38 2 C dX12_flex1_38 rfl ?_
        refine r_aload_n 40 5 C dX12_flex1_40 rfl ?_
        refine r_get 41 C dX12_flex1_41 (k := 61) 0 rfl rfl hiX12 (by decide) rfl (mg 3 rfl) (Or.inl rfl) rfl ?_
        refine r_iload 44 1 C dX12_flex1_44 rfl ?_
        refine r_iconst 46 1 C dX12_flex1_46 (by decide) ?_
        obtain ⟨z347, ez347⟩ : ∃ z_9, z1 + 1 = z_9 := ⟨_, rfl⟩
        have tz347 : (Int32.toInt z347) = (Int32.toInt z1) + 1 := by rw [← ez347]; exact fb_addIv (a := 0) (b := 11) (c := 1) (d := 1) ⟨i8a, i8b⟩ ⟨by decide, by decide⟩ (by decide) (by decide)
        refine r_iadd 47 z347 C dX12_flex1_47 ez347 ?_
        obtain ⟨z348, ez348⟩ : ∃ z_9, fm1 (Int32.toNatClampNeg z347) = z_9 := ⟨_, rfl⟩
        refine r_lald 48 z348 C dX12_flex1_48 3 rfl (vinI (by omega) (by omega)) ez348 ?_
        have gz348 := fb_rngL z348
        obtain ⟨z349, ez349⟩ : ∃ z_9, z2 + z348 = z_9 := ⟨_, rfl⟩
        have gz349 := fb_rngL z349
        refine r_ladd 49 z349 C dX12_flex1_49 ez349 ?_
        refine r_lstore 50 C dX12_flex1_50 [(7, .long z349), (5, .long z346), (9, .int z1), (3, .long y6), (1, .long y5), (0, .ref h0)] (by decide) rfl ?_
        obtain ⟨z350, ez350⟩ : ∃ z_9, z1 + Int32.ofInt 2 = z_9 := ⟨_, rfl⟩
        have tz350 : (Int32.toInt z350) = (Int32.toInt z1) + 2 := by rw [← ez350]; exact fb_addIv (a := 0) (b := 11) (c := 2) (d := 2) ⟨i8a, i8b⟩ ⟨by decide, by decide⟩ (by decide) (by decide)
        refine r_iinc 52 2 z350 C dX12_flex1_52 rfl ez350 [(9, .int z350), (7, .long z349), (5, .long z346), (3, .long y6), (1, .long y5), (0, .ref h0)] (by decide) rfl ?_
        refine r_goto 55 19 C dX12_flex1_55 (by decide) ?_
        exact ih6 z350 z349 z346 ⟨by omega, by omega⟩ (by omega)
  exact lp5 _ 0 0 0 (by decide) (Nat.lt_succ_self _)
set_option maxHeartbeats 4000000 in
set_option maxRecDepth 100000 in
theorem c122_X12_draws (l : Launch) (g : GD) (h0 : Nat) (h1 : Nat) (h2 : Nat) (h3 : Nat) (x0 : Int32) (h4 : Nat) (x1 : Int32) (h5 : Nat) (x2 : Int32) (x3 : Int32) (x4 : Int32) (h6 : Nat) (h7 : Nat) (h8 : Nat) (h9 : Nat) (x5 : Int32) (x6 : Int32) (x7 : Int32) (h10 : Nat) (h11 : Nat) (h12 : Nat) (h13 : Nat) (x8 : Int32) (x9 : Int32) (x10 : Int32) (y0 : Int64) (x11 : Int32) (x12 : Int32) (y1 : Int64) (y2 : Int64) (h14 : Nat) (h15 : Nat) (h16 : Nat) (h17 : Nat) (y3 : Int64) (x13 : Int32) (h18 : Nat) (x14 : Int32) (x15 : Int32) (x16 : Int32) (x17 : Int32) (h19 : Nat) (h20 : Nat) (h21 : Nat) (h22 : Nat) (h23 : Nat) (h24 : Nat) (h25 : Nat) (h26 : Nat) (h27 : Nat) (h28 : Nat) (h29 : Nat) (x18 : Int32) (x19 : Int32) (x20 : Int32) (x21 : Int32) (x22 : Int32) (x23 : Int32) (x24 : Int32) (y4 : Int64) (x25 : Int32) (y5 : Int64) (y6 : Int64) (x26 : Int32) (x27 : Int32) (h30 : Nat) (h31 : Nat) (h32 : Nat) (h33 : Nat) (x28 : Int32) (x29 : Int32) (x30 : Int32) (x31 : Int32) (h34 : Nat) (h35 : Nat) (x32 : Int32) (x33 : Int32) (h36 : Nat) (fn0 : Nat → Int32) (fm0 : Nat → Int64) (fm1 : Nat → Int64) (i_x0 : (0 ≤ (Int32.toInt x0) ∧ (Int32.toInt x0) ≤ 511)) (i_x1 : (0 ≤ (Int32.toInt x1) ∧ (Int32.toInt x1) ≤ 1500)) (i_x2 : (0 ≤ (Int32.toInt x2) ∧ (Int32.toInt x2) ≤ 1508)) (i_x4 : (0 ≤ (Int32.toInt x4) ∧ (Int32.toInt x4) ≤ 0)) (i_x7 : (0 ≤ (Int32.toInt x7) ∧ (Int32.toInt x7) ≤ 3)) (i_x8 : (0 ≤ (Int32.toInt x8) ∧ (Int32.toInt x8) ≤ 4500)) (i_x11 : (0 ≤ (Int32.toInt x11) ∧ (Int32.toInt x11) ≤ 65535)) (i_x12 : (0 ≤ (Int32.toInt x12) ∧ (Int32.toInt x12) ≤ 255)) (i_y1 : (0 ≤ (Int64.toInt y1) ∧ (Int64.toInt y1) ≤ 1500)) (i_y2 : (0 ≤ (Int64.toInt y2) ∧ (Int64.toInt y2) ≤ 1500)) (i_x13 : (0 ≤ (Int32.toInt x13) ∧ (Int32.toInt x13) ≤ 1)) (i_x14 : (0 ≤ (Int32.toInt x14) ∧ (Int32.toInt x14) ≤ 1500)) (i_x15 : (0 ≤ (Int32.toInt x15) ∧ (Int32.toInt x15) ≤ 1501)) (i_x16 : (0 ≤ (Int32.toInt x16) ∧ (Int32.toInt x16) ≤ 1500)) (i_x17 : (0 ≤ (Int32.toInt x17) ∧ (Int32.toInt x17) ≤ 1500)) (i_x19 : (0 ≤ (Int32.toInt x19) ∧ (Int32.toInt x19) ≤ 1)) (i_x20 : (0 ≤ (Int32.toInt x20) ∧ (Int32.toInt x20) ≤ 9)) (i_x21 : (0 ≤ (Int32.toInt x21) ∧ (Int32.toInt x21) ≤ 400)) (i_x22 : (0 ≤ (Int32.toInt x22) ∧ (Int32.toInt x22) ≤ 400)) (i_x23 : (0 ≤ (Int32.toInt x23) ∧ (Int32.toInt x23) ≤ 3000)) (i_x25 : (0 ≤ (Int32.toInt x25) ∧ (Int32.toInt x25) ≤ 1)) (i_x26 : (0 ≤ (Int32.toInt x26) ∧ (Int32.toInt x26) ≤ 1)) (i_x27 : (0 ≤ (Int32.toInt x27) ∧ (Int32.toInt x27) ≤ 48)) (i_x28 : (0 ≤ (Int32.toInt x28) ∧ (Int32.toInt x28) ≤ 10)) (i_x29 : (0 ≤ (Int32.toInt x29) ∧ (Int32.toInt x29) ≤ 1)) (i_x30 : (0 ≤ (Int32.toInt x30) ∧ (Int32.toInt x30) ≤ 1)) (i_x31 : (0 ≤ (Int32.toInt x31) ∧ (Int32.toInt x31) ≤ 7)) (i_x32 : (0 ≤ (Int32.toInt x32) ∧ (Int32.toInt x32) ≤ 24)) (i_x33 : (0 ≤ (Int32.toInt x33) ∧ (Int32.toInt x33) ≤ 1)) (pre0 : ((Int32.toInt x21) ≤ (Int32.toInt x22))) (sz : Nat) : Met l yX12_draws wsX12_draws ({ frames := 4, cells := 0, slots := 0, locals := 107 }) (va_Pc [.ref h0, .int x0] (PW g [(h0, .inr (11, [.ref h4, .int x1, .ref h5, .int x2, .int x3, .int x4, .ref h6, .ref h7, .ref h8, .ref h9, .int x5, .int x6, .int x7, .ref h10, .ref h11, .ref h12, .ref h13, .int x8, .int x9, .int x10, .long y0, .int x11, .int x12, .long y1, .long y2, .ref h14, .ref h15, .ref h16, .ref h17, .long y3, .int x13, .ref h18, .int x14, .int x15, .int x16, .int x17, .ref h19, .ref h20, .ref h21, .ref h22, .ref h23, .ref h24, .ref h25, .ref h26, .ref h27, .ref h28, .ref h29, .int x18, .int x19, .int x20, .int x21, .int x22, .int x23, .int x24, .long y4, .int x25, .ref h1, .ref h2, .long y5, .long y6, .int x26, .ref h3, .int x27, .ref h30, .ref h31, .ref h32, .ref h33, .int x28, .int x29, .int x30, .int x31, .ref h34, .ref h35, .int x32, .int x33, .ref h36])), (h1, .inl (gI g, 400, .inl fn0)), (h2, .inl (gJ g, 2400, .inr (.inl fm0))), (h3, .inl (gJ g, 48, .inr (.inl fm1)))] sz)) (va_Qi (fun (r : Int32) (u : (Int32) × (Int32) × (Int64) × (Int64) × (Int32) × (Nat → Int32) × (Nat → Int64)) => 0 ≤ (Int32.toInt r) ∧ (Int32.toInt r) ≤ 1 ∧ 0 ≤ (Int32.toInt (u.1)) ∧ (Int32.toInt (u.1)) ≤ 9 ∧ 0 ≤ (Int32.toInt (u.2.1)) ∧ (Int32.toInt (u.2.1)) ≤ 400 ∧ 0 ≤ (Int32.toInt (u.2.2.2.2.1)) ∧ (Int32.toInt (u.2.2.2.2.1)) ≤ 1 ∧ ((Int32.toInt (u.2.1)) ≤ (Int32.toInt x22)) ∧ (((Int32.toInt r) = 0 ∧ 1 ≤ (Int32.toInt (u.1))) ∨ ((Int32.toInt r) = 1 ∧ (Int32.toInt (u.1)) = (Int32.toInt x20)))) (BW g (va_A [(h0, .inr (11, [.ref h4, .int x1, .ref h5, .int x2, .int x3, .int x4, .ref h6, .ref h7, .ref h8, .ref h9, .int x5, .int x6, .int x7, .ref h10, .ref h11, .ref h12, .ref h13, .int x8, .int x9, .int x10, .long y0, .int x11, .int x12, .long y1, .long y2, .ref h14, .ref h15, .ref h16, .ref h17, .long y3, .int x13, .ref h18, .int x14, .int x15, .int x16, .int x17, .ref h19, .ref h20, .ref h21, .ref h22, .ref h23, .ref h24, .ref h25, .ref h26, .ref h27, .ref h28, .ref h29, .int x18, .int x19, .int x20, .int x21, .int x22, .int x23, .int x24, .long y4, .int x25, .ref h1, .ref h2, .long y5, .long y6, .int x26, .ref h3, .int x27, .ref h30, .ref h31, .ref h32, .ref h33, .int x28, .int x29, .int x30, .int x31, .ref h34, .ref h35, .int x32, .int x33, .ref h36])), (h1, .inl (gI g, 400, .inl fn0)), (h2, .inl (gJ g, 2400, .inr (.inl fm0))), (h3, .inl (gJ g, 48, .inr (.inl fm1)))] sz) (fun u : (Int32) × (Int32) × (Int64) × (Int64) × (Int32) × (Nat → Int32) × (Nat → Int64) => [(h0, .inr (11, [.ref h4, .int x1, .ref h5, .int x2, .int x3, .int x4, .ref h6, .ref h7, .ref h8, .ref h9, .int x5, .int x6, .int x7, .ref h10, .ref h11, .ref h12, .ref h13, .int x8, .int x9, .int x10, .long y0, .int x11, .int x12, .long y1, .long y2, .ref h14, .ref h15, .ref h16, .ref h17, .long y3, .int x13, .ref h18, .int x14, .int x15, .int x16, .int x17, .ref h19, .ref h20, .ref h21, .ref h22, .ref h23, .ref h24, .ref h25, .ref h26, .ref h27, .ref h28, .ref h29, .int x18, .int x19, .int u.1, .int u.2.1, .int x22, .int x23, .int x24, .long y4, .int x25, .ref h1, .ref h2, .long u.2.2.1, .long u.2.2.2.1, .int u.2.2.2.2.1, .ref h3, .int x27, .ref h30, .ref h31, .ref h32, .ref h33, .int x28, .int x29, .int x30, .int x31, .ref h34, .ref h35, .int x32, .int x33, .ref h36])), (h1, .inl (gI g, 400, .inl u.2.2.2.2.2.1)), (h2, .inl (gJ g, 2400, .inr (.inl u.2.2.2.2.2.2))), (h3, .inl (gJ g, 48, .inr (.inl fm1)))])) (va_A [(h0, .inr (11, [.ref h4, .int x1, .ref h5, .int x2, .int x3, .int x4, .ref h6, .ref h7, .ref h8, .ref h9, .int x5, .int x6, .int x7, .ref h10, .ref h11, .ref h12, .ref h13, .int x8, .int x9, .int x10, .long y0, .int x11, .int x12, .long y1, .long y2, .ref h14, .ref h15, .ref h16, .ref h17, .long y3, .int x13, .ref h18, .int x14, .int x15, .int x16, .int x17, .ref h19, .ref h20, .ref h21, .ref h22, .ref h23, .ref h24, .ref h25, .ref h26, .ref h27, .ref h28, .ref h29, .int x18, .int x19, .int x20, .int x21, .int x22, .int x23, .int x24, .long y4, .int x25, .ref h1, .ref h2, .long y5, .long y6, .int x26, .ref h3, .int x27, .ref h30, .ref h31, .ref h32, .ref h33, .int x28, .int x29, .int x30, .int x31, .ref h34, .ref h35, .int x32, .int x33, .ref h36])), (h1, .inl (gI g, 400, .inl fn0)), (h2, .inl (gJ g, 2400, .inr (.inl fm0))), (h3, .inl (gJ g, 48, .inr (.inl fm1)))] sz)) 0 0 (va_A [(h0, .inr (11, [.ref h4, .int x1, .ref h5, .int x2, .int x3, .int x4, .ref h6, .ref h7, .ref h8, .ref h9, .int x5, .int x6, .int x7, .ref h10, .ref h11, .ref h12, .ref h13, .int x8, .int x9, .int x10, .long y0, .int x11, .int x12, .long y1, .long y2, .ref h14, .ref h15, .ref h16, .ref h17, .long y3, .int x13, .ref h18, .int x14, .int x15, .int x16, .int x17, .ref h19, .ref h20, .ref h21, .ref h22, .ref h23, .ref h24, .ref h25, .ref h26, .ref h27, .ref h28, .ref h29, .int x18, .int x19, .int x20, .int x21, .int x22, .int x23, .int x24, .long y4, .int x25, .ref h1, .ref h2, .long y5, .long y6, .int x26, .ref h3, .int x27, .ref h30, .ref h31, .ref h32, .ref h33, .int x28, .int x29, .int x30, .int x31, .ref h34, .ref h35, .int x32, .int x33, .ref h36])), (h1, .inl (gI g, 400, .inl fn0)), (h2, .inl (gJ g, 2400, .inr (.inl fm0))), (h3, .inl (gJ g, 48, .inr (.inl fm1)))] sz) := by
  refine met_z RX12 (by decide) rfl rfl (Nat.le_of_ble_eq_true rfl) [(0, .ref h0), (1, .int x0)] rfl ?_
  intro p e s m args below meth c A Q C hnm Rt
  have hiX12 : ∀ w ∈ wsX120, w ∈ wsX12_draws := fun w h => List.mem_cons_of_mem _ (List.mem_append_right _ (h))
  refine r_iload_n 0 1 C dX12_draws_0 rfl ?_
  by_cases c1 : x0 = 5
  · skip
    have k2 : (Int32.toInt x0) = 5 := (fa_eq x0 5).mp c1
    refine r_lookup 1 124 (off := 123) C dX12_draws_1 (by decide) (by rw [c1]; decide) (by decide) ?_
    refine r_aload_n 124 0 C dX12_draws_124 rfl ?_
    refine r_iconst 125 0 C dX12_draws_125 (by decide) ?_
    refine r_aload_n 126 0 C dX12_draws_126 rfl ?_
    refine r_get 127 C dX12_draws_127 (k := 62) 0 rfl rfl hiX12 (by decide) rfl (mg 1 rfl) (Or.inl rfl) rfl ?_
    refine r_iconst 130 1 C dX12_draws_130 (by decide) ?_
    refine r_callVi 131 C dX12_draws_131 [] [(h0, .inr (11, [.ref h4, .int x1, .ref h5, .int x2, .int x3, .int x4, .ref h6, .ref h7, .ref h8, .ref h9, .int x5, .int x6, .int x7, .ref h10, .ref h11, .ref h12, .ref h13, .int x8, .int x9, .int x10, .long y0, .int x11, .int x12, .long y1, .long y2, .ref h14, .ref h15, .ref h16, .ref h17, .long y3, .int x13, .ref h18, .int x14, .int x15, .int x16, .int x17, .ref h19, .ref h20, .ref h21, .ref h22, .ref h23, .ref h24, .ref h25, .ref h26, .ref h27, .ref h28, .ref h29, .int x18, .int x19, .int x20, .int x21, .int x22, .int x23, .int x24, .long y4, .int x25, .ref h1, .ref h2, .long y5, .long y6, .int x26, .ref h3, .int x27, .ref h30, .ref h31, .ref h32, .ref h33, .int x28, .int x29, .int x30, .int x31, .ref h34, .ref h35, .int x32, .int x33, .ref h36])), (h1, .inl (gI g, 400, .inl fn0)), (h2, .inl (gJ g, 2400, .inr (.inl fm0))), (h3, .inl (gJ g, 48, .inr (.inl fm1)))] [] (fun sz => c112_X12_pairs l g h0 h1 h2 h3 0 x27 h4 x1 h5 x2 x3 x4 h6 h7 h8 h9 x5 x6 x7 h10 h11 h12 h13 x8 x9 x10 y0 x11 x12 y1 y2 h14 h15 h16 h17 y3 x13 h18 x14 x15 x16 x17 h19 h20 h21 h22 h23 h24 h25 h26 h27 h28 h29 x18 x19 x20 x21 x22 x23 x24 y4 x25 y5 y6 x26 x27 h30 h31 h32 h33 x28 x29 x30 x31 h34 h35 x32 x33 h36 fn0 fm0 fm1 (by decide) i_x27 i_x1 i_x2 i_x4 i_x7 i_x8 i_x11 i_x12 i_y1 i_y2 i_x13 i_x14 i_x15 i_x16 i_x17 i_x19 i_x20 i_x21 i_x22 i_x23 i_x25 i_x26 i_x27 i_x28 i_x29 i_x30 i_x31 i_x32 i_x33 (by show ((Int32.toInt x21) ≤ (Int32.toInt x22)); first | assumption | omega) sz) gX12_draws_X12_pairs rfl ⟨rfl, rfl⟩ 3 (by decide) ⟨Nat.le_of_ble_eq_true rfl, Nat.le_of_ble_eq_true rfl⟩ 0 rfl rfl [0, 1, 2, 3] [] rfl rfl (by decide) (by decide) (by decide) rfl rfl (Nat.le_of_ble_eq_true rfl) ⟨Nat.le_of_ble_eq_true rfl, Nat.le_of_ble_eq_true rfl⟩ (fun r10 u12 w11 => ?_)
    obtain ⟨z3, z4, z5, z6, z7, f8, f9⟩ := u12
    refine r_ws [(h0, .inr (11, [.ref h4, .int x1, .ref h5, .int x2, .int x3, .int x4, .ref h6, .ref h7, .ref h8, .ref h9, .int x5, .int x6, .int x7, .ref h10, .ref h11, .ref h12, .ref h13, .int x8, .int x9, .int x10, .long y0, .int x11, .int x12, .long y1, .long y2, .ref h14, .ref h15, .ref h16, .ref h17, .long y3, .int x13, .ref h18, .int x14, .int x15, .int x16, .int x17, .ref h19, .ref h20, .ref h21, .ref h22, .ref h23, .ref h24, .ref h25, .ref h26, .ref h27, .ref h28, .ref h29, .int x18, .int x19, .int z3, .int z4, .int x22, .int x23, .int x24, .long y4, .int x25, .ref h1, .ref h2, .long z5, .long z6, .int z7, .ref h3, .int x27, .ref h30, .ref h31, .ref h32, .ref h33, .int x28, .int x29, .int x30, .int x31, .ref h34, .ref h35, .int x32, .int x33, .ref h36])), (h1, .inl (gI g, 400, .inl f8)), (h2, .inl (gJ g, 2400, .inr (.inl f9))), (h3, .inl (gJ g, 48, .inr (.inl fm1)))] rfl ?_
    have gz5 := fb_rngL z5
    have gz6 := fb_rngL z6
    have p13 : 0 ≤ (Int32.toInt r10) := w11.1
    have p14 : (Int32.toInt r10) ≤ 1 := w11.2.1
    have p15 : 0 ≤ (Int32.toInt z3) := w11.2.2.1
    have p16 : (Int32.toInt z3) ≤ 9 := w11.2.2.2.1
    have p17 : 0 ≤ (Int32.toInt z4) := w11.2.2.2.2.1
    have p18 : (Int32.toInt z4) ≤ 400 := w11.2.2.2.2.2.1
    have p19 : 0 ≤ (Int32.toInt z7) := w11.2.2.2.2.2.2.1
    have p20 : (Int32.toInt z7) ≤ 1 := w11.2.2.2.2.2.2.2.1
    have p21 : ((Int32.toInt z4) ≤ (Int32.toInt x22)) := w11.2.2.2.2.2.2.2.2.1
    have p22 : (((Int32.toInt r10) = 0 ∧ 1 ≤ (Int32.toInt z3)) ∨ ((Int32.toInt r10) = 1 ∧ (Int32.toInt z3) = (Int32.toInt x20))) := w11.2.2.2.2.2.2.2.2.2
    rcases p22 with ⟨k23, k24⟩ | p22
    · skip
      exact r_zret 134 Rt dX12_draws_134 (nz_n (by omega) (by omega)) (z3, z4, z5, z6, z7, f8, f9) (show 0 ≤ (Int32.toInt r10) ∧ (Int32.toInt r10) ≤ 1 ∧ 0 ≤ (Int32.toInt z3) ∧ (Int32.toInt z3) ≤ 9 ∧ 0 ≤ (Int32.toInt z4) ∧ (Int32.toInt z4) ≤ 400 ∧ 0 ≤ (Int32.toInt z7) ∧ (Int32.toInt z7) ≤ 1 ∧ ((Int32.toInt z4) ≤ (Int32.toInt x22)) ∧ (((Int32.toInt r10) = 0 ∧ 1 ≤ (Int32.toInt z3)) ∨ ((Int32.toInt r10) = 1 ∧ (Int32.toInt z3) = (Int32.toInt x20))) from ⟨(show _ ∧ _ from ⟨p13, p14⟩).1, (show _ ∧ _ from ⟨p13, p14⟩).2, (show _ ∧ _ from ⟨p15, p16⟩).1, (show _ ∧ _ from ⟨p15, p16⟩).2, (show _ ∧ _ from ⟨p17, p18⟩).1, (show _ ∧ _ from ⟨p17, p18⟩).2, (show _ ∧ _ from ⟨p19, p20⟩).1, (show _ ∧ _ from ⟨p19, p20⟩).2, (by first | omega | ((repeat' apply And.intro) <;> first | trivial | rfl | assumption | omega | decide | exact Or.inl rfl | exact Or.inr (Or.inl rfl) | exact Or.inr (Or.inr rfl) | exact Or.inr (Or.inr (by assumption)))), (by first | omega | ((repeat' apply And.intro) <;> first | trivial | rfl | assumption | omega | decide | exact Or.inl rfl | exact Or.inr (Or.inl rfl) | exact Or.inr (Or.inr rfl) | exact Or.inr (Or.inr (by assumption))))⟩) [0, 1, 2, 3] (by decide) rfl (Nat.le_of_ble_eq_true rfl) (Nat.le_of_ble_eq_true rfl)
    obtain ⟨k25, k26⟩ := p22
    exact r_zret 134 Rt dX12_draws_134 (nz_n (by omega) (by omega)) (z3, z4, z5, z6, z7, f8, f9) (show 0 ≤ (Int32.toInt r10) ∧ (Int32.toInt r10) ≤ 1 ∧ 0 ≤ (Int32.toInt z3) ∧ (Int32.toInt z3) ≤ 9 ∧ 0 ≤ (Int32.toInt z4) ∧ (Int32.toInt z4) ≤ 400 ∧ 0 ≤ (Int32.toInt z7) ∧ (Int32.toInt z7) ≤ 1 ∧ ((Int32.toInt z4) ≤ (Int32.toInt x22)) ∧ (((Int32.toInt r10) = 0 ∧ 1 ≤ (Int32.toInt z3)) ∨ ((Int32.toInt r10) = 1 ∧ (Int32.toInt z3) = (Int32.toInt x20))) from ⟨(show _ ∧ _ from ⟨p13, p14⟩).1, (show _ ∧ _ from ⟨p13, p14⟩).2, (show _ ∧ _ from ⟨p15, p16⟩).1, (show _ ∧ _ from ⟨p15, p16⟩).2, (show _ ∧ _ from ⟨p17, p18⟩).1, (show _ ∧ _ from ⟨p17, p18⟩).2, (show _ ∧ _ from ⟨p19, p20⟩).1, (show _ ∧ _ from ⟨p19, p20⟩).2, (by first | omega | ((repeat' apply And.intro) <;> first | trivial | rfl | assumption | omega | decide | exact Or.inl rfl | exact Or.inr (Or.inl rfl) | exact Or.inr (Or.inr rfl) | exact Or.inr (Or.inr (by assumption)))), (by first | omega | ((repeat' apply And.intro) <;> first | trivial | rfl | assumption | omega | decide | exact Or.inl rfl | exact Or.inr (Or.inl rfl) | exact Or.inr (Or.inr rfl) | exact Or.inr (Or.inr (by assumption))))⟩) [0, 1, 2, 3] (by decide) rfl (Nat.le_of_ble_eq_true rfl) (Nat.le_of_ble_eq_true rfl)
  · skip
    have k27 : ¬ ((Int32.toInt x0) = 5) := fun h_9 => c1 ((fa_eq x0 5).mpr h_9)
    by_cases c28 : x0 = 6
    · skip
      have k29 : (Int32.toInt x0) = 6 := (fa_eq x0 6).mp c28
      refine r_lookup 1 135 (off := 134) C dX12_draws_1 (by decide) (by rw [c28]; decide) (by decide) ?_
      refine r_aload_n 135 0 C dX12_draws_135 rfl ?_
      refine r_iload_n 136 1 C dX12_draws_136 rfl ?_
      refine r_bipush 137 6 C dX12_draws_137 (by decide) ?_
      refine r_icmp_ne_f 139 146 C dX12_draws_139 (by decide) ((fa_eq x0 6).mpr (by show (Int32.toInt x0) = 6; omega)) ?_
      refine r_iconst 142 1 C dX12_draws_142 (by decide) ?_
      refine r_goto 143 147 C dX12_draws_143 (by decide) ?_
      refine r_callVi 147 C dX12_draws_147 [] [(h0, .inr (11, [.ref h4, .int x1, .ref h5, .int x2, .int x3, .int x4, .ref h6, .ref h7, .ref h8, .ref h9, .int x5, .int x6, .int x7, .ref h10, .ref h11, .ref h12, .ref h13, .int x8, .int x9, .int x10, .long y0, .int x11, .int x12, .long y1, .long y2, .ref h14, .ref h15, .ref h16, .ref h17, .long y3, .int x13, .ref h18, .int x14, .int x15, .int x16, .int x17, .ref h19, .ref h20, .ref h21, .ref h22, .ref h23, .ref h24, .ref h25, .ref h26, .ref h27, .ref h28, .ref h29, .int x18, .int x19, .int x20, .int x21, .int x22, .int x23, .int x24, .long y4, .int x25, .ref h1, .ref h2, .long y5, .long y6, .int x26, .ref h3, .int x27, .ref h30, .ref h31, .ref h32, .ref h33, .int x28, .int x29, .int x30, .int x31, .ref h34, .ref h35, .int x32, .int x33, .ref h36])), (h1, .inl (gI g, 400, .inl fn0)), (h2, .inl (gJ g, 2400, .inr (.inl fm0))), (h3, .inl (gJ g, 48, .inr (.inl fm1)))] [] (fun sz => c113_X12_turns l g h0 h1 h2 h3 1 h4 x1 h5 x2 x3 x4 h6 h7 h8 h9 x5 x6 x7 h10 h11 h12 h13 x8 x9 x10 y0 x11 x12 y1 y2 h14 h15 h16 h17 y3 x13 h18 x14 x15 x16 x17 h19 h20 h21 h22 h23 h24 h25 h26 h27 h28 h29 x18 x19 x20 x21 x22 x23 x24 y4 x25 y5 y6 x26 x27 h30 h31 h32 h33 x28 x29 x30 x31 h34 h35 x32 x33 h36 fn0 fm0 fm1 (by decide) i_x1 i_x2 i_x4 i_x7 i_x8 i_x11 i_x12 i_y1 i_y2 i_x13 i_x14 i_x15 i_x16 i_x17 i_x19 i_x20 i_x21 i_x22 i_x23 i_x25 i_x26 i_x27 i_x28 i_x29 i_x30 i_x31 i_x32 i_x33 (by show ((Int32.toInt x21) ≤ (Int32.toInt x22)); first | assumption | omega) sz) gX12_draws_X12_turns rfl ⟨rfl, rfl⟩ 1 (by decide) ⟨Nat.le_of_ble_eq_true rfl, Nat.le_of_ble_eq_true rfl⟩ 0 rfl rfl [0, 1, 2, 3] [] rfl rfl (by decide) (by decide) (by decide) rfl rfl (Nat.le_of_ble_eq_true rfl) ⟨Nat.le_of_ble_eq_true rfl, Nat.le_of_ble_eq_true rfl⟩ (fun r37 u39 w38 => ?_)
      obtain ⟨z30, z31, z32, z33, z34, f35, f36⟩ := u39
      refine r_ws [(h0, .inr (11, [.ref h4, .int x1, .ref h5, .int x2, .int x3, .int x4, .ref h6, .ref h7, .ref h8, .ref h9, .int x5, .int x6, .int x7, .ref h10, .ref h11, .ref h12, .ref h13, .int x8, .int x9, .int x10, .long y0, .int x11, .int x12, .long y1, .long y2, .ref h14, .ref h15, .ref h16, .ref h17, .long y3, .int x13, .ref h18, .int x14, .int x15, .int x16, .int x17, .ref h19, .ref h20, .ref h21, .ref h22, .ref h23, .ref h24, .ref h25, .ref h26, .ref h27, .ref h28, .ref h29, .int x18, .int x19, .int z30, .int z31, .int x22, .int x23, .int x24, .long y4, .int x25, .ref h1, .ref h2, .long z32, .long z33, .int z34, .ref h3, .int x27, .ref h30, .ref h31, .ref h32, .ref h33, .int x28, .int x29, .int x30, .int x31, .ref h34, .ref h35, .int x32, .int x33, .ref h36])), (h1, .inl (gI g, 400, .inl f35)), (h2, .inl (gJ g, 2400, .inr (.inl f36))), (h3, .inl (gJ g, 48, .inr (.inl fm1)))] rfl ?_
      have gz32 := fb_rngL z32
      have gz33 := fb_rngL z33
      have p40 : 0 ≤ (Int32.toInt r37) := w38.1
      have p41 : (Int32.toInt r37) ≤ 1 := w38.2.1
      have p42 : 0 ≤ (Int32.toInt z30) := w38.2.2.1
      have p43 : (Int32.toInt z30) ≤ 9 := w38.2.2.2.1
      have p44 : 0 ≤ (Int32.toInt z31) := w38.2.2.2.2.1
      have p45 : (Int32.toInt z31) ≤ 400 := w38.2.2.2.2.2.1
      have p46 : 0 ≤ (Int32.toInt z34) := w38.2.2.2.2.2.2.1
      have p47 : (Int32.toInt z34) ≤ 1 := w38.2.2.2.2.2.2.2.1
      have p48 : ((Int32.toInt z31) ≤ (Int32.toInt x22)) := w38.2.2.2.2.2.2.2.2.1
      have p49 : (((Int32.toInt r37) = 0 ∧ 1 ≤ (Int32.toInt z30)) ∨ ((Int32.toInt r37) = 1 ∧ (Int32.toInt z30) = (Int32.toInt x20))) := w38.2.2.2.2.2.2.2.2.2
      rcases p49 with ⟨k50, k51⟩ | p49
      · skip
        exact r_zret 150 Rt dX12_draws_150 (nz_n (by omega) (by omega)) (z30, z31, z32, z33, z34, f35, f36) (show 0 ≤ (Int32.toInt r37) ∧ (Int32.toInt r37) ≤ 1 ∧ 0 ≤ (Int32.toInt z30) ∧ (Int32.toInt z30) ≤ 9 ∧ 0 ≤ (Int32.toInt z31) ∧ (Int32.toInt z31) ≤ 400 ∧ 0 ≤ (Int32.toInt z34) ∧ (Int32.toInt z34) ≤ 1 ∧ ((Int32.toInt z31) ≤ (Int32.toInt x22)) ∧ (((Int32.toInt r37) = 0 ∧ 1 ≤ (Int32.toInt z30)) ∨ ((Int32.toInt r37) = 1 ∧ (Int32.toInt z30) = (Int32.toInt x20))) from ⟨(show _ ∧ _ from ⟨p40, p41⟩).1, (show _ ∧ _ from ⟨p40, p41⟩).2, (show _ ∧ _ from ⟨p42, p43⟩).1, (show _ ∧ _ from ⟨p42, p43⟩).2, (show _ ∧ _ from ⟨p44, p45⟩).1, (show _ ∧ _ from ⟨p44, p45⟩).2, (show _ ∧ _ from ⟨p46, p47⟩).1, (show _ ∧ _ from ⟨p46, p47⟩).2, (by first | omega | ((repeat' apply And.intro) <;> first | trivial | rfl | assumption | omega | decide | exact Or.inl rfl | exact Or.inr (Or.inl rfl) | exact Or.inr (Or.inr rfl) | exact Or.inr (Or.inr (by assumption)))), (by first | omega | ((repeat' apply And.intro) <;> first | trivial | rfl | assumption | omega | decide | exact Or.inl rfl | exact Or.inr (Or.inl rfl) | exact Or.inr (Or.inr rfl) | exact Or.inr (Or.inr (by assumption))))⟩) [0, 1, 2, 3] (by decide) rfl (Nat.le_of_ble_eq_true rfl) (Nat.le_of_ble_eq_true rfl)
      obtain ⟨k52, k53⟩ := p49
      exact r_zret 150 Rt dX12_draws_150 (nz_n (by omega) (by omega)) (z30, z31, z32, z33, z34, f35, f36) (show 0 ≤ (Int32.toInt r37) ∧ (Int32.toInt r37) ≤ 1 ∧ 0 ≤ (Int32.toInt z30) ∧ (Int32.toInt z30) ≤ 9 ∧ 0 ≤ (Int32.toInt z31) ∧ (Int32.toInt z31) ≤ 400 ∧ 0 ≤ (Int32.toInt z34) ∧ (Int32.toInt z34) ≤ 1 ∧ ((Int32.toInt z31) ≤ (Int32.toInt x22)) ∧ (((Int32.toInt r37) = 0 ∧ 1 ≤ (Int32.toInt z30)) ∨ ((Int32.toInt r37) = 1 ∧ (Int32.toInt z30) = (Int32.toInt x20))) from ⟨(show _ ∧ _ from ⟨p40, p41⟩).1, (show _ ∧ _ from ⟨p40, p41⟩).2, (show _ ∧ _ from ⟨p42, p43⟩).1, (show _ ∧ _ from ⟨p42, p43⟩).2, (show _ ∧ _ from ⟨p44, p45⟩).1, (show _ ∧ _ from ⟨p44, p45⟩).2, (show _ ∧ _ from ⟨p46, p47⟩).1, (show _ ∧ _ from ⟨p46, p47⟩).2, (by first | omega | ((repeat' apply And.intro) <;> first | trivial | rfl | assumption | omega | decide | exact Or.inl rfl | exact Or.inr (Or.inl rfl) | exact Or.inr (Or.inr rfl) | exact Or.inr (Or.inr (by assumption)))), (by first | omega | ((repeat' apply And.intro) <;> first | trivial | rfl | assumption | omega | decide | exact Or.inl rfl | exact Or.inr (Or.inl rfl) | exact Or.inr (Or.inr rfl) | exact Or.inr (Or.inr (by assumption))))⟩) [0, 1, 2, 3] (by decide) rfl (Nat.le_of_ble_eq_true rfl) (Nat.le_of_ble_eq_true rfl)
    · skip
      have k54 : ¬ ((Int32.toInt x0) = 6) := fun h_9 => c28 ((fa_eq x0 6).mpr h_9)
      by_cases c55 : x0 = 7
      · skip
        have k56 : (Int32.toInt x0) = 7 := (fa_eq x0 7).mp c55
        refine r_lookup 1 135 (off := 134) C dX12_draws_1 (by decide) (by rw [c55]; decide) (by decide) ?_
        refine r_aload_n 135 0 C dX12_draws_135 rfl ?_
        refine r_iload_n 136 1 C dX12_draws_136 rfl ?_
        refine r_bipush 137 6 C dX12_draws_137 (by decide) ?_
        refine r_icmp_ne_t 139 146 C dX12_draws_139 (by decide) (fun h_9 => by have h_8 : (Int32.toInt x0) = 6 := (fa_eq x0 6).mp h_9; omega) ?_
        refine r_iconst 146 0 C dX12_draws_146 (by decide) ?_
        refine r_callVi 147 C dX12_draws_147 [] [(h0, .inr (11, [.ref h4, .int x1, .ref h5, .int x2, .int x3, .int x4, .ref h6, .ref h7, .ref h8, .ref h9, .int x5, .int x6, .int x7, .ref h10, .ref h11, .ref h12, .ref h13, .int x8, .int x9, .int x10, .long y0, .int x11, .int x12, .long y1, .long y2, .ref h14, .ref h15, .ref h16, .ref h17, .long y3, .int x13, .ref h18, .int x14, .int x15, .int x16, .int x17, .ref h19, .ref h20, .ref h21, .ref h22, .ref h23, .ref h24, .ref h25, .ref h26, .ref h27, .ref h28, .ref h29, .int x18, .int x19, .int x20, .int x21, .int x22, .int x23, .int x24, .long y4, .int x25, .ref h1, .ref h2, .long y5, .long y6, .int x26, .ref h3, .int x27, .ref h30, .ref h31, .ref h32, .ref h33, .int x28, .int x29, .int x30, .int x31, .ref h34, .ref h35, .int x32, .int x33, .ref h36])), (h1, .inl (gI g, 400, .inl fn0)), (h2, .inl (gJ g, 2400, .inr (.inl fm0))), (h3, .inl (gJ g, 48, .inr (.inl fm1)))] [] (fun sz => c113_X12_turns l g h0 h1 h2 h3 0 h4 x1 h5 x2 x3 x4 h6 h7 h8 h9 x5 x6 x7 h10 h11 h12 h13 x8 x9 x10 y0 x11 x12 y1 y2 h14 h15 h16 h17 y3 x13 h18 x14 x15 x16 x17 h19 h20 h21 h22 h23 h24 h25 h26 h27 h28 h29 x18 x19 x20 x21 x22 x23 x24 y4 x25 y5 y6 x26 x27 h30 h31 h32 h33 x28 x29 x30 x31 h34 h35 x32 x33 h36 fn0 fm0 fm1 (by decide) i_x1 i_x2 i_x4 i_x7 i_x8 i_x11 i_x12 i_y1 i_y2 i_x13 i_x14 i_x15 i_x16 i_x17 i_x19 i_x20 i_x21 i_x22 i_x23 i_x25 i_x26 i_x27 i_x28 i_x29 i_x30 i_x31 i_x32 i_x33 (by show ((Int32.toInt x21) ≤ (Int32.toInt x22)); first | assumption | omega) sz) gX12_draws_X12_turns rfl ⟨rfl, rfl⟩ 1 (by decide) ⟨Nat.le_of_ble_eq_true rfl, Nat.le_of_ble_eq_true rfl⟩ 0 rfl rfl [0, 1, 2, 3] [] rfl rfl (by decide) (by decide) (by decide) rfl rfl (Nat.le_of_ble_eq_true rfl) ⟨Nat.le_of_ble_eq_true rfl, Nat.le_of_ble_eq_true rfl⟩ (fun r64 u66 w65 => ?_)
        obtain ⟨z57, z58, z59, z60, z61, f62, f63⟩ := u66
        refine r_ws [(h0, .inr (11, [.ref h4, .int x1, .ref h5, .int x2, .int x3, .int x4, .ref h6, .ref h7, .ref h8, .ref h9, .int x5, .int x6, .int x7, .ref h10, .ref h11, .ref h12, .ref h13, .int x8, .int x9, .int x10, .long y0, .int x11, .int x12, .long y1, .long y2, .ref h14, .ref h15, .ref h16, .ref h17, .long y3, .int x13, .ref h18, .int x14, .int x15, .int x16, .int x17, .ref h19, .ref h20, .ref h21, .ref h22, .ref h23, .ref h24, .ref h25, .ref h26, .ref h27, .ref h28, .ref h29, .int x18, .int x19, .int z57, .int z58, .int x22, .int x23, .int x24, .long y4, .int x25, .ref h1, .ref h2, .long z59, .long z60, .int z61, .ref h3, .int x27, .ref h30, .ref h31, .ref h32, .ref h33, .int x28, .int x29, .int x30, .int x31, .ref h34, .ref h35, .int x32, .int x33, .ref h36])), (h1, .inl (gI g, 400, .inl f62)), (h2, .inl (gJ g, 2400, .inr (.inl f63))), (h3, .inl (gJ g, 48, .inr (.inl fm1)))] rfl ?_
        have gz59 := fb_rngL z59
        have gz60 := fb_rngL z60
        have p67 : 0 ≤ (Int32.toInt r64) := w65.1
        have p68 : (Int32.toInt r64) ≤ 1 := w65.2.1
        have p69 : 0 ≤ (Int32.toInt z57) := w65.2.2.1
        have p70 : (Int32.toInt z57) ≤ 9 := w65.2.2.2.1
        have p71 : 0 ≤ (Int32.toInt z58) := w65.2.2.2.2.1
        have p72 : (Int32.toInt z58) ≤ 400 := w65.2.2.2.2.2.1
        have p73 : 0 ≤ (Int32.toInt z61) := w65.2.2.2.2.2.2.1
        have p74 : (Int32.toInt z61) ≤ 1 := w65.2.2.2.2.2.2.2.1
        have p75 : ((Int32.toInt z58) ≤ (Int32.toInt x22)) := w65.2.2.2.2.2.2.2.2.1
        have p76 : (((Int32.toInt r64) = 0 ∧ 1 ≤ (Int32.toInt z57)) ∨ ((Int32.toInt r64) = 1 ∧ (Int32.toInt z57) = (Int32.toInt x20))) := w65.2.2.2.2.2.2.2.2.2
        rcases p76 with ⟨k77, k78⟩ | p76
        · skip
          exact r_zret 150 Rt dX12_draws_150 (nz_n (by omega) (by omega)) (z57, z58, z59, z60, z61, f62, f63) (show 0 ≤ (Int32.toInt r64) ∧ (Int32.toInt r64) ≤ 1 ∧ 0 ≤ (Int32.toInt z57) ∧ (Int32.toInt z57) ≤ 9 ∧ 0 ≤ (Int32.toInt z58) ∧ (Int32.toInt z58) ≤ 400 ∧ 0 ≤ (Int32.toInt z61) ∧ (Int32.toInt z61) ≤ 1 ∧ ((Int32.toInt z58) ≤ (Int32.toInt x22)) ∧ (((Int32.toInt r64) = 0 ∧ 1 ≤ (Int32.toInt z57)) ∨ ((Int32.toInt r64) = 1 ∧ (Int32.toInt z57) = (Int32.toInt x20))) from ⟨(show _ ∧ _ from ⟨p67, p68⟩).1, (show _ ∧ _ from ⟨p67, p68⟩).2, (show _ ∧ _ from ⟨p69, p70⟩).1, (show _ ∧ _ from ⟨p69, p70⟩).2, (show _ ∧ _ from ⟨p71, p72⟩).1, (show _ ∧ _ from ⟨p71, p72⟩).2, (show _ ∧ _ from ⟨p73, p74⟩).1, (show _ ∧ _ from ⟨p73, p74⟩).2, (by first | omega | ((repeat' apply And.intro) <;> first | trivial | rfl | assumption | omega | decide | exact Or.inl rfl | exact Or.inr (Or.inl rfl) | exact Or.inr (Or.inr rfl) | exact Or.inr (Or.inr (by assumption)))), (by first | omega | ((repeat' apply And.intro) <;> first | trivial | rfl | assumption | omega | decide | exact Or.inl rfl | exact Or.inr (Or.inl rfl) | exact Or.inr (Or.inr rfl) | exact Or.inr (Or.inr (by assumption))))⟩) [0, 1, 2, 3] (by decide) rfl (Nat.le_of_ble_eq_true rfl) (Nat.le_of_ble_eq_true rfl)
        obtain ⟨k79, k80⟩ := p76
        exact r_zret 150 Rt dX12_draws_150 (nz_n (by omega) (by omega)) (z57, z58, z59, z60, z61, f62, f63) (show 0 ≤ (Int32.toInt r64) ∧ (Int32.toInt r64) ≤ 1 ∧ 0 ≤ (Int32.toInt z57) ∧ (Int32.toInt z57) ≤ 9 ∧ 0 ≤ (Int32.toInt z58) ∧ (Int32.toInt z58) ≤ 400 ∧ 0 ≤ (Int32.toInt z61) ∧ (Int32.toInt z61) ≤ 1 ∧ ((Int32.toInt z58) ≤ (Int32.toInt x22)) ∧ (((Int32.toInt r64) = 0 ∧ 1 ≤ (Int32.toInt z57)) ∨ ((Int32.toInt r64) = 1 ∧ (Int32.toInt z57) = (Int32.toInt x20))) from ⟨(show _ ∧ _ from ⟨p67, p68⟩).1, (show _ ∧ _ from ⟨p67, p68⟩).2, (show _ ∧ _ from ⟨p69, p70⟩).1, (show _ ∧ _ from ⟨p69, p70⟩).2, (show _ ∧ _ from ⟨p71, p72⟩).1, (show _ ∧ _ from ⟨p71, p72⟩).2, (show _ ∧ _ from ⟨p73, p74⟩).1, (show _ ∧ _ from ⟨p73, p74⟩).2, (by first | omega | ((repeat' apply And.intro) <;> first | trivial | rfl | assumption | omega | decide | exact Or.inl rfl | exact Or.inr (Or.inl rfl) | exact Or.inr (Or.inr rfl) | exact Or.inr (Or.inr (by assumption)))), (by first | omega | ((repeat' apply And.intro) <;> first | trivial | rfl | assumption | omega | decide | exact Or.inl rfl | exact Or.inr (Or.inl rfl) | exact Or.inr (Or.inr rfl) | exact Or.inr (Or.inr (by assumption))))⟩) [0, 1, 2, 3] (by decide) rfl (Nat.le_of_ble_eq_true rfl) (Nat.le_of_ble_eq_true rfl)
      · skip
        have k81 : ¬ ((Int32.toInt x0) = 7) := fun h_9 => c55 ((fa_eq x0 7).mpr h_9)
        by_cases c82 : x0 = 8
        · skip
          have k83 : (Int32.toInt x0) = 8 := (fa_eq x0 8).mp c82
          refine r_lookup 1 151 (off := 150) C dX12_draws_1 (by decide) (by rw [c82]; decide) (by decide) ?_
          refine r_aload_n 151 0 C dX12_draws_151 rfl ?_
          refine r_iconst 152 0 C dX12_draws_152 (by decide) ?_
          refine r_aload_n 153 0 C dX12_draws_153 rfl ?_
          refine r_get 154 C dX12_draws_154 (k := 62) 0 rfl rfl hiX12 (by decide) rfl (mg 1 rfl) (Or.inl rfl) rfl ?_
          refine r_iconst 157 1 C dX12_draws_157 (by decide) ?_
          refine r_callVi 158 C dX12_draws_158 [] [(h0, .inr (11, [.ref h4, .int x1, .ref h5, .int x2, .int x3, .int x4, .ref h6, .ref h7, .ref h8, .ref h9, .int x5, .int x6, .int x7, .ref h10, .ref h11, .ref h12, .ref h13, .int x8, .int x9, .int x10, .long y0, .int x11, .int x12, .long y1, .long y2, .ref h14, .ref h15, .ref h16, .ref h17, .long y3, .int x13, .ref h18, .int x14, .int x15, .int x16, .int x17, .ref h19, .ref h20, .ref h21, .ref h22, .ref h23, .ref h24, .ref h25, .ref h26, .ref h27, .ref h28, .ref h29, .int x18, .int x19, .int x20, .int x21, .int x22, .int x23, .int x24, .long y4, .int x25, .ref h1, .ref h2, .long y5, .long y6, .int x26, .ref h3, .int x27, .ref h30, .ref h31, .ref h32, .ref h33, .int x28, .int x29, .int x30, .int x31, .ref h34, .ref h35, .int x32, .int x33, .ref h36])), (h1, .inl (gI g, 400, .inl fn0)), (h2, .inl (gJ g, 2400, .inr (.inl fm0))), (h3, .inl (gJ g, 48, .inr (.inl fm1)))] [] (fun sz => c115_X12_sixes l g h0 h1 h2 h3 0 x27 h4 x1 h5 x2 x3 x4 h6 h7 h8 h9 x5 x6 x7 h10 h11 h12 h13 x8 x9 x10 y0 x11 x12 y1 y2 h14 h15 h16 h17 y3 x13 h18 x14 x15 x16 x17 h19 h20 h21 h22 h23 h24 h25 h26 h27 h28 h29 x18 x19 x20 x21 x22 x23 x24 y4 x25 y5 y6 x26 x27 h30 h31 h32 h33 x28 x29 x30 x31 h34 h35 x32 x33 h36 fn0 fm0 fm1 (by decide) i_x27 i_x1 i_x2 i_x4 i_x7 i_x8 i_x11 i_x12 i_y1 i_y2 i_x13 i_x14 i_x15 i_x16 i_x17 i_x19 i_x20 i_x21 i_x22 i_x23 i_x25 i_x26 i_x27 i_x28 i_x29 i_x30 i_x31 i_x32 i_x33 (by show ((Int32.toInt x21) ≤ (Int32.toInt x22)); first | assumption | omega) sz) gX12_draws_X12_sixes rfl ⟨rfl, rfl⟩ 3 (by decide) ⟨Nat.le_of_ble_eq_true rfl, Nat.le_of_ble_eq_true rfl⟩ 0 rfl rfl [0, 1, 2, 3] [] rfl rfl (by decide) (by decide) (by decide) rfl rfl (Nat.le_of_ble_eq_true rfl) ⟨Nat.le_of_ble_eq_true rfl, Nat.le_of_ble_eq_true rfl⟩ (fun r91 u93 w92 => ?_)
          obtain ⟨z84, z85, z86, z87, z88, f89, f90⟩ := u93
          refine r_ws [(h0, .inr (11, [.ref h4, .int x1, .ref h5, .int x2, .int x3, .int x4, .ref h6, .ref h7, .ref h8, .ref h9, .int x5, .int x6, .int x7, .ref h10, .ref h11, .ref h12, .ref h13, .int x8, .int x9, .int x10, .long y0, .int x11, .int x12, .long y1, .long y2, .ref h14, .ref h15, .ref h16, .ref h17, .long y3, .int x13, .ref h18, .int x14, .int x15, .int x16, .int x17, .ref h19, .ref h20, .ref h21, .ref h22, .ref h23, .ref h24, .ref h25, .ref h26, .ref h27, .ref h28, .ref h29, .int x18, .int x19, .int z84, .int z85, .int x22, .int x23, .int x24, .long y4, .int x25, .ref h1, .ref h2, .long z86, .long z87, .int z88, .ref h3, .int x27, .ref h30, .ref h31, .ref h32, .ref h33, .int x28, .int x29, .int x30, .int x31, .ref h34, .ref h35, .int x32, .int x33, .ref h36])), (h1, .inl (gI g, 400, .inl f89)), (h2, .inl (gJ g, 2400, .inr (.inl f90))), (h3, .inl (gJ g, 48, .inr (.inl fm1)))] rfl ?_
          have gz86 := fb_rngL z86
          have gz87 := fb_rngL z87
          have p94 : 0 ≤ (Int32.toInt r91) := w92.1
          have p95 : (Int32.toInt r91) ≤ 1 := w92.2.1
          have p96 : 0 ≤ (Int32.toInt z84) := w92.2.2.1
          have p97 : (Int32.toInt z84) ≤ 9 := w92.2.2.2.1
          have p98 : 0 ≤ (Int32.toInt z85) := w92.2.2.2.2.1
          have p99 : (Int32.toInt z85) ≤ 400 := w92.2.2.2.2.2.1
          have p100 : 0 ≤ (Int32.toInt z88) := w92.2.2.2.2.2.2.1
          have p101 : (Int32.toInt z88) ≤ 1 := w92.2.2.2.2.2.2.2.1
          have p102 : ((Int32.toInt z85) ≤ (Int32.toInt x22)) := w92.2.2.2.2.2.2.2.2.1
          have p103 : (((Int32.toInt r91) = 0 ∧ 1 ≤ (Int32.toInt z84)) ∨ ((Int32.toInt r91) = 1 ∧ (Int32.toInt z84) = (Int32.toInt x20))) := w92.2.2.2.2.2.2.2.2.2
          rcases p103 with ⟨k104, k105⟩ | p103
          · skip
            exact r_zret 161 Rt dX12_draws_161 (nz_n (by omega) (by omega)) (z84, z85, z86, z87, z88, f89, f90) (show 0 ≤ (Int32.toInt r91) ∧ (Int32.toInt r91) ≤ 1 ∧ 0 ≤ (Int32.toInt z84) ∧ (Int32.toInt z84) ≤ 9 ∧ 0 ≤ (Int32.toInt z85) ∧ (Int32.toInt z85) ≤ 400 ∧ 0 ≤ (Int32.toInt z88) ∧ (Int32.toInt z88) ≤ 1 ∧ ((Int32.toInt z85) ≤ (Int32.toInt x22)) ∧ (((Int32.toInt r91) = 0 ∧ 1 ≤ (Int32.toInt z84)) ∨ ((Int32.toInt r91) = 1 ∧ (Int32.toInt z84) = (Int32.toInt x20))) from ⟨(show _ ∧ _ from ⟨p94, p95⟩).1, (show _ ∧ _ from ⟨p94, p95⟩).2, (show _ ∧ _ from ⟨p96, p97⟩).1, (show _ ∧ _ from ⟨p96, p97⟩).2, (show _ ∧ _ from ⟨p98, p99⟩).1, (show _ ∧ _ from ⟨p98, p99⟩).2, (show _ ∧ _ from ⟨p100, p101⟩).1, (show _ ∧ _ from ⟨p100, p101⟩).2, (by first | omega | ((repeat' apply And.intro) <;> first | trivial | rfl | assumption | omega | decide | exact Or.inl rfl | exact Or.inr (Or.inl rfl) | exact Or.inr (Or.inr rfl) | exact Or.inr (Or.inr (by assumption)))), (by first | omega | ((repeat' apply And.intro) <;> first | trivial | rfl | assumption | omega | decide | exact Or.inl rfl | exact Or.inr (Or.inl rfl) | exact Or.inr (Or.inr rfl) | exact Or.inr (Or.inr (by assumption))))⟩) [0, 1, 2, 3] (by decide) rfl (Nat.le_of_ble_eq_true rfl) (Nat.le_of_ble_eq_true rfl)
          obtain ⟨k106, k107⟩ := p103
          exact r_zret 161 Rt dX12_draws_161 (nz_n (by omega) (by omega)) (z84, z85, z86, z87, z88, f89, f90) (show 0 ≤ (Int32.toInt r91) ∧ (Int32.toInt r91) ≤ 1 ∧ 0 ≤ (Int32.toInt z84) ∧ (Int32.toInt z84) ≤ 9 ∧ 0 ≤ (Int32.toInt z85) ∧ (Int32.toInt z85) ≤ 400 ∧ 0 ≤ (Int32.toInt z88) ∧ (Int32.toInt z88) ≤ 1 ∧ ((Int32.toInt z85) ≤ (Int32.toInt x22)) ∧ (((Int32.toInt r91) = 0 ∧ 1 ≤ (Int32.toInt z84)) ∨ ((Int32.toInt r91) = 1 ∧ (Int32.toInt z84) = (Int32.toInt x20))) from ⟨(show _ ∧ _ from ⟨p94, p95⟩).1, (show _ ∧ _ from ⟨p94, p95⟩).2, (show _ ∧ _ from ⟨p96, p97⟩).1, (show _ ∧ _ from ⟨p96, p97⟩).2, (show _ ∧ _ from ⟨p98, p99⟩).1, (show _ ∧ _ from ⟨p98, p99⟩).2, (show _ ∧ _ from ⟨p100, p101⟩).1, (show _ ∧ _ from ⟨p100, p101⟩).2, (by first | omega | ((repeat' apply And.intro) <;> first | trivial | rfl | assumption | omega | decide | exact Or.inl rfl | exact Or.inr (Or.inl rfl) | exact Or.inr (Or.inr rfl) | exact Or.inr (Or.inr (by assumption)))), (by first | omega | ((repeat' apply And.intro) <;> first | trivial | rfl | assumption | omega | decide | exact Or.inl rfl | exact Or.inr (Or.inl rfl) | exact Or.inr (Or.inr rfl) | exact Or.inr (Or.inr (by assumption))))⟩) [0, 1, 2, 3] (by decide) rfl (Nat.le_of_ble_eq_true rfl) (Nat.le_of_ble_eq_true rfl)
        · skip
          have k108 : ¬ ((Int32.toInt x0) = 8) := fun h_9 => c82 ((fa_eq x0 8).mpr h_9)
          by_cases c109 : x0 = 24
          · skip
            have k110 : (Int32.toInt x0) = 24 := (fa_eq x0 24).mp c109
            refine r_lookup 1 162 (off := 161) C dX12_draws_1 (by decide) (by rw [c109]; decide) (by decide) ?_
            refine r_aload_n 162 0 C dX12_draws_162 rfl ?_
            refine r_get 163 C dX12_draws_163 (k := 62) 0 rfl rfl hiX12 (by decide) rfl (mg 1 rfl) (Or.inl rfl) rfl ?_
            refine r_bipush 166 8 C dX12_draws_166 (by decide) ?_
            refine r_icmp_lt 168 182 C dX12_draws_168 (by decide) (fun c111 => ?_) (fun c111 => ?_)
            · skip
              have k112 : (Int32.toInt x27) < 8 := (fa_lt x27 8).mp c111
              refine r_aload_n 182 0 C dX12_draws_182 rfl ?_
              refine r_iconst 183 2 C dX12_draws_183 (by decide) ?_
              refine r_callVi 184 C dX12_draws_184 [] [(h0, .inr (11, [.ref h4, .int x1, .ref h5, .int x2, .int x3, .int x4, .ref h6, .ref h7, .ref h8, .ref h9, .int x5, .int x6, .int x7, .ref h10, .ref h11, .ref h12, .ref h13, .int x8, .int x9, .int x10, .long y0, .int x11, .int x12, .long y1, .long y2, .ref h14, .ref h15, .ref h16, .ref h17, .long y3, .int x13, .ref h18, .int x14, .int x15, .int x16, .int x17, .ref h19, .ref h20, .ref h21, .ref h22, .ref h23, .ref h24, .ref h25, .ref h26, .ref h27, .ref h28, .ref h29, .int x18, .int x19, .int x20, .int x21, .int x22, .int x23, .int x24, .long y4, .int x25, .ref h1, .ref h2, .long y5, .long y6, .int x26, .ref h3, .int x27, .ref h30, .ref h31, .ref h32, .ref h33, .int x28, .int x29, .int x30, .int x31, .ref h34, .ref h35, .int x32, .int x33, .ref h36]))] [(h1, .inl (gI g, 400, .inl fn0)), (h2, .inl (gJ g, 2400, .inr (.inl fm0))), (h3, .inl (gJ g, 48, .inr (.inl fm1)))] (fun sz => c65_X12_stops l g h0 2 h4 x1 h5 x2 x3 x4 h6 h7 h8 h9 x5 x6 x7 h10 h11 h12 h13 x8 x9 x10 y0 x11 x12 y1 y2 h14 h15 h16 h17 y3 x13 h18 x14 x15 x16 x17 h19 h20 h21 h22 h23 h24 h25 h26 h27 h28 h29 x18 x19 x20 x21 x22 x23 x24 y4 x25 h1 h2 y5 y6 x26 h3 x27 h30 h31 h32 h33 x28 x29 x30 x31 h34 h35 x32 x33 h36 (by decide) i_x1 i_x2 i_x4 i_x7 i_x8 i_x11 i_x12 i_y1 i_y2 i_x13 i_x14 i_x15 i_x16 i_x17 i_x19 i_x20 i_x21 i_x22 i_x23 i_x25 i_x26 i_x27 i_x28 i_x29 i_x30 i_x31 i_x32 i_x33 sz) gX12_draws_X12_stops rfl ⟨rfl, rfl⟩ 1 (by decide) ⟨Nat.le_of_ble_eq_true rfl, Nat.le_of_ble_eq_true rfl⟩ 0 rfl rfl [0] [1, 2, 3] rfl rfl (by decide) (by decide) (by decide) rfl rfl (Nat.le_of_ble_eq_true rfl) ⟨Nat.le_of_ble_eq_true rfl, Nat.le_of_ble_eq_true rfl⟩ (fun r114 z113 w115 => ?_)
              refine r_ws [(h1, .inl (gI g, 400, .inl fn0)), (h2, .inl (gJ g, 2400, .inr (.inl fm0))), (h3, .inl (gJ g, 48, .inr (.inl fm1))), (h0, .inr (11, [.ref h4, .int x1, .ref h5, .int x2, .int x3, .int x4, .ref h6, .ref h7, .ref h8, .ref h9, .int x5, .int x6, .int x7, .ref h10, .ref h11, .ref h12, .ref h13, .int x8, .int x9, .int x10, .long y0, .int x11, .int x12, .long y1, .long y2, .ref h14, .ref h15, .ref h16, .ref h17, .long y3, .int x13, .ref h18, .int x14, .int x15, .int x16, .int x17, .ref h19, .ref h20, .ref h21, .ref h22, .ref h23, .ref h24, .ref h25, .ref h26, .ref h27, .ref h28, .ref h29, .int x18, .int x19, .int z113, .int x21, .int x22, .int x23, .int x24, .long y4, .int x25, .ref h1, .ref h2, .long y5, .long y6, .int x26, .ref h3, .int x27, .ref h30, .ref h31, .ref h32, .ref h33, .int x28, .int x29, .int x30, .int x31, .ref h34, .ref h35, .int x32, .int x33, .ref h36]))] rfl ?_
              have p116 : 0 = r114 := (w115.1).symm
              subst p116
              have p117 : 0 ≤ (Int32.toInt z113) := w115.2.1
              have p118 : (Int32.toInt z113) ≤ 9 := w115.2.2.1
              have p119 : (1 ≤ (Int32.toInt z113)) := w115.2.2.2
              refine r_if_eq_t 187 227 C dX12_draws_187 (by decide) (by decide) ?_
              refine r_iconst 227 0 C dX12_draws_227 (by decide) ?_
              exact r_zret 228 Rt dX12_draws_228 (by decide) (z113, x21, y5, y6, x26, fn0, fm0) (show 0 ≤ (Int32.toInt 0) ∧ (Int32.toInt 0) ≤ 1 ∧ 0 ≤ (Int32.toInt z113) ∧ (Int32.toInt z113) ≤ 9 ∧ 0 ≤ (Int32.toInt x21) ∧ (Int32.toInt x21) ≤ 400 ∧ 0 ≤ (Int32.toInt x26) ∧ (Int32.toInt x26) ≤ 1 ∧ ((Int32.toInt x21) ≤ (Int32.toInt x22)) ∧ ((0 = 0 ∧ 1 ≤ (Int32.toInt z113)) ∨ (0 = 1 ∧ (Int32.toInt z113) = (Int32.toInt x20))) from ⟨(by decide), (by decide), (show _ ∧ _ from ⟨p117, p118⟩).1, (show _ ∧ _ from ⟨p117, p118⟩).2, i_x21.1, i_x21.2, i_x26.1, i_x26.2, (by first | omega | ((repeat' apply And.intro) <;> first | trivial | rfl | assumption | omega | decide | exact Or.inl rfl | exact Or.inr (Or.inl rfl) | exact Or.inr (Or.inr rfl) | exact Or.inr (Or.inr (by assumption)))), (by first | omega | ((repeat' apply And.intro) <;> first | trivial | rfl | assumption | omega | decide | exact Or.inl rfl | exact Or.inr (Or.inl rfl) | exact Or.inr (Or.inr rfl) | exact Or.inr (Or.inr (by assumption))))⟩) [3, 0, 1, 2] (by decide) rfl (Nat.le_of_ble_eq_true rfl) (Nat.le_of_ble_eq_true rfl)
            · skip
              have k120 : ¬ ((Int32.toInt x27) < 8) := fun h_9 => c111 ((fa_lt x27 8).mpr h_9)
              refine r_aload_n 171 0 C dX12_draws_171 rfl ?_
              refine r_get 172 C dX12_draws_172 (k := 62) 0 rfl rfl hiX12 (by decide) rfl (mg 1 rfl) (Or.inl rfl) rfl ?_
              refine r_bipush 175 6 C dX12_draws_175 (by decide) ?_
              obtain ⟨z121, ez121⟩ : ∃ z_9, x27 - x27 / 6 * 6 = z_9 := ⟨_, rfl⟩
              have tz121 : (Int32.toInt z121) = (Int32.toInt x27) % 6 := by rw [← ez121]; exact rem_nn (by omega) (n := 6) (by decide) (by decide)
              refine r_irem 177 z121 C dX12_draws_177 (by decide) ez121 ?_
              refine r_iconst 178 2 C dX12_draws_178 (by decide) ?_
              refine r_icmp_eq 179 190 C dX12_draws_179 (by decide) (fun c122 => ?_) (fun c122 => ?_)
              · skip
                have k123 : (Int32.toInt z121) = 2 := (fa_eq z121 2).mp c122
                refine r_aload_n 190 0 C dX12_draws_190 rfl ?_
                refine r_iconst 191 0 C dX12_draws_191 (by decide) ?_
                refine r_aload_n 192 0 C dX12_draws_192 rfl ?_
                refine r_get 193 C dX12_draws_193 (k := 62) 0 rfl rfl hiX12 (by decide) rfl (mg 1 rfl) (Or.inl rfl) rfl ?_
                refine r_iconst 196 2 C dX12_draws_196 (by decide) ?_
                obtain ⟨z124, ez124⟩ : ∃ z_9, x27 - 2 = z_9 := ⟨_, rfl⟩
                have tz124 : (Int32.toInt z124) = (Int32.toInt x27) - 2 := by rw [← ez124]; exact fb_subIv (a := 0) (b := 48) (c := 2) (d := 2) i_x27 ⟨by decide, by decide⟩ (by decide) (by decide)
                refine r_isub 197 z124 C dX12_draws_197 ez124 ?_
                refine r_iconst 198 1 C dX12_draws_198 (by decide) ?_
                refine r_callVi 199 C dX12_draws_199 [] [(h0, .inr (11, [.ref h4, .int x1, .ref h5, .int x2, .int x3, .int x4, .ref h6, .ref h7, .ref h8, .ref h9, .int x5, .int x6, .int x7, .ref h10, .ref h11, .ref h12, .ref h13, .int x8, .int x9, .int x10, .long y0, .int x11, .int x12, .long y1, .long y2, .ref h14, .ref h15, .ref h16, .ref h17, .long y3, .int x13, .ref h18, .int x14, .int x15, .int x16, .int x17, .ref h19, .ref h20, .ref h21, .ref h22, .ref h23, .ref h24, .ref h25, .ref h26, .ref h27, .ref h28, .ref h29, .int x18, .int x19, .int x20, .int x21, .int x22, .int x23, .int x24, .long y4, .int x25, .ref h1, .ref h2, .long y5, .long y6, .int x26, .ref h3, .int x27, .ref h30, .ref h31, .ref h32, .ref h33, .int x28, .int x29, .int x30, .int x31, .ref h34, .ref h35, .int x32, .int x33, .ref h36])), (h1, .inl (gI g, 400, .inl fn0)), (h2, .inl (gJ g, 2400, .inr (.inl fm0))), (h3, .inl (gJ g, 48, .inr (.inl fm1)))] [] (fun sz => c115_X12_sixes l g h0 h1 h2 h3 0 z124 h4 x1 h5 x2 x3 x4 h6 h7 h8 h9 x5 x6 x7 h10 h11 h12 h13 x8 x9 x10 y0 x11 x12 y1 y2 h14 h15 h16 h17 y3 x13 h18 x14 x15 x16 x17 h19 h20 h21 h22 h23 h24 h25 h26 h27 h28 h29 x18 x19 x20 x21 x22 x23 x24 y4 x25 y5 y6 x26 x27 h30 h31 h32 h33 x28 x29 x30 x31 h34 h35 x32 x33 h36 fn0 fm0 fm1 (by decide) ⟨by omega, by omega⟩ i_x1 i_x2 i_x4 i_x7 i_x8 i_x11 i_x12 i_y1 i_y2 i_x13 i_x14 i_x15 i_x16 i_x17 i_x19 i_x20 i_x21 i_x22 i_x23 i_x25 i_x26 i_x27 i_x28 i_x29 i_x30 i_x31 i_x32 i_x33 (by show ((Int32.toInt x21) ≤ (Int32.toInt x22)); first | assumption | omega) sz) gX12_draws_X12_sixes rfl ⟨rfl, rfl⟩ 3 (by decide) ⟨Nat.le_of_ble_eq_true rfl, Nat.le_of_ble_eq_true rfl⟩ 0 rfl rfl [0, 1, 2, 3] [] rfl rfl (by decide) (by decide) (by decide) rfl rfl (Nat.le_of_ble_eq_true rfl) ⟨Nat.le_of_ble_eq_true rfl, Nat.le_of_ble_eq_true rfl⟩ (fun r132 u134 w133 => ?_)
                obtain ⟨z125, z126, z127, z128, z129, f130, f131⟩ := u134
                refine r_ws [(h0, .inr (11, [.ref h4, .int x1, .ref h5, .int x2, .int x3, .int x4, .ref h6, .ref h7, .ref h8, .ref h9, .int x5, .int x6, .int x7, .ref h10, .ref h11, .ref h12, .ref h13, .int x8, .int x9, .int x10, .long y0, .int x11, .int x12, .long y1, .long y2, .ref h14, .ref h15, .ref h16, .ref h17, .long y3, .int x13, .ref h18, .int x14, .int x15, .int x16, .int x17, .ref h19, .ref h20, .ref h21, .ref h22, .ref h23, .ref h24, .ref h25, .ref h26, .ref h27, .ref h28, .ref h29, .int x18, .int x19, .int z125, .int z126, .int x22, .int x23, .int x24, .long y4, .int x25, .ref h1, .ref h2, .long z127, .long z128, .int z129, .ref h3, .int x27, .ref h30, .ref h31, .ref h32, .ref h33, .int x28, .int x29, .int x30, .int x31, .ref h34, .ref h35, .int x32, .int x33, .ref h36])), (h1, .inl (gI g, 400, .inl f130)), (h2, .inl (gJ g, 2400, .inr (.inl f131))), (h3, .inl (gJ g, 48, .inr (.inl fm1)))] rfl ?_
                have gz127 := fb_rngL z127
                have gz128 := fb_rngL z128
                have p135 : 0 ≤ (Int32.toInt r132) := w133.1
                have p136 : (Int32.toInt r132) ≤ 1 := w133.2.1
                have p137 : 0 ≤ (Int32.toInt z125) := w133.2.2.1
                have p138 : (Int32.toInt z125) ≤ 9 := w133.2.2.2.1
                have p139 : 0 ≤ (Int32.toInt z126) := w133.2.2.2.2.1
                have p140 : (Int32.toInt z126) ≤ 400 := w133.2.2.2.2.2.1
                have p141 : 0 ≤ (Int32.toInt z129) := w133.2.2.2.2.2.2.1
                have p142 : (Int32.toInt z129) ≤ 1 := w133.2.2.2.2.2.2.2.1
                have p143 : ((Int32.toInt z126) ≤ (Int32.toInt x22)) := w133.2.2.2.2.2.2.2.2.1
                have p144 : (((Int32.toInt r132) = 0 ∧ 1 ≤ (Int32.toInt z125)) ∨ ((Int32.toInt r132) = 1 ∧ (Int32.toInt z125) = (Int32.toInt x20))) := w133.2.2.2.2.2.2.2.2.2
                rcases p144 with ⟨k145, k146⟩ | p144
                · skip
                  refine r_if_eq_t 202 227 C dX12_draws_202 (by decide) ((fa_eq r132 0).mpr (by show (Int32.toInt r132) = 0; omega)) ?_
                  refine r_iconst 227 0 C dX12_draws_227 (by decide) ?_
                  exact r_zret 228 Rt dX12_draws_228 (by decide) (z125, z126, z127, z128, z129, f130, f131) (show 0 ≤ (Int32.toInt 0) ∧ (Int32.toInt 0) ≤ 1 ∧ 0 ≤ (Int32.toInt z125) ∧ (Int32.toInt z125) ≤ 9 ∧ 0 ≤ (Int32.toInt z126) ∧ (Int32.toInt z126) ≤ 400 ∧ 0 ≤ (Int32.toInt z129) ∧ (Int32.toInt z129) ≤ 1 ∧ ((Int32.toInt z126) ≤ (Int32.toInt x22)) ∧ ((0 = 0 ∧ 1 ≤ (Int32.toInt z125)) ∨ (0 = 1 ∧ (Int32.toInt z125) = (Int32.toInt x20))) from ⟨(by decide), (by decide), (show _ ∧ _ from ⟨p137, p138⟩).1, (show _ ∧ _ from ⟨p137, p138⟩).2, (show _ ∧ _ from ⟨p139, p140⟩).1, (show _ ∧ _ from ⟨p139, p140⟩).2, (show _ ∧ _ from ⟨p141, p142⟩).1, (show _ ∧ _ from ⟨p141, p142⟩).2, (by first | omega | ((repeat' apply And.intro) <;> first | trivial | rfl | assumption | omega | decide | exact Or.inl rfl | exact Or.inr (Or.inl rfl) | exact Or.inr (Or.inr rfl) | exact Or.inr (Or.inr (by assumption)))), (by first | omega | ((repeat' apply And.intro) <;> first | trivial | rfl | assumption | omega | decide | exact Or.inl rfl | exact Or.inr (Or.inl rfl) | exact Or.inr (Or.inr rfl) | exact Or.inr (Or.inr (by assumption))))⟩) [0, 1, 2, 3] (by decide) rfl (Nat.le_of_ble_eq_true rfl) (Nat.le_of_ble_eq_true rfl)
                obtain ⟨k147, k148⟩ := p144
                refine r_if_eq_f 202 227 C dX12_draws_202 (by decide) (fun h_9 => by have h_8 : (Int32.toInt r132) = 0 := (fa_eq r132 0).mp h_9; omega) ?_
                refine r_aload_n 205 0 C dX12_draws_205 rfl ?_
                refine r_aload_n 206 0 C dX12_draws_206 rfl ?_
                refine r_get 207 C dX12_draws_207 (k := 62) 0 rfl rfl hiX12 (by decide) rfl (mg 1 rfl) (Or.inl rfl) rfl ?_
                refine r_iconst 210 2 C dX12_draws_210 (by decide) ?_
                refine r_isub 211 z124 C dX12_draws_211 ez124 ?_
                refine r_aload_n 212 0 C dX12_draws_212 rfl ?_
                refine r_get 213 C dX12_draws_213 (k := 62) 0 rfl rfl hiX12 (by decide) rfl (mg 1 rfl) (Or.inl rfl) rfl ?_
                refine r_iconst 216 1 C dX12_draws_216 (by decide) ?_
                refine r_callVi 217 C dX12_draws_217 [] [(h0, .inr (11, [.ref h4, .int x1, .ref h5, .int x2, .int x3, .int x4, .ref h6, .ref h7, .ref h8, .ref h9, .int x5, .int x6, .int x7, .ref h10, .ref h11, .ref h12, .ref h13, .int x8, .int x9, .int x10, .long y0, .int x11, .int x12, .long y1, .long y2, .ref h14, .ref h15, .ref h16, .ref h17, .long y3, .int x13, .ref h18, .int x14, .int x15, .int x16, .int x17, .ref h19, .ref h20, .ref h21, .ref h22, .ref h23, .ref h24, .ref h25, .ref h26, .ref h27, .ref h28, .ref h29, .int x18, .int x19, .int z125, .int z126, .int x22, .int x23, .int x24, .long y4, .int x25, .ref h1, .ref h2, .long z127, .long z128, .int z129, .ref h3, .int x27, .ref h30, .ref h31, .ref h32, .ref h33, .int x28, .int x29, .int x30, .int x31, .ref h34, .ref h35, .int x32, .int x33, .ref h36])), (h1, .inl (gI g, 400, .inl f130)), (h2, .inl (gJ g, 2400, .inr (.inl f131))), (h3, .inl (gJ g, 48, .inr (.inl fm1)))] [] (fun sz => c112_X12_pairs l g h0 h1 h2 h3 z124 x27 h4 x1 h5 x2 x3 x4 h6 h7 h8 h9 x5 x6 x7 h10 h11 h12 h13 x8 x9 x10 y0 x11 x12 y1 y2 h14 h15 h16 h17 y3 x13 h18 x14 x15 x16 x17 h19 h20 h21 h22 h23 h24 h25 h26 h27 h28 h29 x18 x19 z125 z126 x22 x23 x24 y4 x25 z127 z128 z129 x27 h30 h31 h32 h33 x28 x29 x30 x31 h34 h35 x32 x33 h36 f130 f131 fm1 ⟨by omega, by omega⟩ i_x27 i_x1 i_x2 i_x4 i_x7 i_x8 i_x11 i_x12 i_y1 i_y2 i_x13 i_x14 i_x15 i_x16 i_x17 i_x19 ⟨p137, p138⟩ ⟨p139, p140⟩ i_x22 i_x23 i_x25 ⟨p141, p142⟩ i_x27 i_x28 i_x29 i_x30 i_x31 i_x32 i_x33 (by show ((Int32.toInt z126) ≤ (Int32.toInt x22)); first | assumption | omega) sz) gX12_draws_X12_pairs rfl ⟨rfl, rfl⟩ 3 (by decide) ⟨Nat.le_of_ble_eq_true rfl, Nat.le_of_ble_eq_true rfl⟩ 0 rfl rfl [0, 1, 2, 3] [] rfl rfl (by decide) (by decide) (by decide) rfl rfl (Nat.le_of_ble_eq_true rfl) ⟨Nat.le_of_ble_eq_true rfl, Nat.le_of_ble_eq_true rfl⟩ (fun r156 u158 w157 => ?_)
                obtain ⟨z149, z150, z151, z152, z153, f154, f155⟩ := u158
                refine r_ws [(h0, .inr (11, [.ref h4, .int x1, .ref h5, .int x2, .int x3, .int x4, .ref h6, .ref h7, .ref h8, .ref h9, .int x5, .int x6, .int x7, .ref h10, .ref h11, .ref h12, .ref h13, .int x8, .int x9, .int x10, .long y0, .int x11, .int x12, .long y1, .long y2, .ref h14, .ref h15, .ref h16, .ref h17, .long y3, .int x13, .ref h18, .int x14, .int x15, .int x16, .int x17, .ref h19, .ref h20, .ref h21, .ref h22, .ref h23, .ref h24, .ref h25, .ref h26, .ref h27, .ref h28, .ref h29, .int x18, .int x19, .int z149, .int z150, .int x22, .int x23, .int x24, .long y4, .int x25, .ref h1, .ref h2, .long z151, .long z152, .int z153, .ref h3, .int x27, .ref h30, .ref h31, .ref h32, .ref h33, .int x28, .int x29, .int x30, .int x31, .ref h34, .ref h35, .int x32, .int x33, .ref h36])), (h1, .inl (gI g, 400, .inl f154)), (h2, .inl (gJ g, 2400, .inr (.inl f155))), (h3, .inl (gJ g, 48, .inr (.inl fm1)))] rfl ?_
                have gz151 := fb_rngL z151
                have gz152 := fb_rngL z152
                have p159 : 0 ≤ (Int32.toInt r156) := w157.1
                have p160 : (Int32.toInt r156) ≤ 1 := w157.2.1
                have p161 : 0 ≤ (Int32.toInt z149) := w157.2.2.1
                have p162 : (Int32.toInt z149) ≤ 9 := w157.2.2.2.1
                have p163 : 0 ≤ (Int32.toInt z150) := w157.2.2.2.2.1
                have p164 : (Int32.toInt z150) ≤ 400 := w157.2.2.2.2.2.1
                have p165 : 0 ≤ (Int32.toInt z153) := w157.2.2.2.2.2.2.1
                have p166 : (Int32.toInt z153) ≤ 1 := w157.2.2.2.2.2.2.2.1
                have p167 : ((Int32.toInt z150) ≤ (Int32.toInt x22)) := w157.2.2.2.2.2.2.2.2.1
                have p168 : (((Int32.toInt r156) = 0 ∧ 1 ≤ (Int32.toInt z149)) ∨ ((Int32.toInt r156) = 1 ∧ (Int32.toInt z149) = (Int32.toInt z125))) := w157.2.2.2.2.2.2.2.2.2
                rcases p168 with ⟨k169, k170⟩ | p168
                · skip
                  refine r_if_eq_t 220 227 C dX12_draws_220 (by decide) ((fa_eq r156 0).mpr (by show (Int32.toInt r156) = 0; omega)) ?_
                  refine r_iconst 227 0 C dX12_draws_227 (by decide) ?_
                  exact r_zret 228 Rt dX12_draws_228 (by decide) (z149, z150, z151, z152, z153, f154, f155) (show 0 ≤ (Int32.toInt 0) ∧ (Int32.toInt 0) ≤ 1 ∧ 0 ≤ (Int32.toInt z149) ∧ (Int32.toInt z149) ≤ 9 ∧ 0 ≤ (Int32.toInt z150) ∧ (Int32.toInt z150) ≤ 400 ∧ 0 ≤ (Int32.toInt z153) ∧ (Int32.toInt z153) ≤ 1 ∧ ((Int32.toInt z150) ≤ (Int32.toInt x22)) ∧ ((0 = 0 ∧ 1 ≤ (Int32.toInt z149)) ∨ (0 = 1 ∧ (Int32.toInt z149) = (Int32.toInt x20))) from ⟨(by decide), (by decide), (show _ ∧ _ from ⟨p161, p162⟩).1, (show _ ∧ _ from ⟨p161, p162⟩).2, (show _ ∧ _ from ⟨p163, p164⟩).1, (show _ ∧ _ from ⟨p163, p164⟩).2, (show _ ∧ _ from ⟨p165, p166⟩).1, (show _ ∧ _ from ⟨p165, p166⟩).2, (by first | omega | ((repeat' apply And.intro) <;> first | trivial | rfl | assumption | omega | decide | exact Or.inl rfl | exact Or.inr (Or.inl rfl) | exact Or.inr (Or.inr rfl) | exact Or.inr (Or.inr (by assumption)))), (by first | omega | ((repeat' apply And.intro) <;> first | trivial | rfl | assumption | omega | decide | exact Or.inl rfl | exact Or.inr (Or.inl rfl) | exact Or.inr (Or.inr rfl) | exact Or.inr (Or.inr (by assumption))))⟩) [0, 1, 2, 3] (by decide) rfl (Nat.le_of_ble_eq_true rfl) (Nat.le_of_ble_eq_true rfl)
                obtain ⟨k171, k172⟩ := p168
                refine r_if_eq_f 220 227 C dX12_draws_220 (by decide) (fun h_9 => by have h_8 : (Int32.toInt r156) = 0 := (fa_eq r156 0).mp h_9; omega) ?_
                refine r_iconst 223 1 C dX12_draws_223 (by decide) ?_
                refine r_goto 224 228 C dX12_draws_224 (by decide) ?_
                exact r_zret 228 Rt dX12_draws_228 (by decide) (z149, z150, z151, z152, z153, f154, f155) (show 0 ≤ (Int32.toInt 1) ∧ (Int32.toInt 1) ≤ 1 ∧ 0 ≤ (Int32.toInt z149) ∧ (Int32.toInt z149) ≤ 9 ∧ 0 ≤ (Int32.toInt z150) ∧ (Int32.toInt z150) ≤ 400 ∧ 0 ≤ (Int32.toInt z153) ∧ (Int32.toInt z153) ≤ 1 ∧ ((Int32.toInt z150) ≤ (Int32.toInt x22)) ∧ ((1 = 0 ∧ 1 ≤ (Int32.toInt z149)) ∨ (1 = 1 ∧ (Int32.toInt z149) = (Int32.toInt x20))) from ⟨(by decide), (by decide), (show _ ∧ _ from ⟨p161, p162⟩).1, (show _ ∧ _ from ⟨p161, p162⟩).2, (show _ ∧ _ from ⟨p163, p164⟩).1, (show _ ∧ _ from ⟨p163, p164⟩).2, (show _ ∧ _ from ⟨p165, p166⟩).1, (show _ ∧ _ from ⟨p165, p166⟩).2, (by first | omega | ((repeat' apply And.intro) <;> first | trivial | rfl | assumption | omega | decide | exact Or.inl rfl | exact Or.inr (Or.inl rfl) | exact Or.inr (Or.inr rfl) | exact Or.inr (Or.inr (by assumption)))), (by first | omega | ((repeat' apply And.intro) <;> first | trivial | rfl | assumption | omega | decide | exact Or.inl rfl | exact Or.inr (Or.inl rfl) | exact Or.inr (Or.inr rfl) | exact Or.inr (Or.inr (by assumption))))⟩) [0, 1, 2, 3] (by decide) rfl (Nat.le_of_ble_eq_true rfl) (Nat.le_of_ble_eq_true rfl)
              · skip
                have k173 : ¬ ((Int32.toInt z121) = 2) := fun h_9 => c122 ((fa_eq z121 2).mpr h_9)
                refine r_aload_n 182 0 C dX12_draws_182 rfl ?_
                refine r_iconst 183 2 C dX12_draws_183 (by decide) ?_
                refine r_callVi 184 C dX12_draws_184 [] [(h0, .inr (11, [.ref h4, .int x1, .ref h5, .int x2, .int x3, .int x4, .ref h6, .ref h7, .ref h8, .ref h9, .int x5, .int x6, .int x7, .ref h10, .ref h11, .ref h12, .ref h13, .int x8, .int x9, .int x10, .long y0, .int x11, .int x12, .long y1, .long y2, .ref h14, .ref h15, .ref h16, .ref h17, .long y3, .int x13, .ref h18, .int x14, .int x15, .int x16, .int x17, .ref h19, .ref h20, .ref h21, .ref h22, .ref h23, .ref h24, .ref h25, .ref h26, .ref h27, .ref h28, .ref h29, .int x18, .int x19, .int x20, .int x21, .int x22, .int x23, .int x24, .long y4, .int x25, .ref h1, .ref h2, .long y5, .long y6, .int x26, .ref h3, .int x27, .ref h30, .ref h31, .ref h32, .ref h33, .int x28, .int x29, .int x30, .int x31, .ref h34, .ref h35, .int x32, .int x33, .ref h36]))] [(h1, .inl (gI g, 400, .inl fn0)), (h2, .inl (gJ g, 2400, .inr (.inl fm0))), (h3, .inl (gJ g, 48, .inr (.inl fm1)))] (fun sz => c65_X12_stops l g h0 2 h4 x1 h5 x2 x3 x4 h6 h7 h8 h9 x5 x6 x7 h10 h11 h12 h13 x8 x9 x10 y0 x11 x12 y1 y2 h14 h15 h16 h17 y3 x13 h18 x14 x15 x16 x17 h19 h20 h21 h22 h23 h24 h25 h26 h27 h28 h29 x18 x19 x20 x21 x22 x23 x24 y4 x25 h1 h2 y5 y6 x26 h3 x27 h30 h31 h32 h33 x28 x29 x30 x31 h34 h35 x32 x33 h36 (by decide) i_x1 i_x2 i_x4 i_x7 i_x8 i_x11 i_x12 i_y1 i_y2 i_x13 i_x14 i_x15 i_x16 i_x17 i_x19 i_x20 i_x21 i_x22 i_x23 i_x25 i_x26 i_x27 i_x28 i_x29 i_x30 i_x31 i_x32 i_x33 sz) gX12_draws_X12_stops rfl ⟨rfl, rfl⟩ 1 (by decide) ⟨Nat.le_of_ble_eq_true rfl, Nat.le_of_ble_eq_true rfl⟩ 0 rfl rfl [0] [1, 2, 3] rfl rfl (by decide) (by decide) (by decide) rfl rfl (Nat.le_of_ble_eq_true rfl) ⟨Nat.le_of_ble_eq_true rfl, Nat.le_of_ble_eq_true rfl⟩ (fun r175 z174 w176 => ?_)
                refine r_ws [(h1, .inl (gI g, 400, .inl fn0)), (h2, .inl (gJ g, 2400, .inr (.inl fm0))), (h3, .inl (gJ g, 48, .inr (.inl fm1))), (h0, .inr (11, [.ref h4, .int x1, .ref h5, .int x2, .int x3, .int x4, .ref h6, .ref h7, .ref h8, .ref h9, .int x5, .int x6, .int x7, .ref h10, .ref h11, .ref h12, .ref h13, .int x8, .int x9, .int x10, .long y0, .int x11, .int x12, .long y1, .long y2, .ref h14, .ref h15, .ref h16, .ref h17, .long y3, .int x13, .ref h18, .int x14, .int x15, .int x16, .int x17, .ref h19, .ref h20, .ref h21, .ref h22, .ref h23, .ref h24, .ref h25, .ref h26, .ref h27, .ref h28, .ref h29, .int x18, .int x19, .int z174, .int x21, .int x22, .int x23, .int x24, .long y4, .int x25, .ref h1, .ref h2, .long y5, .long y6, .int x26, .ref h3, .int x27, .ref h30, .ref h31, .ref h32, .ref h33, .int x28, .int x29, .int x30, .int x31, .ref h34, .ref h35, .int x32, .int x33, .ref h36]))] rfl ?_
                have p177 : 0 = r175 := (w176.1).symm
                subst p177
                have p178 : 0 ≤ (Int32.toInt z174) := w176.2.1
                have p179 : (Int32.toInt z174) ≤ 9 := w176.2.2.1
                have p180 : (1 ≤ (Int32.toInt z174)) := w176.2.2.2
                refine r_if_eq_t 187 227 C dX12_draws_187 (by decide) (by decide) ?_
                refine r_iconst 227 0 C dX12_draws_227 (by decide) ?_
                exact r_zret 228 Rt dX12_draws_228 (by decide) (z174, x21, y5, y6, x26, fn0, fm0) (show 0 ≤ (Int32.toInt 0) ∧ (Int32.toInt 0) ≤ 1 ∧ 0 ≤ (Int32.toInt z174) ∧ (Int32.toInt z174) ≤ 9 ∧ 0 ≤ (Int32.toInt x21) ∧ (Int32.toInt x21) ≤ 400 ∧ 0 ≤ (Int32.toInt x26) ∧ (Int32.toInt x26) ≤ 1 ∧ ((Int32.toInt x21) ≤ (Int32.toInt x22)) ∧ ((0 = 0 ∧ 1 ≤ (Int32.toInt z174)) ∨ (0 = 1 ∧ (Int32.toInt z174) = (Int32.toInt x20))) from ⟨(by decide), (by decide), (show _ ∧ _ from ⟨p178, p179⟩).1, (show _ ∧ _ from ⟨p178, p179⟩).2, i_x21.1, i_x21.2, i_x26.1, i_x26.2, (by first | omega | ((repeat' apply And.intro) <;> first | trivial | rfl | assumption | omega | decide | exact Or.inl rfl | exact Or.inr (Or.inl rfl) | exact Or.inr (Or.inr rfl) | exact Or.inr (Or.inr (by assumption)))), (by first | omega | ((repeat' apply And.intro) <;> first | trivial | rfl | assumption | omega | decide | exact Or.inl rfl | exact Or.inr (Or.inl rfl) | exact Or.inr (Or.inr rfl) | exact Or.inr (Or.inr (by assumption))))⟩) [3, 0, 1, 2] (by decide) rfl (Nat.le_of_ble_eq_true rfl) (Nat.le_of_ble_eq_true rfl)
          · skip
            have k181 : ¬ ((Int32.toInt x0) = 24) := fun h_9 => c109 ((fa_eq x0 24).mpr h_9)
            by_cases c182 : x0 = 25
            · skip
              have k183 : (Int32.toInt x0) = 25 := (fa_eq x0 25).mp c182
              refine r_lookup 1 229 (off := 228) C dX12_draws_1 (by decide) (by rw [c182]; decide) (by decide) ?_
              refine r_aload_n 229 0 C dX12_draws_229 rfl ?_
              refine r_get 230 C dX12_draws_230 (k := 62) 0 rfl rfl hiX12 (by decide) rfl (mg 1 rfl) (Or.inl rfl) rfl ?_
              refine r_bipush 233 8 C dX12_draws_233 (by decide) ?_
              refine r_icmp_lt 235 247 C dX12_draws_235 (by decide) (fun c184 => ?_) (fun c184 => ?_)
              · skip
                have k185 : (Int32.toInt x27) < 8 := (fa_lt x27 8).mp c184
                refine r_aload_n 247 0 C dX12_draws_247 rfl ?_
                refine r_iconst 248 2 C dX12_draws_248 (by decide) ?_
                refine r_callVi 249 C dX12_draws_249 [] [(h0, .inr (11, [.ref h4, .int x1, .ref h5, .int x2, .int x3, .int x4, .ref h6, .ref h7, .ref h8, .ref h9, .int x5, .int x6, .int x7, .ref h10, .ref h11, .ref h12, .ref h13, .int x8, .int x9, .int x10, .long y0, .int x11, .int x12, .long y1, .long y2, .ref h14, .ref h15, .ref h16, .ref h17, .long y3, .int x13, .ref h18, .int x14, .int x15, .int x16, .int x17, .ref h19, .ref h20, .ref h21, .ref h22, .ref h23, .ref h24, .ref h25, .ref h26, .ref h27, .ref h28, .ref h29, .int x18, .int x19, .int x20, .int x21, .int x22, .int x23, .int x24, .long y4, .int x25, .ref h1, .ref h2, .long y5, .long y6, .int x26, .ref h3, .int x27, .ref h30, .ref h31, .ref h32, .ref h33, .int x28, .int x29, .int x30, .int x31, .ref h34, .ref h35, .int x32, .int x33, .ref h36]))] [(h1, .inl (gI g, 400, .inl fn0)), (h2, .inl (gJ g, 2400, .inr (.inl fm0))), (h3, .inl (gJ g, 48, .inr (.inl fm1)))] (fun sz => c65_X12_stops l g h0 2 h4 x1 h5 x2 x3 x4 h6 h7 h8 h9 x5 x6 x7 h10 h11 h12 h13 x8 x9 x10 y0 x11 x12 y1 y2 h14 h15 h16 h17 y3 x13 h18 x14 x15 x16 x17 h19 h20 h21 h22 h23 h24 h25 h26 h27 h28 h29 x18 x19 x20 x21 x22 x23 x24 y4 x25 h1 h2 y5 y6 x26 h3 x27 h30 h31 h32 h33 x28 x29 x30 x31 h34 h35 x32 x33 h36 (by decide) i_x1 i_x2 i_x4 i_x7 i_x8 i_x11 i_x12 i_y1 i_y2 i_x13 i_x14 i_x15 i_x16 i_x17 i_x19 i_x20 i_x21 i_x22 i_x23 i_x25 i_x26 i_x27 i_x28 i_x29 i_x30 i_x31 i_x32 i_x33 sz) gX12_draws_X12_stops rfl ⟨rfl, rfl⟩ 1 (by decide) ⟨Nat.le_of_ble_eq_true rfl, Nat.le_of_ble_eq_true rfl⟩ 0 rfl rfl [0] [1, 2, 3] rfl rfl (by decide) (by decide) (by decide) rfl rfl (Nat.le_of_ble_eq_true rfl) ⟨Nat.le_of_ble_eq_true rfl, Nat.le_of_ble_eq_true rfl⟩ (fun r187 z186 w188 => ?_)
                refine r_ws [(h1, .inl (gI g, 400, .inl fn0)), (h2, .inl (gJ g, 2400, .inr (.inl fm0))), (h3, .inl (gJ g, 48, .inr (.inl fm1))), (h0, .inr (11, [.ref h4, .int x1, .ref h5, .int x2, .int x3, .int x4, .ref h6, .ref h7, .ref h8, .ref h9, .int x5, .int x6, .int x7, .ref h10, .ref h11, .ref h12, .ref h13, .int x8, .int x9, .int x10, .long y0, .int x11, .int x12, .long y1, .long y2, .ref h14, .ref h15, .ref h16, .ref h17, .long y3, .int x13, .ref h18, .int x14, .int x15, .int x16, .int x17, .ref h19, .ref h20, .ref h21, .ref h22, .ref h23, .ref h24, .ref h25, .ref h26, .ref h27, .ref h28, .ref h29, .int x18, .int x19, .int z186, .int x21, .int x22, .int x23, .int x24, .long y4, .int x25, .ref h1, .ref h2, .long y5, .long y6, .int x26, .ref h3, .int x27, .ref h30, .ref h31, .ref h32, .ref h33, .int x28, .int x29, .int x30, .int x31, .ref h34, .ref h35, .int x32, .int x33, .ref h36]))] rfl ?_
                have p189 : 0 = r187 := (w188.1).symm
                subst p189
                have p190 : 0 ≤ (Int32.toInt z186) := w188.2.1
                have p191 : (Int32.toInt z186) ≤ 9 := w188.2.2.1
                have p192 : (1 ≤ (Int32.toInt z186)) := w188.2.2.2
                refine r_if_eq_t 252 294 C dX12_draws_252 (by decide) (by decide) ?_
                refine r_iconst 294 0 C dX12_draws_294 (by decide) ?_
                exact r_zret 295 Rt dX12_draws_295 (by decide) (z186, x21, y5, y6, x26, fn0, fm0) (show 0 ≤ (Int32.toInt 0) ∧ (Int32.toInt 0) ≤ 1 ∧ 0 ≤ (Int32.toInt z186) ∧ (Int32.toInt z186) ≤ 9 ∧ 0 ≤ (Int32.toInt x21) ∧ (Int32.toInt x21) ≤ 400 ∧ 0 ≤ (Int32.toInt x26) ∧ (Int32.toInt x26) ≤ 1 ∧ ((Int32.toInt x21) ≤ (Int32.toInt x22)) ∧ ((0 = 0 ∧ 1 ≤ (Int32.toInt z186)) ∨ (0 = 1 ∧ (Int32.toInt z186) = (Int32.toInt x20))) from ⟨(by decide), (by decide), (show _ ∧ _ from ⟨p190, p191⟩).1, (show _ ∧ _ from ⟨p190, p191⟩).2, i_x21.1, i_x21.2, i_x26.1, i_x26.2, (by first | omega | ((repeat' apply And.intro) <;> first | trivial | rfl | assumption | omega | decide | exact Or.inl rfl | exact Or.inr (Or.inl rfl) | exact Or.inr (Or.inr rfl) | exact Or.inr (Or.inr (by assumption)))), (by first | omega | ((repeat' apply And.intro) <;> first | trivial | rfl | assumption | omega | decide | exact Or.inl rfl | exact Or.inr (Or.inl rfl) | exact Or.inr (Or.inr rfl) | exact Or.inr (Or.inr (by assumption))))⟩) [3, 0, 1, 2] (by decide) rfl (Nat.le_of_ble_eq_true rfl) (Nat.le_of_ble_eq_true rfl)
              · skip
                have k193 : ¬ ((Int32.toInt x27) < 8) := fun h_9 => c184 ((fa_lt x27 8).mpr h_9)
                refine r_aload_n 238 0 C dX12_draws_238 rfl ?_
                refine r_get 239 C dX12_draws_239 (k := 62) 0 rfl rfl hiX12 (by decide) rfl (mg 1 rfl) (Or.inl rfl) rfl ?_
                refine r_iconst 242 2 C dX12_draws_242 (by decide) ?_
                obtain ⟨z194, ez194⟩ : ∃ z_9, x27 - x27 / 2 * 2 = z_9 := ⟨_, rfl⟩
                have tz194 : (Int32.toInt z194) = (Int32.toInt x27) % 2 := by rw [← ez194]; exact rem_nn (by omega) (n := 2) (by decide) (by decide)
                refine r_irem 243 z194 C dX12_draws_243 (by decide) ez194 ?_
                refine r_if_eq 244 255 C dX12_draws_244 (by decide) (fun c195 => ?_) (fun c195 => ?_)
                · skip
                  have k196 : (Int32.toInt z194) = 0 := (fa_eq z194 0).mp c195
                  refine r_aload_n 255 0 C dX12_draws_255 rfl ?_
                  refine r_iconst 256 0 C dX12_draws_256 (by decide) ?_
                  refine r_aload_n 257 0 C dX12_draws_257 rfl ?_
                  refine r_get 258 C dX12_draws_258 (k := 62) 0 rfl rfl hiX12 (by decide) rfl (mg 1 rfl) (Or.inl rfl) rfl ?_
                  refine r_bipush 261 6 C dX12_draws_261 (by decide) ?_
                  obtain ⟨z197, ez197⟩ : ∃ z_9, x27 - 6 = z_9 := ⟨_, rfl⟩
                  have tz197 : (Int32.toInt z197) = (Int32.toInt x27) - 6 := by rw [← ez197]; exact fb_subIv (a := 0) (b := 48) (c := 6) (d := 6) i_x27 ⟨by decide, by decide⟩ (by decide) (by decide)
                  refine r_isub 263 z197 C dX12_draws_263 ez197 ?_
                  refine r_iconst 264 1 C dX12_draws_264 (by decide) ?_
                  refine r_callVi 265 C dX12_draws_265 [] [(h0, .inr (11, [.ref h4, .int x1, .ref h5, .int x2, .int x3, .int x4, .ref h6, .ref h7, .ref h8, .ref h9, .int x5, .int x6, .int x7, .ref h10, .ref h11, .ref h12, .ref h13, .int x8, .int x9, .int x10, .long y0, .int x11, .int x12, .long y1, .long y2, .ref h14, .ref h15, .ref h16, .ref h17, .long y3, .int x13, .ref h18, .int x14, .int x15, .int x16, .int x17, .ref h19, .ref h20, .ref h21, .ref h22, .ref h23, .ref h24, .ref h25, .ref h26, .ref h27, .ref h28, .ref h29, .int x18, .int x19, .int x20, .int x21, .int x22, .int x23, .int x24, .long y4, .int x25, .ref h1, .ref h2, .long y5, .long y6, .int x26, .ref h3, .int x27, .ref h30, .ref h31, .ref h32, .ref h33, .int x28, .int x29, .int x30, .int x31, .ref h34, .ref h35, .int x32, .int x33, .ref h36])), (h1, .inl (gI g, 400, .inl fn0)), (h2, .inl (gJ g, 2400, .inr (.inl fm0))), (h3, .inl (gJ g, 48, .inr (.inl fm1)))] [] (fun sz => c112_X12_pairs l g h0 h1 h2 h3 0 z197 h4 x1 h5 x2 x3 x4 h6 h7 h8 h9 x5 x6 x7 h10 h11 h12 h13 x8 x9 x10 y0 x11 x12 y1 y2 h14 h15 h16 h17 y3 x13 h18 x14 x15 x16 x17 h19 h20 h21 h22 h23 h24 h25 h26 h27 h28 h29 x18 x19 x20 x21 x22 x23 x24 y4 x25 y5 y6 x26 x27 h30 h31 h32 h33 x28 x29 x30 x31 h34 h35 x32 x33 h36 fn0 fm0 fm1 (by decide) ⟨by omega, by omega⟩ i_x1 i_x2 i_x4 i_x7 i_x8 i_x11 i_x12 i_y1 i_y2 i_x13 i_x14 i_x15 i_x16 i_x17 i_x19 i_x20 i_x21 i_x22 i_x23 i_x25 i_x26 i_x27 i_x28 i_x29 i_x30 i_x31 i_x32 i_x33 (by show ((Int32.toInt x21) ≤ (Int32.toInt x22)); first | assumption | omega) sz) gX12_draws_X12_pairs rfl ⟨rfl, rfl⟩ 3 (by decide) ⟨Nat.le_of_ble_eq_true rfl, Nat.le_of_ble_eq_true rfl⟩ 0 rfl rfl [0, 1, 2, 3] [] rfl rfl (by decide) (by decide) (by decide) rfl rfl (Nat.le_of_ble_eq_true rfl) ⟨Nat.le_of_ble_eq_true rfl, Nat.le_of_ble_eq_true rfl⟩ (fun r205 u207 w206 => ?_)
                  obtain ⟨z198, z199, z200, z201, z202, f203, f204⟩ := u207
                  refine r_ws [(h0, .inr (11, [.ref h4, .int x1, .ref h5, .int x2, .int x3, .int x4, .ref h6, .ref h7, .ref h8, .ref h9, .int x5, .int x6, .int x7, .ref h10, .ref h11, .ref h12, .ref h13, .int x8, .int x9, .int x10, .long y0, .int x11, .int x12, .long y1, .long y2, .ref h14, .ref h15, .ref h16, .ref h17, .long y3, .int x13, .ref h18, .int x14, .int x15, .int x16, .int x17, .ref h19, .ref h20, .ref h21, .ref h22, .ref h23, .ref h24, .ref h25, .ref h26, .ref h27, .ref h28, .ref h29, .int x18, .int x19, .int z198, .int z199, .int x22, .int x23, .int x24, .long y4, .int x25, .ref h1, .ref h2, .long z200, .long z201, .int z202, .ref h3, .int x27, .ref h30, .ref h31, .ref h32, .ref h33, .int x28, .int x29, .int x30, .int x31, .ref h34, .ref h35, .int x32, .int x33, .ref h36])), (h1, .inl (gI g, 400, .inl f203)), (h2, .inl (gJ g, 2400, .inr (.inl f204))), (h3, .inl (gJ g, 48, .inr (.inl fm1)))] rfl ?_
                  have gz200 := fb_rngL z200
                  have gz201 := fb_rngL z201
                  have p208 : 0 ≤ (Int32.toInt r205) := w206.1
                  have p209 : (Int32.toInt r205) ≤ 1 := w206.2.1
                  have p210 : 0 ≤ (Int32.toInt z198) := w206.2.2.1
                  have p211 : (Int32.toInt z198) ≤ 9 := w206.2.2.2.1
                  have p212 : 0 ≤ (Int32.toInt z199) := w206.2.2.2.2.1
                  have p213 : (Int32.toInt z199) ≤ 400 := w206.2.2.2.2.2.1
                  have p214 : 0 ≤ (Int32.toInt z202) := w206.2.2.2.2.2.2.1
                  have p215 : (Int32.toInt z202) ≤ 1 := w206.2.2.2.2.2.2.2.1
                  have p216 : ((Int32.toInt z199) ≤ (Int32.toInt x22)) := w206.2.2.2.2.2.2.2.2.1
                  have p217 : (((Int32.toInt r205) = 0 ∧ 1 ≤ (Int32.toInt z198)) ∨ ((Int32.toInt r205) = 1 ∧ (Int32.toInt z198) = (Int32.toInt x20))) := w206.2.2.2.2.2.2.2.2.2
                  rcases p217 with ⟨k218, k219⟩ | p217
                  · skip
                    refine r_if_eq_t 268 294 C dX12_draws_268 (by decide) ((fa_eq r205 0).mpr (by show (Int32.toInt r205) = 0; omega)) ?_
                    refine r_iconst 294 0 C dX12_draws_294 (by decide) ?_
                    exact r_zret 295 Rt dX12_draws_295 (by decide) (z198, z199, z200, z201, z202, f203, f204) (show 0 ≤ (Int32.toInt 0) ∧ (Int32.toInt 0) ≤ 1 ∧ 0 ≤ (Int32.toInt z198) ∧ (Int32.toInt z198) ≤ 9 ∧ 0 ≤ (Int32.toInt z199) ∧ (Int32.toInt z199) ≤ 400 ∧ 0 ≤ (Int32.toInt z202) ∧ (Int32.toInt z202) ≤ 1 ∧ ((Int32.toInt z199) ≤ (Int32.toInt x22)) ∧ ((0 = 0 ∧ 1 ≤ (Int32.toInt z198)) ∨ (0 = 1 ∧ (Int32.toInt z198) = (Int32.toInt x20))) from ⟨(by decide), (by decide), (show _ ∧ _ from ⟨p210, p211⟩).1, (show _ ∧ _ from ⟨p210, p211⟩).2, (show _ ∧ _ from ⟨p212, p213⟩).1, (show _ ∧ _ from ⟨p212, p213⟩).2, (show _ ∧ _ from ⟨p214, p215⟩).1, (show _ ∧ _ from ⟨p214, p215⟩).2, (by first | omega | ((repeat' apply And.intro) <;> first | trivial | rfl | assumption | omega | decide | exact Or.inl rfl | exact Or.inr (Or.inl rfl) | exact Or.inr (Or.inr rfl) | exact Or.inr (Or.inr (by assumption)))), (by first | omega | ((repeat' apply And.intro) <;> first | trivial | rfl | assumption | omega | decide | exact Or.inl rfl | exact Or.inr (Or.inl rfl) | exact Or.inr (Or.inr rfl) | exact Or.inr (Or.inr (by assumption))))⟩) [0, 1, 2, 3] (by decide) rfl (Nat.le_of_ble_eq_true rfl) (Nat.le_of_ble_eq_true rfl)
                  obtain ⟨k220, k221⟩ := p217
                  refine r_if_eq_f 268 294 C dX12_draws_268 (by decide) (fun h_9 => by have h_8 : (Int32.toInt r205) = 0 := (fa_eq r205 0).mp h_9; omega) ?_
                  refine r_aload_n 271 0 C dX12_draws_271 rfl ?_
                  refine r_aload_n 272 0 C dX12_draws_272 rfl ?_
                  refine r_get 273 C dX12_draws_273 (k := 62) 0 rfl rfl hiX12 (by decide) rfl (mg 1 rfl) (Or.inl rfl) rfl ?_
                  refine r_bipush 276 6 C dX12_draws_276 (by decide) ?_
                  refine r_isub 278 z197 C dX12_draws_278 ez197 ?_
                  refine r_aload_n 279 0 C dX12_draws_279 rfl ?_
                  refine r_get 280 C dX12_draws_280 (k := 62) 0 rfl rfl hiX12 (by decide) rfl (mg 1 rfl) (Or.inl rfl) rfl ?_
                  refine r_iconst 283 1 C dX12_draws_283 (by decide) ?_
                  refine r_callVi 284 C dX12_draws_284 [] [(h0, .inr (11, [.ref h4, .int x1, .ref h5, .int x2, .int x3, .int x4, .ref h6, .ref h7, .ref h8, .ref h9, .int x5, .int x6, .int x7, .ref h10, .ref h11, .ref h12, .ref h13, .int x8, .int x9, .int x10, .long y0, .int x11, .int x12, .long y1, .long y2, .ref h14, .ref h15, .ref h16, .ref h17, .long y3, .int x13, .ref h18, .int x14, .int x15, .int x16, .int x17, .ref h19, .ref h20, .ref h21, .ref h22, .ref h23, .ref h24, .ref h25, .ref h26, .ref h27, .ref h28, .ref h29, .int x18, .int x19, .int z198, .int z199, .int x22, .int x23, .int x24, .long y4, .int x25, .ref h1, .ref h2, .long z200, .long z201, .int z202, .ref h3, .int x27, .ref h30, .ref h31, .ref h32, .ref h33, .int x28, .int x29, .int x30, .int x31, .ref h34, .ref h35, .int x32, .int x33, .ref h36])), (h1, .inl (gI g, 400, .inl f203)), (h2, .inl (gJ g, 2400, .inr (.inl f204))), (h3, .inl (gJ g, 48, .inr (.inl fm1)))] [] (fun sz => c115_X12_sixes l g h0 h1 h2 h3 z197 x27 h4 x1 h5 x2 x3 x4 h6 h7 h8 h9 x5 x6 x7 h10 h11 h12 h13 x8 x9 x10 y0 x11 x12 y1 y2 h14 h15 h16 h17 y3 x13 h18 x14 x15 x16 x17 h19 h20 h21 h22 h23 h24 h25 h26 h27 h28 h29 x18 x19 z198 z199 x22 x23 x24 y4 x25 z200 z201 z202 x27 h30 h31 h32 h33 x28 x29 x30 x31 h34 h35 x32 x33 h36 f203 f204 fm1 ⟨by omega, by omega⟩ i_x27 i_x1 i_x2 i_x4 i_x7 i_x8 i_x11 i_x12 i_y1 i_y2 i_x13 i_x14 i_x15 i_x16 i_x17 i_x19 ⟨p210, p211⟩ ⟨p212, p213⟩ i_x22 i_x23 i_x25 ⟨p214, p215⟩ i_x27 i_x28 i_x29 i_x30 i_x31 i_x32 i_x33 (by show ((Int32.toInt z199) ≤ (Int32.toInt x22)); first | assumption | omega) sz) gX12_draws_X12_sixes rfl ⟨rfl, rfl⟩ 3 (by decide) ⟨Nat.le_of_ble_eq_true rfl, Nat.le_of_ble_eq_true rfl⟩ 0 rfl rfl [0, 1, 2, 3] [] rfl rfl (by decide) (by decide) (by decide) rfl rfl (Nat.le_of_ble_eq_true rfl) ⟨Nat.le_of_ble_eq_true rfl, Nat.le_of_ble_eq_true rfl⟩ (fun r229 u231 w230 => ?_)
                  obtain ⟨z222, z223, z224, z225, z226, f227, f228⟩ := u231
                  refine r_ws [(h0, .inr (11, [.ref h4, .int x1, .ref h5, .int x2, .int x3, .int x4, .ref h6, .ref h7, .ref h8, .ref h9, .int x5, .int x6, .int x7, .ref h10, .ref h11, .ref h12, .ref h13, .int x8, .int x9, .int x10, .long y0, .int x11, .int x12, .long y1, .long y2, .ref h14, .ref h15, .ref h16, .ref h17, .long y3, .int x13, .ref h18, .int x14, .int x15, .int x16, .int x17, .ref h19, .ref h20, .ref h21, .ref h22, .ref h23, .ref h24, .ref h25, .ref h26, .ref h27, .ref h28, .ref h29, .int x18, .int x19, .int z222, .int z223, .int x22, .int x23, .int x24, .long y4, .int x25, .ref h1, .ref h2, .long z224, .long z225, .int z226, .ref h3, .int x27, .ref h30, .ref h31, .ref h32, .ref h33, .int x28, .int x29, .int x30, .int x31, .ref h34, .ref h35, .int x32, .int x33, .ref h36])), (h1, .inl (gI g, 400, .inl f227)), (h2, .inl (gJ g, 2400, .inr (.inl f228))), (h3, .inl (gJ g, 48, .inr (.inl fm1)))] rfl ?_
                  have gz224 := fb_rngL z224
                  have gz225 := fb_rngL z225
                  have p232 : 0 ≤ (Int32.toInt r229) := w230.1
                  have p233 : (Int32.toInt r229) ≤ 1 := w230.2.1
                  have p234 : 0 ≤ (Int32.toInt z222) := w230.2.2.1
                  have p235 : (Int32.toInt z222) ≤ 9 := w230.2.2.2.1
                  have p236 : 0 ≤ (Int32.toInt z223) := w230.2.2.2.2.1
                  have p237 : (Int32.toInt z223) ≤ 400 := w230.2.2.2.2.2.1
                  have p238 : 0 ≤ (Int32.toInt z226) := w230.2.2.2.2.2.2.1
                  have p239 : (Int32.toInt z226) ≤ 1 := w230.2.2.2.2.2.2.2.1
                  have p240 : ((Int32.toInt z223) ≤ (Int32.toInt x22)) := w230.2.2.2.2.2.2.2.2.1
                  have p241 : (((Int32.toInt r229) = 0 ∧ 1 ≤ (Int32.toInt z222)) ∨ ((Int32.toInt r229) = 1 ∧ (Int32.toInt z222) = (Int32.toInt z198))) := w230.2.2.2.2.2.2.2.2.2
                  rcases p241 with ⟨k242, k243⟩ | p241
                  · skip
                    refine r_if_eq_t 287 294 C dX12_draws_287 (by decide) ((fa_eq r229 0).mpr (by show (Int32.toInt r229) = 0; omega)) ?_
                    refine r_iconst 294 0 C dX12_draws_294 (by decide) ?_
                    exact r_zret 295 Rt dX12_draws_295 (by decide) (z222, z223, z224, z225, z226, f227, f228) (show 0 ≤ (Int32.toInt 0) ∧ (Int32.toInt 0) ≤ 1 ∧ 0 ≤ (Int32.toInt z222) ∧ (Int32.toInt z222) ≤ 9 ∧ 0 ≤ (Int32.toInt z223) ∧ (Int32.toInt z223) ≤ 400 ∧ 0 ≤ (Int32.toInt z226) ∧ (Int32.toInt z226) ≤ 1 ∧ ((Int32.toInt z223) ≤ (Int32.toInt x22)) ∧ ((0 = 0 ∧ 1 ≤ (Int32.toInt z222)) ∨ (0 = 1 ∧ (Int32.toInt z222) = (Int32.toInt x20))) from ⟨(by decide), (by decide), (show _ ∧ _ from ⟨p234, p235⟩).1, (show _ ∧ _ from ⟨p234, p235⟩).2, (show _ ∧ _ from ⟨p236, p237⟩).1, (show _ ∧ _ from ⟨p236, p237⟩).2, (show _ ∧ _ from ⟨p238, p239⟩).1, (show _ ∧ _ from ⟨p238, p239⟩).2, (by first | omega | ((repeat' apply And.intro) <;> first | trivial | rfl | assumption | omega | decide | exact Or.inl rfl | exact Or.inr (Or.inl rfl) | exact Or.inr (Or.inr rfl) | exact Or.inr (Or.inr (by assumption)))), (by first | omega | ((repeat' apply And.intro) <;> first | trivial | rfl | assumption | omega | decide | exact Or.inl rfl | exact Or.inr (Or.inl rfl) | exact Or.inr (Or.inr rfl) | exact Or.inr (Or.inr (by assumption))))⟩) [0, 1, 2, 3] (by decide) rfl (Nat.le_of_ble_eq_true rfl) (Nat.le_of_ble_eq_true rfl)
                  obtain ⟨k244, k245⟩ := p241
                  refine r_if_eq_f 287 294 C dX12_draws_287 (by decide) (fun h_9 => by have h_8 : (Int32.toInt r229) = 0 := (fa_eq r229 0).mp h_9; omega) ?_
                  refine r_iconst 290 1 C dX12_draws_290 (by decide) ?_
                  refine r_goto 291 295 C dX12_draws_291 (by decide) ?_
                  exact r_zret 295 Rt dX12_draws_295 (by decide) (z222, z223, z224, z225, z226, f227, f228) (show 0 ≤ (Int32.toInt 1) ∧ (Int32.toInt 1) ≤ 1 ∧ 0 ≤ (Int32.toInt z222) ∧ (Int32.toInt z222) ≤ 9 ∧ 0 ≤ (Int32.toInt z223) ∧ (Int32.toInt z223) ≤ 400 ∧ 0 ≤ (Int32.toInt z226) ∧ (Int32.toInt z226) ≤ 1 ∧ ((Int32.toInt z223) ≤ (Int32.toInt x22)) ∧ ((1 = 0 ∧ 1 ≤ (Int32.toInt z222)) ∨ (1 = 1 ∧ (Int32.toInt z222) = (Int32.toInt x20))) from ⟨(by decide), (by decide), (show _ ∧ _ from ⟨p234, p235⟩).1, (show _ ∧ _ from ⟨p234, p235⟩).2, (show _ ∧ _ from ⟨p236, p237⟩).1, (show _ ∧ _ from ⟨p236, p237⟩).2, (show _ ∧ _ from ⟨p238, p239⟩).1, (show _ ∧ _ from ⟨p238, p239⟩).2, (by first | omega | ((repeat' apply And.intro) <;> first | trivial | rfl | assumption | omega | decide | exact Or.inl rfl | exact Or.inr (Or.inl rfl) | exact Or.inr (Or.inr rfl) | exact Or.inr (Or.inr (by assumption)))), (by first | omega | ((repeat' apply And.intro) <;> first | trivial | rfl | assumption | omega | decide | exact Or.inl rfl | exact Or.inr (Or.inl rfl) | exact Or.inr (Or.inr rfl) | exact Or.inr (Or.inr (by assumption))))⟩) [0, 1, 2, 3] (by decide) rfl (Nat.le_of_ble_eq_true rfl) (Nat.le_of_ble_eq_true rfl)
                · skip
                  have k246 : ¬ ((Int32.toInt z194) = 0) := fun h_9 => c195 ((fa_eq z194 0).mpr h_9)
                  refine r_aload_n 247 0 C dX12_draws_247 rfl ?_
                  refine r_iconst 248 2 C dX12_draws_248 (by decide) ?_
                  refine r_callVi 249 C dX12_draws_249 [] [(h0, .inr (11, [.ref h4, .int x1, .ref h5, .int x2, .int x3, .int x4, .ref h6, .ref h7, .ref h8, .ref h9, .int x5, .int x6, .int x7, .ref h10, .ref h11, .ref h12, .ref h13, .int x8, .int x9, .int x10, .long y0, .int x11, .int x12, .long y1, .long y2, .ref h14, .ref h15, .ref h16, .ref h17, .long y3, .int x13, .ref h18, .int x14, .int x15, .int x16, .int x17, .ref h19, .ref h20, .ref h21, .ref h22, .ref h23, .ref h24, .ref h25, .ref h26, .ref h27, .ref h28, .ref h29, .int x18, .int x19, .int x20, .int x21, .int x22, .int x23, .int x24, .long y4, .int x25, .ref h1, .ref h2, .long y5, .long y6, .int x26, .ref h3, .int x27, .ref h30, .ref h31, .ref h32, .ref h33, .int x28, .int x29, .int x30, .int x31, .ref h34, .ref h35, .int x32, .int x33, .ref h36]))] [(h1, .inl (gI g, 400, .inl fn0)), (h2, .inl (gJ g, 2400, .inr (.inl fm0))), (h3, .inl (gJ g, 48, .inr (.inl fm1)))] (fun sz => c65_X12_stops l g h0 2 h4 x1 h5 x2 x3 x4 h6 h7 h8 h9 x5 x6 x7 h10 h11 h12 h13 x8 x9 x10 y0 x11 x12 y1 y2 h14 h15 h16 h17 y3 x13 h18 x14 x15 x16 x17 h19 h20 h21 h22 h23 h24 h25 h26 h27 h28 h29 x18 x19 x20 x21 x22 x23 x24 y4 x25 h1 h2 y5 y6 x26 h3 x27 h30 h31 h32 h33 x28 x29 x30 x31 h34 h35 x32 x33 h36 (by decide) i_x1 i_x2 i_x4 i_x7 i_x8 i_x11 i_x12 i_y1 i_y2 i_x13 i_x14 i_x15 i_x16 i_x17 i_x19 i_x20 i_x21 i_x22 i_x23 i_x25 i_x26 i_x27 i_x28 i_x29 i_x30 i_x31 i_x32 i_x33 sz) gX12_draws_X12_stops rfl ⟨rfl, rfl⟩ 1 (by decide) ⟨Nat.le_of_ble_eq_true rfl, Nat.le_of_ble_eq_true rfl⟩ 0 rfl rfl [0] [1, 2, 3] rfl rfl (by decide) (by decide) (by decide) rfl rfl (Nat.le_of_ble_eq_true rfl) ⟨Nat.le_of_ble_eq_true rfl, Nat.le_of_ble_eq_true rfl⟩ (fun r248 z247 w249 => ?_)
                  refine r_ws [(h1, .inl (gI g, 400, .inl fn0)), (h2, .inl (gJ g, 2400, .inr (.inl fm0))), (h3, .inl (gJ g, 48, .inr (.inl fm1))), (h0, .inr (11, [.ref h4, .int x1, .ref h5, .int x2, .int x3, .int x4, .ref h6, .ref h7, .ref h8, .ref h9, .int x5, .int x6, .int x7, .ref h10, .ref h11, .ref h12, .ref h13, .int x8, .int x9, .int x10, .long y0, .int x11, .int x12, .long y1, .long y2, .ref h14, .ref h15, .ref h16, .ref h17, .long y3, .int x13, .ref h18, .int x14, .int x15, .int x16, .int x17, .ref h19, .ref h20, .ref h21, .ref h22, .ref h23, .ref h24, .ref h25, .ref h26, .ref h27, .ref h28, .ref h29, .int x18, .int x19, .int z247, .int x21, .int x22, .int x23, .int x24, .long y4, .int x25, .ref h1, .ref h2, .long y5, .long y6, .int x26, .ref h3, .int x27, .ref h30, .ref h31, .ref h32, .ref h33, .int x28, .int x29, .int x30, .int x31, .ref h34, .ref h35, .int x32, .int x33, .ref h36]))] rfl ?_
                  have p250 : 0 = r248 := (w249.1).symm
                  subst p250
                  have p251 : 0 ≤ (Int32.toInt z247) := w249.2.1
                  have p252 : (Int32.toInt z247) ≤ 9 := w249.2.2.1
                  have p253 : (1 ≤ (Int32.toInt z247)) := w249.2.2.2
                  refine r_if_eq_t 252 294 C dX12_draws_252 (by decide) (by decide) ?_
                  refine r_iconst 294 0 C dX12_draws_294 (by decide) ?_
                  exact r_zret 295 Rt dX12_draws_295 (by decide) (z247, x21, y5, y6, x26, fn0, fm0) (show 0 ≤ (Int32.toInt 0) ∧ (Int32.toInt 0) ≤ 1 ∧ 0 ≤ (Int32.toInt z247) ∧ (Int32.toInt z247) ≤ 9 ∧ 0 ≤ (Int32.toInt x21) ∧ (Int32.toInt x21) ≤ 400 ∧ 0 ≤ (Int32.toInt x26) ∧ (Int32.toInt x26) ≤ 1 ∧ ((Int32.toInt x21) ≤ (Int32.toInt x22)) ∧ ((0 = 0 ∧ 1 ≤ (Int32.toInt z247)) ∨ (0 = 1 ∧ (Int32.toInt z247) = (Int32.toInt x20))) from ⟨(by decide), (by decide), (show _ ∧ _ from ⟨p251, p252⟩).1, (show _ ∧ _ from ⟨p251, p252⟩).2, i_x21.1, i_x21.2, i_x26.1, i_x26.2, (by first | omega | ((repeat' apply And.intro) <;> first | trivial | rfl | assumption | omega | decide | exact Or.inl rfl | exact Or.inr (Or.inl rfl) | exact Or.inr (Or.inr rfl) | exact Or.inr (Or.inr (by assumption)))), (by first | omega | ((repeat' apply And.intro) <;> first | trivial | rfl | assumption | omega | decide | exact Or.inl rfl | exact Or.inr (Or.inl rfl) | exact Or.inr (Or.inr rfl) | exact Or.inr (Or.inr (by assumption))))⟩) [3, 0, 1, 2] (by decide) rfl (Nat.le_of_ble_eq_true rfl) (Nat.le_of_ble_eq_true rfl)
            · skip
              have k254 : ¬ ((Int32.toInt x0) = 25) := fun h_9 => c182 ((fa_eq x0 25).mpr h_9)
              by_cases c255 : x0 = 26
              · skip
                have k256 : (Int32.toInt x0) = 26 := (fa_eq x0 26).mp c255
                refine r_lookup 1 296 (off := 295) C dX12_draws_1 (by decide) (by rw [c255]; decide) (by decide) ?_
                refine r_aload_n 296 0 C dX12_draws_296 rfl ?_
                refine r_iload_n 297 1 C dX12_draws_297 rfl ?_
                refine r_bipush 298 26 C dX12_draws_298 (by decide) ?_
                refine r_icmp_ne_f 300 307 C dX12_draws_300 (by decide) ((fa_eq x0 26).mpr (by show (Int32.toInt x0) = 26; omega)) ?_
                refine r_iconst 303 1 C dX12_draws_303 (by decide) ?_
                refine r_goto 304 308 C dX12_draws_304 (by decide) ?_
                refine r_callVi 308 C dX12_draws_308 [] [(h0, .inr (11, [.ref h4, .int x1, .ref h5, .int x2, .int x3, .int x4, .ref h6, .ref h7, .ref h8, .ref h9, .int x5, .int x6, .int x7, .ref h10, .ref h11, .ref h12, .ref h13, .int x8, .int x9, .int x10, .long y0, .int x11, .int x12, .long y1, .long y2, .ref h14, .ref h15, .ref h16, .ref h17, .long y3, .int x13, .ref h18, .int x14, .int x15, .int x16, .int x17, .ref h19, .ref h20, .ref h21, .ref h22, .ref h23, .ref h24, .ref h25, .ref h26, .ref h27, .ref h28, .ref h29, .int x18, .int x19, .int x20, .int x21, .int x22, .int x23, .int x24, .long y4, .int x25, .ref h1, .ref h2, .long y5, .long y6, .int x26, .ref h3, .int x27, .ref h30, .ref h31, .ref h32, .ref h33, .int x28, .int x29, .int x30, .int x31, .ref h34, .ref h35, .int x32, .int x33, .ref h36])), (h1, .inl (gI g, 400, .inl fn0)), (h2, .inl (gJ g, 2400, .inr (.inl fm0))), (h3, .inl (gJ g, 48, .inr (.inl fm1)))] [] (fun sz => c116_X12_straight l g h0 h1 h2 h3 1 h4 x1 h5 x2 x3 x4 h6 h7 h8 h9 x5 x6 x7 h10 h11 h12 h13 x8 x9 x10 y0 x11 x12 y1 y2 h14 h15 h16 h17 y3 x13 h18 x14 x15 x16 x17 h19 h20 h21 h22 h23 h24 h25 h26 h27 h28 h29 x18 x19 x20 x21 x22 x23 x24 y4 x25 y5 y6 x26 x27 h30 h31 h32 h33 x28 x29 x30 x31 h34 h35 x32 x33 h36 fn0 fm0 fm1 (by decide) i_x1 i_x2 i_x4 i_x7 i_x8 i_x11 i_x12 i_y1 i_y2 i_x13 i_x14 i_x15 i_x16 i_x17 i_x19 i_x20 i_x21 i_x22 i_x23 i_x25 i_x26 i_x27 i_x28 i_x29 i_x30 i_x31 i_x32 i_x33 (by show ((Int32.toInt x21) ≤ (Int32.toInt x22)); first | assumption | omega) sz) gX12_draws_X12_straight rfl ⟨rfl, rfl⟩ 1 (by decide) ⟨Nat.le_of_ble_eq_true rfl, Nat.le_of_ble_eq_true rfl⟩ 0 rfl rfl [0, 1, 2, 3] [] rfl rfl (by decide) (by decide) (by decide) rfl rfl (Nat.le_of_ble_eq_true rfl) ⟨Nat.le_of_ble_eq_true rfl, Nat.le_of_ble_eq_true rfl⟩ (fun r264 u266 w265 => ?_)
                obtain ⟨z257, z258, z259, z260, z261, f262, f263⟩ := u266
                refine r_ws [(h0, .inr (11, [.ref h4, .int x1, .ref h5, .int x2, .int x3, .int x4, .ref h6, .ref h7, .ref h8, .ref h9, .int x5, .int x6, .int x7, .ref h10, .ref h11, .ref h12, .ref h13, .int x8, .int x9, .int x10, .long y0, .int x11, .int x12, .long y1, .long y2, .ref h14, .ref h15, .ref h16, .ref h17, .long y3, .int x13, .ref h18, .int x14, .int x15, .int x16, .int x17, .ref h19, .ref h20, .ref h21, .ref h22, .ref h23, .ref h24, .ref h25, .ref h26, .ref h27, .ref h28, .ref h29, .int x18, .int x19, .int z257, .int z258, .int x22, .int x23, .int x24, .long y4, .int x25, .ref h1, .ref h2, .long z259, .long z260, .int z261, .ref h3, .int x27, .ref h30, .ref h31, .ref h32, .ref h33, .int x28, .int x29, .int x30, .int x31, .ref h34, .ref h35, .int x32, .int x33, .ref h36])), (h1, .inl (gI g, 400, .inl f262)), (h2, .inl (gJ g, 2400, .inr (.inl f263))), (h3, .inl (gJ g, 48, .inr (.inl fm1)))] rfl ?_
                have gz259 := fb_rngL z259
                have gz260 := fb_rngL z260
                have p267 : 0 ≤ (Int32.toInt r264) := w265.1
                have p268 : (Int32.toInt r264) ≤ 1 := w265.2.1
                have p269 : 0 ≤ (Int32.toInt z257) := w265.2.2.1
                have p270 : (Int32.toInt z257) ≤ 9 := w265.2.2.2.1
                have p271 : 0 ≤ (Int32.toInt z258) := w265.2.2.2.2.1
                have p272 : (Int32.toInt z258) ≤ 400 := w265.2.2.2.2.2.1
                have p273 : 0 ≤ (Int32.toInt z261) := w265.2.2.2.2.2.2.1
                have p274 : (Int32.toInt z261) ≤ 1 := w265.2.2.2.2.2.2.2.1
                have p275 : ((Int32.toInt z258) ≤ (Int32.toInt x22)) := w265.2.2.2.2.2.2.2.2.1
                have p276 : (((Int32.toInt r264) = 0 ∧ 1 ≤ (Int32.toInt z257)) ∨ ((Int32.toInt r264) = 1 ∧ (Int32.toInt z257) = (Int32.toInt x20))) := w265.2.2.2.2.2.2.2.2.2
                rcases p276 with ⟨k277, k278⟩ | p276
                · skip
                  exact r_zret 311 Rt dX12_draws_311 (nz_n (by omega) (by omega)) (z257, z258, z259, z260, z261, f262, f263) (show 0 ≤ (Int32.toInt r264) ∧ (Int32.toInt r264) ≤ 1 ∧ 0 ≤ (Int32.toInt z257) ∧ (Int32.toInt z257) ≤ 9 ∧ 0 ≤ (Int32.toInt z258) ∧ (Int32.toInt z258) ≤ 400 ∧ 0 ≤ (Int32.toInt z261) ∧ (Int32.toInt z261) ≤ 1 ∧ ((Int32.toInt z258) ≤ (Int32.toInt x22)) ∧ (((Int32.toInt r264) = 0 ∧ 1 ≤ (Int32.toInt z257)) ∨ ((Int32.toInt r264) = 1 ∧ (Int32.toInt z257) = (Int32.toInt x20))) from ⟨(show _ ∧ _ from ⟨p267, p268⟩).1, (show _ ∧ _ from ⟨p267, p268⟩).2, (show _ ∧ _ from ⟨p269, p270⟩).1, (show _ ∧ _ from ⟨p269, p270⟩).2, (show _ ∧ _ from ⟨p271, p272⟩).1, (show _ ∧ _ from ⟨p271, p272⟩).2, (show _ ∧ _ from ⟨p273, p274⟩).1, (show _ ∧ _ from ⟨p273, p274⟩).2, (by first | omega | ((repeat' apply And.intro) <;> first | trivial | rfl | assumption | omega | decide | exact Or.inl rfl | exact Or.inr (Or.inl rfl) | exact Or.inr (Or.inr rfl) | exact Or.inr (Or.inr (by assumption)))), (by first | omega | ((repeat' apply And.intro) <;> first | trivial | rfl | assumption | omega | decide | exact Or.inl rfl | exact Or.inr (Or.inl rfl) | exact Or.inr (Or.inr rfl) | exact Or.inr (Or.inr (by assumption))))⟩) [0, 1, 2, 3] (by decide) rfl (Nat.le_of_ble_eq_true rfl) (Nat.le_of_ble_eq_true rfl)
                obtain ⟨k279, k280⟩ := p276
                exact r_zret 311 Rt dX12_draws_311 (nz_n (by omega) (by omega)) (z257, z258, z259, z260, z261, f262, f263) (show 0 ≤ (Int32.toInt r264) ∧ (Int32.toInt r264) ≤ 1 ∧ 0 ≤ (Int32.toInt z257) ∧ (Int32.toInt z257) ≤ 9 ∧ 0 ≤ (Int32.toInt z258) ∧ (Int32.toInt z258) ≤ 400 ∧ 0 ≤ (Int32.toInt z261) ∧ (Int32.toInt z261) ≤ 1 ∧ ((Int32.toInt z258) ≤ (Int32.toInt x22)) ∧ (((Int32.toInt r264) = 0 ∧ 1 ≤ (Int32.toInt z257)) ∨ ((Int32.toInt r264) = 1 ∧ (Int32.toInt z257) = (Int32.toInt x20))) from ⟨(show _ ∧ _ from ⟨p267, p268⟩).1, (show _ ∧ _ from ⟨p267, p268⟩).2, (show _ ∧ _ from ⟨p269, p270⟩).1, (show _ ∧ _ from ⟨p269, p270⟩).2, (show _ ∧ _ from ⟨p271, p272⟩).1, (show _ ∧ _ from ⟨p271, p272⟩).2, (show _ ∧ _ from ⟨p273, p274⟩).1, (show _ ∧ _ from ⟨p273, p274⟩).2, (by first | omega | ((repeat' apply And.intro) <;> first | trivial | rfl | assumption | omega | decide | exact Or.inl rfl | exact Or.inr (Or.inl rfl) | exact Or.inr (Or.inr rfl) | exact Or.inr (Or.inr (by assumption)))), (by first | omega | ((repeat' apply And.intro) <;> first | trivial | rfl | assumption | omega | decide | exact Or.inl rfl | exact Or.inr (Or.inl rfl) | exact Or.inr (Or.inr rfl) | exact Or.inr (Or.inr (by assumption))))⟩) [0, 1, 2, 3] (by decide) rfl (Nat.le_of_ble_eq_true rfl) (Nat.le_of_ble_eq_true rfl)
              · skip
                have k281 : ¬ ((Int32.toInt x0) = 26) := fun h_9 => c255 ((fa_eq x0 26).mpr h_9)
                by_cases c282 : x0 = 27
                · skip
                  have k283 : (Int32.toInt x0) = 27 := (fa_eq x0 27).mp c282
                  refine r_lookup 1 296 (off := 295) C dX12_draws_1 (by decide) (by rw [c282]; decide) (by decide) ?_
                  refine r_aload_n 296 0 C dX12_draws_296 rfl ?_
                  refine r_iload_n 297 1 C dX12_draws_297 rfl ?_
                  refine r_bipush 298 26 C dX12_draws_298 (by decide) ?_
                  refine r_icmp_ne_t 300 307 C dX12_draws_300 (by decide) (fun h_9 => by have h_8 : (Int32.toInt x0) = 26 := (fa_eq x0 26).mp h_9; omega) ?_
                  refine r_iconst 307 0 C dX12_draws_307 (by decide) ?_
                  refine r_callVi 308 C dX12_draws_308 [] [(h0, .inr (11, [.ref h4, .int x1, .ref h5, .int x2, .int x3, .int x4, .ref h6, .ref h7, .ref h8, .ref h9, .int x5, .int x6, .int x7, .ref h10, .ref h11, .ref h12, .ref h13, .int x8, .int x9, .int x10, .long y0, .int x11, .int x12, .long y1, .long y2, .ref h14, .ref h15, .ref h16, .ref h17, .long y3, .int x13, .ref h18, .int x14, .int x15, .int x16, .int x17, .ref h19, .ref h20, .ref h21, .ref h22, .ref h23, .ref h24, .ref h25, .ref h26, .ref h27, .ref h28, .ref h29, .int x18, .int x19, .int x20, .int x21, .int x22, .int x23, .int x24, .long y4, .int x25, .ref h1, .ref h2, .long y5, .long y6, .int x26, .ref h3, .int x27, .ref h30, .ref h31, .ref h32, .ref h33, .int x28, .int x29, .int x30, .int x31, .ref h34, .ref h35, .int x32, .int x33, .ref h36])), (h1, .inl (gI g, 400, .inl fn0)), (h2, .inl (gJ g, 2400, .inr (.inl fm0))), (h3, .inl (gJ g, 48, .inr (.inl fm1)))] [] (fun sz => c116_X12_straight l g h0 h1 h2 h3 0 h4 x1 h5 x2 x3 x4 h6 h7 h8 h9 x5 x6 x7 h10 h11 h12 h13 x8 x9 x10 y0 x11 x12 y1 y2 h14 h15 h16 h17 y3 x13 h18 x14 x15 x16 x17 h19 h20 h21 h22 h23 h24 h25 h26 h27 h28 h29 x18 x19 x20 x21 x22 x23 x24 y4 x25 y5 y6 x26 x27 h30 h31 h32 h33 x28 x29 x30 x31 h34 h35 x32 x33 h36 fn0 fm0 fm1 (by decide) i_x1 i_x2 i_x4 i_x7 i_x8 i_x11 i_x12 i_y1 i_y2 i_x13 i_x14 i_x15 i_x16 i_x17 i_x19 i_x20 i_x21 i_x22 i_x23 i_x25 i_x26 i_x27 i_x28 i_x29 i_x30 i_x31 i_x32 i_x33 (by show ((Int32.toInt x21) ≤ (Int32.toInt x22)); first | assumption | omega) sz) gX12_draws_X12_straight rfl ⟨rfl, rfl⟩ 1 (by decide) ⟨Nat.le_of_ble_eq_true rfl, Nat.le_of_ble_eq_true rfl⟩ 0 rfl rfl [0, 1, 2, 3] [] rfl rfl (by decide) (by decide) (by decide) rfl rfl (Nat.le_of_ble_eq_true rfl) ⟨Nat.le_of_ble_eq_true rfl, Nat.le_of_ble_eq_true rfl⟩ (fun r291 u293 w292 => ?_)
                  obtain ⟨z284, z285, z286, z287, z288, f289, f290⟩ := u293
                  refine r_ws [(h0, .inr (11, [.ref h4, .int x1, .ref h5, .int x2, .int x3, .int x4, .ref h6, .ref h7, .ref h8, .ref h9, .int x5, .int x6, .int x7, .ref h10, .ref h11, .ref h12, .ref h13, .int x8, .int x9, .int x10, .long y0, .int x11, .int x12, .long y1, .long y2, .ref h14, .ref h15, .ref h16, .ref h17, .long y3, .int x13, .ref h18, .int x14, .int x15, .int x16, .int x17, .ref h19, .ref h20, .ref h21, .ref h22, .ref h23, .ref h24, .ref h25, .ref h26, .ref h27, .ref h28, .ref h29, .int x18, .int x19, .int z284, .int z285, .int x22, .int x23, .int x24, .long y4, .int x25, .ref h1, .ref h2, .long z286, .long z287, .int z288, .ref h3, .int x27, .ref h30, .ref h31, .ref h32, .ref h33, .int x28, .int x29, .int x30, .int x31, .ref h34, .ref h35, .int x32, .int x33, .ref h36])), (h1, .inl (gI g, 400, .inl f289)), (h2, .inl (gJ g, 2400, .inr (.inl f290))), (h3, .inl (gJ g, 48, .inr (.inl fm1)))] rfl ?_
                  have gz286 := fb_rngL z286
                  have gz287 := fb_rngL z287
                  have p294 : 0 ≤ (Int32.toInt r291) := w292.1
                  have p295 : (Int32.toInt r291) ≤ 1 := w292.2.1
                  have p296 : 0 ≤ (Int32.toInt z284) := w292.2.2.1
                  have p297 : (Int32.toInt z284) ≤ 9 := w292.2.2.2.1
                  have p298 : 0 ≤ (Int32.toInt z285) := w292.2.2.2.2.1
                  have p299 : (Int32.toInt z285) ≤ 400 := w292.2.2.2.2.2.1
                  have p300 : 0 ≤ (Int32.toInt z288) := w292.2.2.2.2.2.2.1
                  have p301 : (Int32.toInt z288) ≤ 1 := w292.2.2.2.2.2.2.2.1
                  have p302 : ((Int32.toInt z285) ≤ (Int32.toInt x22)) := w292.2.2.2.2.2.2.2.2.1
                  have p303 : (((Int32.toInt r291) = 0 ∧ 1 ≤ (Int32.toInt z284)) ∨ ((Int32.toInt r291) = 1 ∧ (Int32.toInt z284) = (Int32.toInt x20))) := w292.2.2.2.2.2.2.2.2.2
                  rcases p303 with ⟨k304, k305⟩ | p303
                  · skip
                    exact r_zret 311 Rt dX12_draws_311 (nz_n (by omega) (by omega)) (z284, z285, z286, z287, z288, f289, f290) (show 0 ≤ (Int32.toInt r291) ∧ (Int32.toInt r291) ≤ 1 ∧ 0 ≤ (Int32.toInt z284) ∧ (Int32.toInt z284) ≤ 9 ∧ 0 ≤ (Int32.toInt z285) ∧ (Int32.toInt z285) ≤ 400 ∧ 0 ≤ (Int32.toInt z288) ∧ (Int32.toInt z288) ≤ 1 ∧ ((Int32.toInt z285) ≤ (Int32.toInt x22)) ∧ (((Int32.toInt r291) = 0 ∧ 1 ≤ (Int32.toInt z284)) ∨ ((Int32.toInt r291) = 1 ∧ (Int32.toInt z284) = (Int32.toInt x20))) from ⟨(show _ ∧ _ from ⟨p294, p295⟩).1, (show _ ∧ _ from ⟨p294, p295⟩).2, (show _ ∧ _ from ⟨p296, p297⟩).1, (show _ ∧ _ from ⟨p296, p297⟩).2, (show _ ∧ _ from ⟨p298, p299⟩).1, (show _ ∧ _ from ⟨p298, p299⟩).2, (show _ ∧ _ from ⟨p300, p301⟩).1, (show _ ∧ _ from ⟨p300, p301⟩).2, (by first | omega | ((repeat' apply And.intro) <;> first | trivial | rfl | assumption | omega | decide | exact Or.inl rfl | exact Or.inr (Or.inl rfl) | exact Or.inr (Or.inr rfl) | exact Or.inr (Or.inr (by assumption)))), (by first | omega | ((repeat' apply And.intro) <;> first | trivial | rfl | assumption | omega | decide | exact Or.inl rfl | exact Or.inr (Or.inl rfl) | exact Or.inr (Or.inr rfl) | exact Or.inr (Or.inr (by assumption))))⟩) [0, 1, 2, 3] (by decide) rfl (Nat.le_of_ble_eq_true rfl) (Nat.le_of_ble_eq_true rfl)
                  obtain ⟨k306, k307⟩ := p303
                  exact r_zret 311 Rt dX12_draws_311 (nz_n (by omega) (by omega)) (z284, z285, z286, z287, z288, f289, f290) (show 0 ≤ (Int32.toInt r291) ∧ (Int32.toInt r291) ≤ 1 ∧ 0 ≤ (Int32.toInt z284) ∧ (Int32.toInt z284) ≤ 9 ∧ 0 ≤ (Int32.toInt z285) ∧ (Int32.toInt z285) ≤ 400 ∧ 0 ≤ (Int32.toInt z288) ∧ (Int32.toInt z288) ≤ 1 ∧ ((Int32.toInt z285) ≤ (Int32.toInt x22)) ∧ (((Int32.toInt r291) = 0 ∧ 1 ≤ (Int32.toInt z284)) ∨ ((Int32.toInt r291) = 1 ∧ (Int32.toInt z284) = (Int32.toInt x20))) from ⟨(show _ ∧ _ from ⟨p294, p295⟩).1, (show _ ∧ _ from ⟨p294, p295⟩).2, (show _ ∧ _ from ⟨p296, p297⟩).1, (show _ ∧ _ from ⟨p296, p297⟩).2, (show _ ∧ _ from ⟨p298, p299⟩).1, (show _ ∧ _ from ⟨p298, p299⟩).2, (show _ ∧ _ from ⟨p300, p301⟩).1, (show _ ∧ _ from ⟨p300, p301⟩).2, (by first | omega | ((repeat' apply And.intro) <;> first | trivial | rfl | assumption | omega | decide | exact Or.inl rfl | exact Or.inr (Or.inl rfl) | exact Or.inr (Or.inr rfl) | exact Or.inr (Or.inr (by assumption)))), (by first | omega | ((repeat' apply And.intro) <;> first | trivial | rfl | assumption | omega | decide | exact Or.inl rfl | exact Or.inr (Or.inl rfl) | exact Or.inr (Or.inr rfl) | exact Or.inr (Or.inr (by assumption))))⟩) [0, 1, 2, 3] (by decide) rfl (Nat.le_of_ble_eq_true rfl) (Nat.le_of_ble_eq_true rfl)
                · skip
                  have k308 : ¬ ((Int32.toInt x0) = 27) := fun h_9 => c282 ((fa_eq x0 27).mpr h_9)
                  by_cases c309 : x0 = 30
                  · skip
                    have k310 : (Int32.toInt x0) = 30 := (fa_eq x0 30).mp c309
                    refine r_lookup 1 312 (off := 311) C dX12_draws_1 (by decide) (by rw [c309]; decide) (by decide) ?_
                    refine r_aload_n 312 0 C dX12_draws_312 rfl ?_
                    refine r_iload_n 313 1 C dX12_draws_313 rfl ?_
                    refine r_bipush 314 31 C dX12_draws_314 (by decide) ?_
                    refine r_icmp_ne_t 316 323 C dX12_draws_316 (by decide) (fun h_9 => by have h_8 : (Int32.toInt x0) = 31 := (fa_eq x0 31).mp h_9; omega) ?_
                    refine r_iconst 323 0 C dX12_draws_323 (by decide) ?_
                    refine r_callVi 324 C dX12_draws_324 [] [(h0, .inr (11, [.ref h4, .int x1, .ref h5, .int x2, .int x3, .int x4, .ref h6, .ref h7, .ref h8, .ref h9, .int x5, .int x6, .int x7, .ref h10, .ref h11, .ref h12, .ref h13, .int x8, .int x9, .int x10, .long y0, .int x11, .int x12, .long y1, .long y2, .ref h14, .ref h15, .ref h16, .ref h17, .long y3, .int x13, .ref h18, .int x14, .int x15, .int x16, .int x17, .ref h19, .ref h20, .ref h21, .ref h22, .ref h23, .ref h24, .ref h25, .ref h26, .ref h27, .ref h28, .ref h29, .int x18, .int x19, .int x20, .int x21, .int x22, .int x23, .int x24, .long y4, .int x25, .ref h1, .ref h2, .long y5, .long y6, .int x26, .ref h3, .int x27, .ref h30, .ref h31, .ref h32, .ref h33, .int x28, .int x29, .int x30, .int x31, .ref h34, .ref h35, .int x32, .int x33, .ref h36])), (h1, .inl (gI g, 400, .inl fn0)), (h2, .inl (gJ g, 2400, .inr (.inl fm0))), (h3, .inl (gJ g, 48, .inr (.inl fm1)))] [] (fun sz => c117_X12_byTurns l g h0 h1 h2 h3 0 h4 x1 h5 x2 x3 x4 h6 h7 h8 h9 x5 x6 x7 h10 h11 h12 h13 x8 x9 x10 y0 x11 x12 y1 y2 h14 h15 h16 h17 y3 x13 h18 x14 x15 x16 x17 h19 h20 h21 h22 h23 h24 h25 h26 h27 h28 h29 x18 x19 x20 x21 x22 x23 x24 y4 x25 y5 y6 x26 x27 h30 h31 h32 h33 x28 x29 x30 x31 h34 h35 x32 x33 h36 fn0 fm0 fm1 (by decide) i_x1 i_x2 i_x4 i_x7 i_x8 i_x11 i_x12 i_y1 i_y2 i_x13 i_x14 i_x15 i_x16 i_x17 i_x19 i_x20 i_x21 i_x22 i_x23 i_x25 i_x26 i_x27 i_x28 i_x29 i_x30 i_x31 i_x32 i_x33 (by show ((Int32.toInt x21) ≤ (Int32.toInt x22)); first | assumption | omega) sz) gX12_draws_X12_byTurns rfl ⟨rfl, rfl⟩ 1 (by decide) ⟨Nat.le_of_ble_eq_true rfl, Nat.le_of_ble_eq_true rfl⟩ 0 rfl rfl [0, 1, 2, 3] [] rfl rfl (by decide) (by decide) (by decide) rfl rfl (Nat.le_of_ble_eq_true rfl) ⟨Nat.le_of_ble_eq_true rfl, Nat.le_of_ble_eq_true rfl⟩ (fun r318 u320 w319 => ?_)
                    obtain ⟨z311, z312, z313, z314, z315, f316, f317⟩ := u320
                    refine r_ws [(h0, .inr (11, [.ref h4, .int x1, .ref h5, .int x2, .int x3, .int x4, .ref h6, .ref h7, .ref h8, .ref h9, .int x5, .int x6, .int x7, .ref h10, .ref h11, .ref h12, .ref h13, .int x8, .int x9, .int x10, .long y0, .int x11, .int x12, .long y1, .long y2, .ref h14, .ref h15, .ref h16, .ref h17, .long y3, .int x13, .ref h18, .int x14, .int x15, .int x16, .int x17, .ref h19, .ref h20, .ref h21, .ref h22, .ref h23, .ref h24, .ref h25, .ref h26, .ref h27, .ref h28, .ref h29, .int x18, .int x19, .int z311, .int z312, .int x22, .int x23, .int x24, .long y4, .int x25, .ref h1, .ref h2, .long z313, .long z314, .int z315, .ref h3, .int x27, .ref h30, .ref h31, .ref h32, .ref h33, .int x28, .int x29, .int x30, .int x31, .ref h34, .ref h35, .int x32, .int x33, .ref h36])), (h1, .inl (gI g, 400, .inl f316)), (h2, .inl (gJ g, 2400, .inr (.inl f317))), (h3, .inl (gJ g, 48, .inr (.inl fm1)))] rfl ?_
                    have gz313 := fb_rngL z313
                    have gz314 := fb_rngL z314
                    have p321 : 0 ≤ (Int32.toInt r318) := w319.1
                    have p322 : (Int32.toInt r318) ≤ 1 := w319.2.1
                    have p323 : 0 ≤ (Int32.toInt z311) := w319.2.2.1
                    have p324 : (Int32.toInt z311) ≤ 9 := w319.2.2.2.1
                    have p325 : 0 ≤ (Int32.toInt z312) := w319.2.2.2.2.1
                    have p326 : (Int32.toInt z312) ≤ 400 := w319.2.2.2.2.2.1
                    have p327 : 0 ≤ (Int32.toInt z315) := w319.2.2.2.2.2.2.1
                    have p328 : (Int32.toInt z315) ≤ 1 := w319.2.2.2.2.2.2.2.1
                    have p329 : ((Int32.toInt z312) ≤ (Int32.toInt x22)) := w319.2.2.2.2.2.2.2.2.1
                    have p330 : (((Int32.toInt r318) = 0 ∧ 1 ≤ (Int32.toInt z311)) ∨ ((Int32.toInt r318) = 1 ∧ (Int32.toInt z311) = (Int32.toInt x20))) := w319.2.2.2.2.2.2.2.2.2
                    rcases p330 with ⟨k331, k332⟩ | p330
                    · skip
                      exact r_zret 327 Rt dX12_draws_327 (nz_n (by omega) (by omega)) (z311, z312, z313, z314, z315, f316, f317) (show 0 ≤ (Int32.toInt r318) ∧ (Int32.toInt r318) ≤ 1 ∧ 0 ≤ (Int32.toInt z311) ∧ (Int32.toInt z311) ≤ 9 ∧ 0 ≤ (Int32.toInt z312) ∧ (Int32.toInt z312) ≤ 400 ∧ 0 ≤ (Int32.toInt z315) ∧ (Int32.toInt z315) ≤ 1 ∧ ((Int32.toInt z312) ≤ (Int32.toInt x22)) ∧ (((Int32.toInt r318) = 0 ∧ 1 ≤ (Int32.toInt z311)) ∨ ((Int32.toInt r318) = 1 ∧ (Int32.toInt z311) = (Int32.toInt x20))) from ⟨(show _ ∧ _ from ⟨p321, p322⟩).1, (show _ ∧ _ from ⟨p321, p322⟩).2, (show _ ∧ _ from ⟨p323, p324⟩).1, (show _ ∧ _ from ⟨p323, p324⟩).2, (show _ ∧ _ from ⟨p325, p326⟩).1, (show _ ∧ _ from ⟨p325, p326⟩).2, (show _ ∧ _ from ⟨p327, p328⟩).1, (show _ ∧ _ from ⟨p327, p328⟩).2, (by first | omega | ((repeat' apply And.intro) <;> first | trivial | rfl | assumption | omega | decide | exact Or.inl rfl | exact Or.inr (Or.inl rfl) | exact Or.inr (Or.inr rfl) | exact Or.inr (Or.inr (by assumption)))), (by first | omega | ((repeat' apply And.intro) <;> first | trivial | rfl | assumption | omega | decide | exact Or.inl rfl | exact Or.inr (Or.inl rfl) | exact Or.inr (Or.inr rfl) | exact Or.inr (Or.inr (by assumption))))⟩) [0, 1, 2, 3] (by decide) rfl (Nat.le_of_ble_eq_true rfl) (Nat.le_of_ble_eq_true rfl)
                    obtain ⟨k333, k334⟩ := p330
                    exact r_zret 327 Rt dX12_draws_327 (nz_n (by omega) (by omega)) (z311, z312, z313, z314, z315, f316, f317) (show 0 ≤ (Int32.toInt r318) ∧ (Int32.toInt r318) ≤ 1 ∧ 0 ≤ (Int32.toInt z311) ∧ (Int32.toInt z311) ≤ 9 ∧ 0 ≤ (Int32.toInt z312) ∧ (Int32.toInt z312) ≤ 400 ∧ 0 ≤ (Int32.toInt z315) ∧ (Int32.toInt z315) ≤ 1 ∧ ((Int32.toInt z312) ≤ (Int32.toInt x22)) ∧ (((Int32.toInt r318) = 0 ∧ 1 ≤ (Int32.toInt z311)) ∨ ((Int32.toInt r318) = 1 ∧ (Int32.toInt z311) = (Int32.toInt x20))) from ⟨(show _ ∧ _ from ⟨p321, p322⟩).1, (show _ ∧ _ from ⟨p321, p322⟩).2, (show _ ∧ _ from ⟨p323, p324⟩).1, (show _ ∧ _ from ⟨p323, p324⟩).2, (show _ ∧ _ from ⟨p325, p326⟩).1, (show _ ∧ _ from ⟨p325, p326⟩).2, (show _ ∧ _ from ⟨p327, p328⟩).1, (show _ ∧ _ from ⟨p327, p328⟩).2, (by first | omega | ((repeat' apply And.intro) <;> first | trivial | rfl | assumption | omega | decide | exact Or.inl rfl | exact Or.inr (Or.inl rfl) | exact Or.inr (Or.inr rfl) | exact Or.inr (Or.inr (by assumption)))), (by first | omega | ((repeat' apply And.intro) <;> first | trivial | rfl | assumption | omega | decide | exact Or.inl rfl | exact Or.inr (Or.inl rfl) | exact Or.inr (Or.inr rfl) | exact Or.inr (Or.inr (by assumption))))⟩) [0, 1, 2, 3] (by decide) rfl (Nat.le_of_ble_eq_true rfl) (Nat.le_of_ble_eq_true rfl)
                  · skip
                    have k335 : ¬ ((Int32.toInt x0) = 30) := fun h_9 => c309 ((fa_eq x0 30).mpr h_9)
                    by_cases c336 : x0 = 31
                    · skip
                      have k337 : (Int32.toInt x0) = 31 := (fa_eq x0 31).mp c336
                      refine r_lookup 1 312 (off := 311) C dX12_draws_1 (by decide) (by rw [c336]; decide) (by decide) ?_
                      refine r_aload_n 312 0 C dX12_draws_312 rfl ?_
                      refine r_iload_n 313 1 C dX12_draws_313 rfl ?_
                      refine r_bipush 314 31 C dX12_draws_314 (by decide) ?_
                      refine r_icmp_ne_f 316 323 C dX12_draws_316 (by decide) ((fa_eq x0 31).mpr (by show (Int32.toInt x0) = 31; omega)) ?_
                      refine r_iconst 319 1 C dX12_draws_319 (by decide) ?_
                      refine r_goto 320 324 C dX12_draws_320 (by decide) ?_
                      refine r_callVi 324 C dX12_draws_324 [] [(h0, .inr (11, [.ref h4, .int x1, .ref h5, .int x2, .int x3, .int x4, .ref h6, .ref h7, .ref h8, .ref h9, .int x5, .int x6, .int x7, .ref h10, .ref h11, .ref h12, .ref h13, .int x8, .int x9, .int x10, .long y0, .int x11, .int x12, .long y1, .long y2, .ref h14, .ref h15, .ref h16, .ref h17, .long y3, .int x13, .ref h18, .int x14, .int x15, .int x16, .int x17, .ref h19, .ref h20, .ref h21, .ref h22, .ref h23, .ref h24, .ref h25, .ref h26, .ref h27, .ref h28, .ref h29, .int x18, .int x19, .int x20, .int x21, .int x22, .int x23, .int x24, .long y4, .int x25, .ref h1, .ref h2, .long y5, .long y6, .int x26, .ref h3, .int x27, .ref h30, .ref h31, .ref h32, .ref h33, .int x28, .int x29, .int x30, .int x31, .ref h34, .ref h35, .int x32, .int x33, .ref h36])), (h1, .inl (gI g, 400, .inl fn0)), (h2, .inl (gJ g, 2400, .inr (.inl fm0))), (h3, .inl (gJ g, 48, .inr (.inl fm1)))] [] (fun sz => c117_X12_byTurns l g h0 h1 h2 h3 1 h4 x1 h5 x2 x3 x4 h6 h7 h8 h9 x5 x6 x7 h10 h11 h12 h13 x8 x9 x10 y0 x11 x12 y1 y2 h14 h15 h16 h17 y3 x13 h18 x14 x15 x16 x17 h19 h20 h21 h22 h23 h24 h25 h26 h27 h28 h29 x18 x19 x20 x21 x22 x23 x24 y4 x25 y5 y6 x26 x27 h30 h31 h32 h33 x28 x29 x30 x31 h34 h35 x32 x33 h36 fn0 fm0 fm1 (by decide) i_x1 i_x2 i_x4 i_x7 i_x8 i_x11 i_x12 i_y1 i_y2 i_x13 i_x14 i_x15 i_x16 i_x17 i_x19 i_x20 i_x21 i_x22 i_x23 i_x25 i_x26 i_x27 i_x28 i_x29 i_x30 i_x31 i_x32 i_x33 (by show ((Int32.toInt x21) ≤ (Int32.toInt x22)); first | assumption | omega) sz) gX12_draws_X12_byTurns rfl ⟨rfl, rfl⟩ 1 (by decide) ⟨Nat.le_of_ble_eq_true rfl, Nat.le_of_ble_eq_true rfl⟩ 0 rfl rfl [0, 1, 2, 3] [] rfl rfl (by decide) (by decide) (by decide) rfl rfl (Nat.le_of_ble_eq_true rfl) ⟨Nat.le_of_ble_eq_true rfl, Nat.le_of_ble_eq_true rfl⟩ (fun r345 u347 w346 => ?_)
                      obtain ⟨z338, z339, z340, z341, z342, f343, f344⟩ := u347
                      refine r_ws [(h0, .inr (11, [.ref h4, .int x1, .ref h5, .int x2, .int x3, .int x4, .ref h6, .ref h7, .ref h8, .ref h9, .int x5, .int x6, .int x7, .ref h10, .ref h11, .ref h12, .ref h13, .int x8, .int x9, .int x10, .long y0, .int x11, .int x12, .long y1, .long y2, .ref h14, .ref h15, .ref h16, .ref h17, .long y3, .int x13, .ref h18, .int x14, .int x15, .int x16, .int x17, .ref h19, .ref h20, .ref h21, .ref h22, .ref h23, .ref h24, .ref h25, .ref h26, .ref h27, .ref h28, .ref h29, .int x18, .int x19, .int z338, .int z339, .int x22, .int x23, .int x24, .long y4, .int x25, .ref h1, .ref h2, .long z340, .long z341, .int z342, .ref h3, .int x27, .ref h30, .ref h31, .ref h32, .ref h33, .int x28, .int x29, .int x30, .int x31, .ref h34, .ref h35, .int x32, .int x33, .ref h36])), (h1, .inl (gI g, 400, .inl f343)), (h2, .inl (gJ g, 2400, .inr (.inl f344))), (h3, .inl (gJ g, 48, .inr (.inl fm1)))] rfl ?_
                      have gz340 := fb_rngL z340
                      have gz341 := fb_rngL z341
                      have p348 : 0 ≤ (Int32.toInt r345) := w346.1
                      have p349 : (Int32.toInt r345) ≤ 1 := w346.2.1
                      have p350 : 0 ≤ (Int32.toInt z338) := w346.2.2.1
                      have p351 : (Int32.toInt z338) ≤ 9 := w346.2.2.2.1
                      have p352 : 0 ≤ (Int32.toInt z339) := w346.2.2.2.2.1
                      have p353 : (Int32.toInt z339) ≤ 400 := w346.2.2.2.2.2.1
                      have p354 : 0 ≤ (Int32.toInt z342) := w346.2.2.2.2.2.2.1
                      have p355 : (Int32.toInt z342) ≤ 1 := w346.2.2.2.2.2.2.2.1
                      have p356 : ((Int32.toInt z339) ≤ (Int32.toInt x22)) := w346.2.2.2.2.2.2.2.2.1
                      have p357 : (((Int32.toInt r345) = 0 ∧ 1 ≤ (Int32.toInt z338)) ∨ ((Int32.toInt r345) = 1 ∧ (Int32.toInt z338) = (Int32.toInt x20))) := w346.2.2.2.2.2.2.2.2.2
                      rcases p357 with ⟨k358, k359⟩ | p357
                      · skip
                        exact r_zret 327 Rt dX12_draws_327 (nz_n (by omega) (by omega)) (z338, z339, z340, z341, z342, f343, f344) (show 0 ≤ (Int32.toInt r345) ∧ (Int32.toInt r345) ≤ 1 ∧ 0 ≤ (Int32.toInt z338) ∧ (Int32.toInt z338) ≤ 9 ∧ 0 ≤ (Int32.toInt z339) ∧ (Int32.toInt z339) ≤ 400 ∧ 0 ≤ (Int32.toInt z342) ∧ (Int32.toInt z342) ≤ 1 ∧ ((Int32.toInt z339) ≤ (Int32.toInt x22)) ∧ (((Int32.toInt r345) = 0 ∧ 1 ≤ (Int32.toInt z338)) ∨ ((Int32.toInt r345) = 1 ∧ (Int32.toInt z338) = (Int32.toInt x20))) from ⟨(show _ ∧ _ from ⟨p348, p349⟩).1, (show _ ∧ _ from ⟨p348, p349⟩).2, (show _ ∧ _ from ⟨p350, p351⟩).1, (show _ ∧ _ from ⟨p350, p351⟩).2, (show _ ∧ _ from ⟨p352, p353⟩).1, (show _ ∧ _ from ⟨p352, p353⟩).2, (show _ ∧ _ from ⟨p354, p355⟩).1, (show _ ∧ _ from ⟨p354, p355⟩).2, (by first | omega | ((repeat' apply And.intro) <;> first | trivial | rfl | assumption | omega | decide | exact Or.inl rfl | exact Or.inr (Or.inl rfl) | exact Or.inr (Or.inr rfl) | exact Or.inr (Or.inr (by assumption)))), (by first | omega | ((repeat' apply And.intro) <;> first | trivial | rfl | assumption | omega | decide | exact Or.inl rfl | exact Or.inr (Or.inl rfl) | exact Or.inr (Or.inr rfl) | exact Or.inr (Or.inr (by assumption))))⟩) [0, 1, 2, 3] (by decide) rfl (Nat.le_of_ble_eq_true rfl) (Nat.le_of_ble_eq_true rfl)
                      obtain ⟨k360, k361⟩ := p357
                      exact r_zret 327 Rt dX12_draws_327 (nz_n (by omega) (by omega)) (z338, z339, z340, z341, z342, f343, f344) (show 0 ≤ (Int32.toInt r345) ∧ (Int32.toInt r345) ≤ 1 ∧ 0 ≤ (Int32.toInt z338) ∧ (Int32.toInt z338) ≤ 9 ∧ 0 ≤ (Int32.toInt z339) ∧ (Int32.toInt z339) ≤ 400 ∧ 0 ≤ (Int32.toInt z342) ∧ (Int32.toInt z342) ≤ 1 ∧ ((Int32.toInt z339) ≤ (Int32.toInt x22)) ∧ (((Int32.toInt r345) = 0 ∧ 1 ≤ (Int32.toInt z338)) ∨ ((Int32.toInt r345) = 1 ∧ (Int32.toInt z338) = (Int32.toInt x20))) from ⟨(show _ ∧ _ from ⟨p348, p349⟩).1, (show _ ∧ _ from ⟨p348, p349⟩).2, (show _ ∧ _ from ⟨p350, p351⟩).1, (show _ ∧ _ from ⟨p350, p351⟩).2, (show _ ∧ _ from ⟨p352, p353⟩).1, (show _ ∧ _ from ⟨p352, p353⟩).2, (show _ ∧ _ from ⟨p354, p355⟩).1, (show _ ∧ _ from ⟨p354, p355⟩).2, (by first | omega | ((repeat' apply And.intro) <;> first | trivial | rfl | assumption | omega | decide | exact Or.inl rfl | exact Or.inr (Or.inl rfl) | exact Or.inr (Or.inr rfl) | exact Or.inr (Or.inr (by assumption)))), (by first | omega | ((repeat' apply And.intro) <;> first | trivial | rfl | assumption | omega | decide | exact Or.inl rfl | exact Or.inr (Or.inl rfl) | exact Or.inr (Or.inr rfl) | exact Or.inr (Or.inr (by assumption))))⟩) [0, 1, 2, 3] (by decide) rfl (Nat.le_of_ble_eq_true rfl) (Nat.le_of_ble_eq_true rfl)
                    · skip
                      have k362 : ¬ ((Int32.toInt x0) = 31) := fun h_9 => c336 ((fa_eq x0 31).mpr h_9)
                      by_cases c363 : x0 = 290
                      · skip
                        have k364 : (Int32.toInt x0) = 290 := (fa_eq x0 290).mp c363
                        refine r_lookup 1 328 (off := 327) C dX12_draws_1 (by decide) (by rw [c363]; decide) (by decide) ?_
                        refine r_aload_n 328 0 C dX12_draws_328 rfl ?_
                        refine r_bipush 329 7 C dX12_draws_329 (by decide) ?_
                        refine r_callVi 331 C dX12_draws_331 [] [(h0, .inr (11, [.ref h4, .int x1, .ref h5, .int x2, .int x3, .int x4, .ref h6, .ref h7, .ref h8, .ref h9, .int x5, .int x6, .int x7, .ref h10, .ref h11, .ref h12, .ref h13, .int x8, .int x9, .int x10, .long y0, .int x11, .int x12, .long y1, .long y2, .ref h14, .ref h15, .ref h16, .ref h17, .long y3, .int x13, .ref h18, .int x14, .int x15, .int x16, .int x17, .ref h19, .ref h20, .ref h21, .ref h22, .ref h23, .ref h24, .ref h25, .ref h26, .ref h27, .ref h28, .ref h29, .int x18, .int x19, .int x20, .int x21, .int x22, .int x23, .int x24, .long y4, .int x25, .ref h1, .ref h2, .long y5, .long y6, .int x26, .ref h3, .int x27, .ref h30, .ref h31, .ref h32, .ref h33, .int x28, .int x29, .int x30, .int x31, .ref h34, .ref h35, .int x32, .int x33, .ref h36]))] [(h1, .inl (gI g, 400, .inl fn0)), (h2, .inl (gJ g, 2400, .inr (.inl fm0))), (h3, .inl (gJ g, 48, .inr (.inl fm1)))] (fun sz => c118_X12_wants l g h0 7 h4 x1 h5 x2 x3 x4 h6 h7 h8 h9 x5 x6 x7 h10 h11 h12 h13 x8 x9 x10 y0 x11 x12 y1 y2 h14 h15 h16 h17 y3 x13 h18 x14 x15 x16 x17 h19 h20 h21 h22 h23 h24 h25 h26 h27 h28 h29 x18 x19 x20 x21 x22 x23 x24 y4 x25 h1 h2 y5 y6 x26 h3 x27 h30 h31 h32 h33 x28 x29 x30 x31 h34 h35 x32 x33 h36 i_x1 i_x2 i_x4 i_x7 i_x8 i_x11 i_x12 i_y1 i_y2 i_x13 i_x14 i_x15 i_x16 i_x17 i_x19 i_x20 i_x21 i_x22 i_x23 i_x25 i_x26 i_x27 i_x28 i_x29 i_x30 i_x31 i_x32 i_x33 sz) gX12_draws_X12_wants rfl ⟨rfl, rfl⟩ 1 (by decide) ⟨Nat.le_of_ble_eq_true rfl, Nat.le_of_ble_eq_true rfl⟩ 0 rfl rfl [0] [1, 2, 3] rfl rfl (by decide) (by decide) (by decide) rfl rfl (Nat.le_of_ble_eq_true rfl) ⟨Nat.le_of_ble_eq_true rfl, Nat.le_of_ble_eq_true rfl⟩ (fun r366 z365 w367 => ?_)
                        refine r_ws [(h1, .inl (gI g, 400, .inl fn0)), (h2, .inl (gJ g, 2400, .inr (.inl fm0))), (h3, .inl (gJ g, 48, .inr (.inl fm1))), (h0, .inr (11, [.ref h4, .int x1, .ref h5, .int x2, .int x3, .int x4, .ref h6, .ref h7, .ref h8, .ref h9, .int x5, .int x6, .int x7, .ref h10, .ref h11, .ref h12, .ref h13, .int x8, .int x9, .int x10, .long y0, .int x11, .int x12, .long y1, .long y2, .ref h14, .ref h15, .ref h16, .ref h17, .long y3, .int x13, .ref h18, .int x14, .int x15, .int x16, .int x17, .ref h19, .ref h20, .ref h21, .ref h22, .ref h23, .ref h24, .ref h25, .ref h26, .ref h27, .ref h28, .ref h29, .int x18, .int x19, .int z365, .int x21, .int x22, .int x23, .int x24, .long y4, .int x25, .ref h1, .ref h2, .long y5, .long y6, .int x26, .ref h3, .int x27, .ref h30, .ref h31, .ref h32, .ref h33, .int x28, .int x29, .int x30, .int x31, .ref h34, .ref h35, .int x32, .int x33, .ref h36]))] rfl ?_
                        have p368 : 0 ≤ (Int32.toInt r366) := w367.1
                        have p369 : (Int32.toInt r366) ≤ 1 := w367.2.1
                        have p370 : 0 ≤ (Int32.toInt z365) := w367.2.2.1
                        have p371 : (Int32.toInt z365) ≤ 9 := w367.2.2.2.1
                        have p372 : (((Int32.toInt r366) = 0 ∧ 1 ≤ (Int32.toInt z365)) ∨ ((Int32.toInt r366) = 1 ∧ (Int32.toInt z365) = (Int32.toInt x20) ∧ (Int32.toInt x27) = (7 : Int))) := w367.2.2.2.2
                        rcases p372 with ⟨k373, k374⟩ | p372
                        · skip
                          refine r_if_eq_t 334 348 C dX12_draws_334 (by decide) ((fa_eq r366 0).mpr (by show (Int32.toInt r366) = 0; omega)) ?_
                          refine r_iconst 348 0 C dX12_draws_348 (by decide) ?_
                          exact r_zret 349 Rt dX12_draws_349 (by decide) (z365, x21, y5, y6, x26, fn0, fm0) (show 0 ≤ (Int32.toInt 0) ∧ (Int32.toInt 0) ≤ 1 ∧ 0 ≤ (Int32.toInt z365) ∧ (Int32.toInt z365) ≤ 9 ∧ 0 ≤ (Int32.toInt x21) ∧ (Int32.toInt x21) ≤ 400 ∧ 0 ≤ (Int32.toInt x26) ∧ (Int32.toInt x26) ≤ 1 ∧ ((Int32.toInt x21) ≤ (Int32.toInt x22)) ∧ ((0 = 0 ∧ 1 ≤ (Int32.toInt z365)) ∨ (0 = 1 ∧ (Int32.toInt z365) = (Int32.toInt x20))) from ⟨(by decide), (by decide), (show _ ∧ _ from ⟨p370, p371⟩).1, (show _ ∧ _ from ⟨p370, p371⟩).2, i_x21.1, i_x21.2, i_x26.1, i_x26.2, (by first | omega | ((repeat' apply And.intro) <;> first | trivial | rfl | assumption | omega | decide | exact Or.inl rfl | exact Or.inr (Or.inl rfl) | exact Or.inr (Or.inr rfl) | exact Or.inr (Or.inr (by assumption)))), (by first | omega | ((repeat' apply And.intro) <;> first | trivial | rfl | assumption | omega | decide | exact Or.inl rfl | exact Or.inr (Or.inl rfl) | exact Or.inr (Or.inr rfl) | exact Or.inr (Or.inr (by assumption))))⟩) [3, 0, 1, 2] (by decide) rfl (Nat.le_of_ble_eq_true rfl) (Nat.le_of_ble_eq_true rfl)
                        obtain ⟨k375, k376, k377⟩ := p372
                        refine r_if_eq_f 334 348 C dX12_draws_334 (by decide) (fun h_9 => by have h_8 : (Int32.toInt r366) = 0 := (fa_eq r366 0).mp h_9; omega) ?_
                        refine r_aload_n 337 0 C dX12_draws_337 rfl ?_
                        refine r_callVi 338 C dX12_draws_338 [] [(h0, .inr (11, [.ref h4, .int x1, .ref h5, .int x2, .int x3, .int x4, .ref h6, .ref h7, .ref h8, .ref h9, .int x5, .int x6, .int x7, .ref h10, .ref h11, .ref h12, .ref h13, .int x8, .int x9, .int x10, .long y0, .int x11, .int x12, .long y1, .long y2, .ref h14, .ref h15, .ref h16, .ref h17, .long y3, .int x13, .ref h18, .int x14, .int x15, .int x16, .int x17, .ref h19, .ref h20, .ref h21, .ref h22, .ref h23, .ref h24, .ref h25, .ref h26, .ref h27, .ref h28, .ref h29, .int x18, .int x19, .int z365, .int x21, .int x22, .int x23, .int x24, .long y4, .int x25, .ref h1, .ref h2, .long y5, .long y6, .int x26, .ref h3, .int x27, .ref h30, .ref h31, .ref h32, .ref h33, .int x28, .int x29, .int x30, .int x31, .ref h34, .ref h35, .int x32, .int x33, .ref h36])), (h1, .inl (gI g, 400, .inl fn0)), (h2, .inl (gJ g, 2400, .inr (.inl fm0))), (h3, .inl (gJ g, 48, .inr (.inl fm1)))] [] (fun sz => c119_X12_hflex l g h0 h1 h2 h3 h4 x1 h5 x2 x3 x4 h6 h7 h8 h9 x5 x6 x7 h10 h11 h12 h13 x8 x9 x10 y0 x11 x12 y1 y2 h14 h15 h16 h17 y3 x13 h18 x14 x15 x16 x17 h19 h20 h21 h22 h23 h24 h25 h26 h27 h28 h29 x18 x19 z365 x21 x22 x23 x24 y4 x25 y5 y6 x26 x27 h30 h31 h32 h33 x28 x29 x30 x31 h34 h35 x32 x33 h36 fn0 fm0 fm1 i_x1 i_x2 i_x4 i_x7 i_x8 i_x11 i_x12 i_y1 i_y2 i_x13 i_x14 i_x15 i_x16 i_x17 i_x19 ⟨p370, p371⟩ i_x21 i_x22 i_x23 i_x25 i_x26 i_x27 i_x28 i_x29 i_x30 i_x31 i_x32 i_x33 (by show ((Int32.toInt x21) ≤ (Int32.toInt x22)); first | assumption | omega) sz) gX12_draws_X12_hflex rfl ⟨rfl, rfl⟩ 0 (by decide) ⟨Nat.le_of_ble_eq_true rfl, Nat.le_of_ble_eq_true rfl⟩ 3 rfl rfl [3, 0, 1, 2] [] rfl rfl (by decide) (by decide) (by decide) rfl rfl (Nat.le_of_ble_eq_true rfl) ⟨Nat.le_of_ble_eq_true rfl, Nat.le_of_ble_eq_true rfl⟩ (fun r385 u387 w386 => ?_)
                        obtain ⟨z378, z379, z380, z381, z382, f383, f384⟩ := u387
                        refine r_ws [(h0, .inr (11, [.ref h4, .int x1, .ref h5, .int x2, .int x3, .int x4, .ref h6, .ref h7, .ref h8, .ref h9, .int x5, .int x6, .int x7, .ref h10, .ref h11, .ref h12, .ref h13, .int x8, .int x9, .int x10, .long y0, .int x11, .int x12, .long y1, .long y2, .ref h14, .ref h15, .ref h16, .ref h17, .long y3, .int x13, .ref h18, .int x14, .int x15, .int x16, .int x17, .ref h19, .ref h20, .ref h21, .ref h22, .ref h23, .ref h24, .ref h25, .ref h26, .ref h27, .ref h28, .ref h29, .int x18, .int x19, .int z378, .int z379, .int x22, .int x23, .int x24, .long y4, .int x25, .ref h1, .ref h2, .long z380, .long z381, .int z382, .ref h3, .int x27, .ref h30, .ref h31, .ref h32, .ref h33, .int x28, .int x29, .int x30, .int x31, .ref h34, .ref h35, .int x32, .int x33, .ref h36])), (h1, .inl (gI g, 400, .inl f383)), (h2, .inl (gJ g, 2400, .inr (.inl f384))), (h3, .inl (gJ g, 48, .inr (.inl fm1)))] rfl ?_
                        have gz380 := fb_rngL z380
                        have gz381 := fb_rngL z381
                        have p388 : 0 ≤ (Int32.toInt r385) := w386.1
                        have p389 : (Int32.toInt r385) ≤ 1 := w386.2.1
                        have p390 : 0 ≤ (Int32.toInt z378) := w386.2.2.1
                        have p391 : (Int32.toInt z378) ≤ 9 := w386.2.2.2.1
                        have p392 : 0 ≤ (Int32.toInt z379) := w386.2.2.2.2.1
                        have p393 : (Int32.toInt z379) ≤ 400 := w386.2.2.2.2.2.1
                        have p394 : 0 ≤ (Int32.toInt z382) := w386.2.2.2.2.2.2.1
                        have p395 : (Int32.toInt z382) ≤ 1 := w386.2.2.2.2.2.2.2.1
                        have p396 : ((Int32.toInt z379) ≤ (Int32.toInt x22)) := w386.2.2.2.2.2.2.2.2.1
                        have p397 : (((Int32.toInt r385) = 0 ∧ 1 ≤ (Int32.toInt z378)) ∨ ((Int32.toInt r385) = 1 ∧ (Int32.toInt z378) = (Int32.toInt z365))) := w386.2.2.2.2.2.2.2.2.2
                        rcases p397 with ⟨k398, k399⟩ | p397
                        · skip
                          refine r_if_eq_t 341 348 C dX12_draws_341 (by decide) ((fa_eq r385 0).mpr (by show (Int32.toInt r385) = 0; omega)) ?_
                          refine r_iconst 348 0 C dX12_draws_348 (by decide) ?_
                          exact r_zret 349 Rt dX12_draws_349 (by decide) (z378, z379, z380, z381, z382, f383, f384) (show 0 ≤ (Int32.toInt 0) ∧ (Int32.toInt 0) ≤ 1 ∧ 0 ≤ (Int32.toInt z378) ∧ (Int32.toInt z378) ≤ 9 ∧ 0 ≤ (Int32.toInt z379) ∧ (Int32.toInt z379) ≤ 400 ∧ 0 ≤ (Int32.toInt z382) ∧ (Int32.toInt z382) ≤ 1 ∧ ((Int32.toInt z379) ≤ (Int32.toInt x22)) ∧ ((0 = 0 ∧ 1 ≤ (Int32.toInt z378)) ∨ (0 = 1 ∧ (Int32.toInt z378) = (Int32.toInt x20))) from ⟨(by decide), (by decide), (show _ ∧ _ from ⟨p390, p391⟩).1, (show _ ∧ _ from ⟨p390, p391⟩).2, (show _ ∧ _ from ⟨p392, p393⟩).1, (show _ ∧ _ from ⟨p392, p393⟩).2, (show _ ∧ _ from ⟨p394, p395⟩).1, (show _ ∧ _ from ⟨p394, p395⟩).2, (by first | omega | ((repeat' apply And.intro) <;> first | trivial | rfl | assumption | omega | decide | exact Or.inl rfl | exact Or.inr (Or.inl rfl) | exact Or.inr (Or.inr rfl) | exact Or.inr (Or.inr (by assumption)))), (by first | omega | ((repeat' apply And.intro) <;> first | trivial | rfl | assumption | omega | decide | exact Or.inl rfl | exact Or.inr (Or.inl rfl) | exact Or.inr (Or.inr rfl) | exact Or.inr (Or.inr (by assumption))))⟩) [0, 1, 2, 3] (by decide) rfl (Nat.le_of_ble_eq_true rfl) (Nat.le_of_ble_eq_true rfl)
                        obtain ⟨k400, k401⟩ := p397
                        refine r_if_eq_f 341 348 C dX12_draws_341 (by decide) (fun h_9 => by have h_8 : (Int32.toInt r385) = 0 := (fa_eq r385 0).mp h_9; omega) ?_
                        refine r_iconst 344 1 C dX12_draws_344 (by decide) ?_
                        refine r_goto 345 349 C dX12_draws_345 (by decide) ?_
                        exact r_zret 349 Rt dX12_draws_349 (by decide) (z378, z379, z380, z381, z382, f383, f384) (show 0 ≤ (Int32.toInt 1) ∧ (Int32.toInt 1) ≤ 1 ∧ 0 ≤ (Int32.toInt z378) ∧ (Int32.toInt z378) ≤ 9 ∧ 0 ≤ (Int32.toInt z379) ∧ (Int32.toInt z379) ≤ 400 ∧ 0 ≤ (Int32.toInt z382) ∧ (Int32.toInt z382) ≤ 1 ∧ ((Int32.toInt z379) ≤ (Int32.toInt x22)) ∧ ((1 = 0 ∧ 1 ≤ (Int32.toInt z378)) ∨ (1 = 1 ∧ (Int32.toInt z378) = (Int32.toInt x20))) from ⟨(by decide), (by decide), (show _ ∧ _ from ⟨p390, p391⟩).1, (show _ ∧ _ from ⟨p390, p391⟩).2, (show _ ∧ _ from ⟨p392, p393⟩).1, (show _ ∧ _ from ⟨p392, p393⟩).2, (show _ ∧ _ from ⟨p394, p395⟩).1, (show _ ∧ _ from ⟨p394, p395⟩).2, (by first | omega | ((repeat' apply And.intro) <;> first | trivial | rfl | assumption | omega | decide | exact Or.inl rfl | exact Or.inr (Or.inl rfl) | exact Or.inr (Or.inr rfl) | exact Or.inr (Or.inr (by assumption)))), (by first | omega | ((repeat' apply And.intro) <;> first | trivial | rfl | assumption | omega | decide | exact Or.inl rfl | exact Or.inr (Or.inl rfl) | exact Or.inr (Or.inr rfl) | exact Or.inr (Or.inr (by assumption))))⟩) [0, 1, 2, 3] (by decide) rfl (Nat.le_of_ble_eq_true rfl) (Nat.le_of_ble_eq_true rfl)
                      · skip
                        have k402 : ¬ ((Int32.toInt x0) = 290) := fun h_9 => c363 ((fa_eq x0 290).mpr h_9)
                        by_cases c403 : x0 = 291
                        · skip
                          have k404 : (Int32.toInt x0) = 291 := (fa_eq x0 291).mp c403
                          refine r_lookup 1 350 (off := 349) C dX12_draws_1 (by decide) (by rw [c403]; decide) (by decide) ?_
                          refine r_aload_n 350 0 C dX12_draws_350 rfl ?_
                          refine r_bipush 351 13 C dX12_draws_351 (by decide) ?_
                          refine r_callVi 353 C dX12_draws_353 [] [(h0, .inr (11, [.ref h4, .int x1, .ref h5, .int x2, .int x3, .int x4, .ref h6, .ref h7, .ref h8, .ref h9, .int x5, .int x6, .int x7, .ref h10, .ref h11, .ref h12, .ref h13, .int x8, .int x9, .int x10, .long y0, .int x11, .int x12, .long y1, .long y2, .ref h14, .ref h15, .ref h16, .ref h17, .long y3, .int x13, .ref h18, .int x14, .int x15, .int x16, .int x17, .ref h19, .ref h20, .ref h21, .ref h22, .ref h23, .ref h24, .ref h25, .ref h26, .ref h27, .ref h28, .ref h29, .int x18, .int x19, .int x20, .int x21, .int x22, .int x23, .int x24, .long y4, .int x25, .ref h1, .ref h2, .long y5, .long y6, .int x26, .ref h3, .int x27, .ref h30, .ref h31, .ref h32, .ref h33, .int x28, .int x29, .int x30, .int x31, .ref h34, .ref h35, .int x32, .int x33, .ref h36]))] [(h1, .inl (gI g, 400, .inl fn0)), (h2, .inl (gJ g, 2400, .inr (.inl fm0))), (h3, .inl (gJ g, 48, .inr (.inl fm1)))] (fun sz => c118_X12_wants l g h0 13 h4 x1 h5 x2 x3 x4 h6 h7 h8 h9 x5 x6 x7 h10 h11 h12 h13 x8 x9 x10 y0 x11 x12 y1 y2 h14 h15 h16 h17 y3 x13 h18 x14 x15 x16 x17 h19 h20 h21 h22 h23 h24 h25 h26 h27 h28 h29 x18 x19 x20 x21 x22 x23 x24 y4 x25 h1 h2 y5 y6 x26 h3 x27 h30 h31 h32 h33 x28 x29 x30 x31 h34 h35 x32 x33 h36 i_x1 i_x2 i_x4 i_x7 i_x8 i_x11 i_x12 i_y1 i_y2 i_x13 i_x14 i_x15 i_x16 i_x17 i_x19 i_x20 i_x21 i_x22 i_x23 i_x25 i_x26 i_x27 i_x28 i_x29 i_x30 i_x31 i_x32 i_x33 sz) gX12_draws_X12_wants rfl ⟨rfl, rfl⟩ 1 (by decide) ⟨Nat.le_of_ble_eq_true rfl, Nat.le_of_ble_eq_true rfl⟩ 0 rfl rfl [0] [1, 2, 3] rfl rfl (by decide) (by decide) (by decide) rfl rfl (Nat.le_of_ble_eq_true rfl) ⟨Nat.le_of_ble_eq_true rfl, Nat.le_of_ble_eq_true rfl⟩ (fun r406 z405 w407 => ?_)
                          refine r_ws [(h1, .inl (gI g, 400, .inl fn0)), (h2, .inl (gJ g, 2400, .inr (.inl fm0))), (h3, .inl (gJ g, 48, .inr (.inl fm1))), (h0, .inr (11, [.ref h4, .int x1, .ref h5, .int x2, .int x3, .int x4, .ref h6, .ref h7, .ref h8, .ref h9, .int x5, .int x6, .int x7, .ref h10, .ref h11, .ref h12, .ref h13, .int x8, .int x9, .int x10, .long y0, .int x11, .int x12, .long y1, .long y2, .ref h14, .ref h15, .ref h16, .ref h17, .long y3, .int x13, .ref h18, .int x14, .int x15, .int x16, .int x17, .ref h19, .ref h20, .ref h21, .ref h22, .ref h23, .ref h24, .ref h25, .ref h26, .ref h27, .ref h28, .ref h29, .int x18, .int x19, .int z405, .int x21, .int x22, .int x23, .int x24, .long y4, .int x25, .ref h1, .ref h2, .long y5, .long y6, .int x26, .ref h3, .int x27, .ref h30, .ref h31, .ref h32, .ref h33, .int x28, .int x29, .int x30, .int x31, .ref h34, .ref h35, .int x32, .int x33, .ref h36]))] rfl ?_
                          have p408 : 0 ≤ (Int32.toInt r406) := w407.1
                          have p409 : (Int32.toInt r406) ≤ 1 := w407.2.1
                          have p410 : 0 ≤ (Int32.toInt z405) := w407.2.2.1
                          have p411 : (Int32.toInt z405) ≤ 9 := w407.2.2.2.1
                          have p412 : (((Int32.toInt r406) = 0 ∧ 1 ≤ (Int32.toInt z405)) ∨ ((Int32.toInt r406) = 1 ∧ (Int32.toInt z405) = (Int32.toInt x20) ∧ (Int32.toInt x27) = (13 : Int))) := w407.2.2.2.2
                          rcases p412 with ⟨k413, k414⟩ | p412
                          · skip
                            refine r_if_eq_t 356 374 C dX12_draws_356 (by decide) ((fa_eq r406 0).mpr (by show (Int32.toInt r406) = 0; omega)) ?_
                            refine r_iconst 374 0 C dX12_draws_374 (by decide) ?_
                            exact r_zret 375 Rt dX12_draws_375 (by decide) (z405, x21, y5, y6, x26, fn0, fm0) (show 0 ≤ (Int32.toInt 0) ∧ (Int32.toInt 0) ≤ 1 ∧ 0 ≤ (Int32.toInt z405) ∧ (Int32.toInt z405) ≤ 9 ∧ 0 ≤ (Int32.toInt x21) ∧ (Int32.toInt x21) ≤ 400 ∧ 0 ≤ (Int32.toInt x26) ∧ (Int32.toInt x26) ≤ 1 ∧ ((Int32.toInt x21) ≤ (Int32.toInt x22)) ∧ ((0 = 0 ∧ 1 ≤ (Int32.toInt z405)) ∨ (0 = 1 ∧ (Int32.toInt z405) = (Int32.toInt x20))) from ⟨(by decide), (by decide), (show _ ∧ _ from ⟨p410, p411⟩).1, (show _ ∧ _ from ⟨p410, p411⟩).2, i_x21.1, i_x21.2, i_x26.1, i_x26.2, (by first | omega | ((repeat' apply And.intro) <;> first | trivial | rfl | assumption | omega | decide | exact Or.inl rfl | exact Or.inr (Or.inl rfl) | exact Or.inr (Or.inr rfl) | exact Or.inr (Or.inr (by assumption)))), (by first | omega | ((repeat' apply And.intro) <;> first | trivial | rfl | assumption | omega | decide | exact Or.inl rfl | exact Or.inr (Or.inl rfl) | exact Or.inr (Or.inr rfl) | exact Or.inr (Or.inr (by assumption))))⟩) [3, 0, 1, 2] (by decide) rfl (Nat.le_of_ble_eq_true rfl) (Nat.le_of_ble_eq_true rfl)
                          obtain ⟨k415, k416, k417⟩ := p412
                          refine r_if_eq_f 356 374 C dX12_draws_356 (by decide) (fun h_9 => by have h_8 : (Int32.toInt r406) = 0 := (fa_eq r406 0).mp h_9; omega) ?_
                          refine r_aload_n 359 0 C dX12_draws_359 rfl ?_
                          refine r_iconst 360 0 C dX12_draws_360 (by decide) ?_
                          refine r_bipush 361 12 C dX12_draws_361 (by decide) ?_
                          refine r_iconst 363 1 C dX12_draws_363 (by decide) ?_
                          refine r_callVi 364 C dX12_draws_364 [] [(h0, .inr (11, [.ref h4, .int x1, .ref h5, .int x2, .int x3, .int x4, .ref h6, .ref h7, .ref h8, .ref h9, .int x5, .int x6, .int x7, .ref h10, .ref h11, .ref h12, .ref h13, .int x8, .int x9, .int x10, .long y0, .int x11, .int x12, .long y1, .long y2, .ref h14, .ref h15, .ref h16, .ref h17, .long y3, .int x13, .ref h18, .int x14, .int x15, .int x16, .int x17, .ref h19, .ref h20, .ref h21, .ref h22, .ref h23, .ref h24, .ref h25, .ref h26, .ref h27, .ref h28, .ref h29, .int x18, .int x19, .int z405, .int x21, .int x22, .int x23, .int x24, .long y4, .int x25, .ref h1, .ref h2, .long y5, .long y6, .int x26, .ref h3, .int x27, .ref h30, .ref h31, .ref h32, .ref h33, .int x28, .int x29, .int x30, .int x31, .ref h34, .ref h35, .int x32, .int x33, .ref h36])), (h1, .inl (gI g, 400, .inl fn0)), (h2, .inl (gJ g, 2400, .inr (.inl fm0))), (h3, .inl (gJ g, 48, .inr (.inl fm1)))] [] (fun sz => c115_X12_sixes l g h0 h1 h2 h3 0 12 h4 x1 h5 x2 x3 x4 h6 h7 h8 h9 x5 x6 x7 h10 h11 h12 h13 x8 x9 x10 y0 x11 x12 y1 y2 h14 h15 h16 h17 y3 x13 h18 x14 x15 x16 x17 h19 h20 h21 h22 h23 h24 h25 h26 h27 h28 h29 x18 x19 z405 x21 x22 x23 x24 y4 x25 y5 y6 x26 x27 h30 h31 h32 h33 x28 x29 x30 x31 h34 h35 x32 x33 h36 fn0 fm0 fm1 (by decide) (by decide) i_x1 i_x2 i_x4 i_x7 i_x8 i_x11 i_x12 i_y1 i_y2 i_x13 i_x14 i_x15 i_x16 i_x17 i_x19 ⟨p410, p411⟩ i_x21 i_x22 i_x23 i_x25 i_x26 i_x27 i_x28 i_x29 i_x30 i_x31 i_x32 i_x33 (by show ((Int32.toInt x21) ≤ (Int32.toInt x22)); first | assumption | omega) sz) gX12_draws_X12_sixes rfl ⟨rfl, rfl⟩ 3 (by decide) ⟨Nat.le_of_ble_eq_true rfl, Nat.le_of_ble_eq_true rfl⟩ 3 rfl rfl [3, 0, 1, 2] [] rfl rfl (by decide) (by decide) (by decide) rfl rfl (Nat.le_of_ble_eq_true rfl) ⟨Nat.le_of_ble_eq_true rfl, Nat.le_of_ble_eq_true rfl⟩ (fun r425 u427 w426 => ?_)
                          obtain ⟨z418, z419, z420, z421, z422, f423, f424⟩ := u427
                          refine r_ws [(h0, .inr (11, [.ref h4, .int x1, .ref h5, .int x2, .int x3, .int x4, .ref h6, .ref h7, .ref h8, .ref h9, .int x5, .int x6, .int x7, .ref h10, .ref h11, .ref h12, .ref h13, .int x8, .int x9, .int x10, .long y0, .int x11, .int x12, .long y1, .long y2, .ref h14, .ref h15, .ref h16, .ref h17, .long y3, .int x13, .ref h18, .int x14, .int x15, .int x16, .int x17, .ref h19, .ref h20, .ref h21, .ref h22, .ref h23, .ref h24, .ref h25, .ref h26, .ref h27, .ref h28, .ref h29, .int x18, .int x19, .int z418, .int z419, .int x22, .int x23, .int x24, .long y4, .int x25, .ref h1, .ref h2, .long z420, .long z421, .int z422, .ref h3, .int x27, .ref h30, .ref h31, .ref h32, .ref h33, .int x28, .int x29, .int x30, .int x31, .ref h34, .ref h35, .int x32, .int x33, .ref h36])), (h1, .inl (gI g, 400, .inl f423)), (h2, .inl (gJ g, 2400, .inr (.inl f424))), (h3, .inl (gJ g, 48, .inr (.inl fm1)))] rfl ?_
                          have gz420 := fb_rngL z420
                          have gz421 := fb_rngL z421
                          have p428 : 0 ≤ (Int32.toInt r425) := w426.1
                          have p429 : (Int32.toInt r425) ≤ 1 := w426.2.1
                          have p430 : 0 ≤ (Int32.toInt z418) := w426.2.2.1
                          have p431 : (Int32.toInt z418) ≤ 9 := w426.2.2.2.1
                          have p432 : 0 ≤ (Int32.toInt z419) := w426.2.2.2.2.1
                          have p433 : (Int32.toInt z419) ≤ 400 := w426.2.2.2.2.2.1
                          have p434 : 0 ≤ (Int32.toInt z422) := w426.2.2.2.2.2.2.1
                          have p435 : (Int32.toInt z422) ≤ 1 := w426.2.2.2.2.2.2.2.1
                          have p436 : ((Int32.toInt z419) ≤ (Int32.toInt x22)) := w426.2.2.2.2.2.2.2.2.1
                          have p437 : (((Int32.toInt r425) = 0 ∧ 1 ≤ (Int32.toInt z418)) ∨ ((Int32.toInt r425) = 1 ∧ (Int32.toInt z418) = (Int32.toInt z405))) := w426.2.2.2.2.2.2.2.2.2
                          rcases p437 with ⟨k438, k439⟩ | p437
                          · skip
                            refine r_if_eq_t 367 374 C dX12_draws_367 (by decide) ((fa_eq r425 0).mpr (by show (Int32.toInt r425) = 0; omega)) ?_
                            refine r_iconst 374 0 C dX12_draws_374 (by decide) ?_
                            exact r_zret 375 Rt dX12_draws_375 (by decide) (z418, z419, z420, z421, z422, f423, f424) (show 0 ≤ (Int32.toInt 0) ∧ (Int32.toInt 0) ≤ 1 ∧ 0 ≤ (Int32.toInt z418) ∧ (Int32.toInt z418) ≤ 9 ∧ 0 ≤ (Int32.toInt z419) ∧ (Int32.toInt z419) ≤ 400 ∧ 0 ≤ (Int32.toInt z422) ∧ (Int32.toInt z422) ≤ 1 ∧ ((Int32.toInt z419) ≤ (Int32.toInt x22)) ∧ ((0 = 0 ∧ 1 ≤ (Int32.toInt z418)) ∨ (0 = 1 ∧ (Int32.toInt z418) = (Int32.toInt x20))) from ⟨(by decide), (by decide), (show _ ∧ _ from ⟨p430, p431⟩).1, (show _ ∧ _ from ⟨p430, p431⟩).2, (show _ ∧ _ from ⟨p432, p433⟩).1, (show _ ∧ _ from ⟨p432, p433⟩).2, (show _ ∧ _ from ⟨p434, p435⟩).1, (show _ ∧ _ from ⟨p434, p435⟩).2, (by first | omega | ((repeat' apply And.intro) <;> first | trivial | rfl | assumption | omega | decide | exact Or.inl rfl | exact Or.inr (Or.inl rfl) | exact Or.inr (Or.inr rfl) | exact Or.inr (Or.inr (by assumption)))), (by first | omega | ((repeat' apply And.intro) <;> first | trivial | rfl | assumption | omega | decide | exact Or.inl rfl | exact Or.inr (Or.inl rfl) | exact Or.inr (Or.inr rfl) | exact Or.inr (Or.inr (by assumption))))⟩) [0, 1, 2, 3] (by decide) rfl (Nat.le_of_ble_eq_true rfl) (Nat.le_of_ble_eq_true rfl)
                          obtain ⟨k440, k441⟩ := p437
                          refine r_if_eq_f 367 374 C dX12_draws_367 (by decide) (fun h_9 => by have h_8 : (Int32.toInt r425) = 0 := (fa_eq r425 0).mp h_9; omega) ?_
                          refine r_iconst 370 1 C dX12_draws_370 (by decide) ?_
                          refine r_goto 371 375 C dX12_draws_371 (by decide) ?_
                          exact r_zret 375 Rt dX12_draws_375 (by decide) (z418, z419, z420, z421, z422, f423, f424) (show 0 ≤ (Int32.toInt 1) ∧ (Int32.toInt 1) ≤ 1 ∧ 0 ≤ (Int32.toInt z418) ∧ (Int32.toInt z418) ≤ 9 ∧ 0 ≤ (Int32.toInt z419) ∧ (Int32.toInt z419) ≤ 400 ∧ 0 ≤ (Int32.toInt z422) ∧ (Int32.toInt z422) ≤ 1 ∧ ((Int32.toInt z419) ≤ (Int32.toInt x22)) ∧ ((1 = 0 ∧ 1 ≤ (Int32.toInt z418)) ∨ (1 = 1 ∧ (Int32.toInt z418) = (Int32.toInt x20))) from ⟨(by decide), (by decide), (show _ ∧ _ from ⟨p430, p431⟩).1, (show _ ∧ _ from ⟨p430, p431⟩).2, (show _ ∧ _ from ⟨p432, p433⟩).1, (show _ ∧ _ from ⟨p432, p433⟩).2, (show _ ∧ _ from ⟨p434, p435⟩).1, (show _ ∧ _ from ⟨p434, p435⟩).2, (by first | omega | ((repeat' apply And.intro) <;> first | trivial | rfl | assumption | omega | decide | exact Or.inl rfl | exact Or.inr (Or.inl rfl) | exact Or.inr (Or.inr rfl) | exact Or.inr (Or.inr (by assumption)))), (by first | omega | ((repeat' apply And.intro) <;> first | trivial | rfl | assumption | omega | decide | exact Or.inl rfl | exact Or.inr (Or.inl rfl) | exact Or.inr (Or.inr rfl) | exact Or.inr (Or.inr (by assumption))))⟩) [0, 1, 2, 3] (by decide) rfl (Nat.le_of_ble_eq_true rfl) (Nat.le_of_ble_eq_true rfl)
                        · skip
                          have k442 : ¬ ((Int32.toInt x0) = 291) := fun h_9 => c403 ((fa_eq x0 291).mpr h_9)
                          by_cases c443 : x0 = 292
                          · skip
                            have k444 : (Int32.toInt x0) = 292 := (fa_eq x0 292).mp c443
                            refine r_lookup 1 376 (off := 375) C dX12_draws_1 (by decide) (by rw [c443]; decide) (by decide) ?_
                            refine r_aload_n 376 0 C dX12_draws_376 rfl ?_
                            refine r_bipush 377 9 C dX12_draws_377 (by decide) ?_
                            refine r_callVi 379 C dX12_draws_379 [] [(h0, .inr (11, [.ref h4, .int x1, .ref h5, .int x2, .int x3, .int x4, .ref h6, .ref h7, .ref h8, .ref h9, .int x5, .int x6, .int x7, .ref h10, .ref h11, .ref h12, .ref h13, .int x8, .int x9, .int x10, .long y0, .int x11, .int x12, .long y1, .long y2, .ref h14, .ref h15, .ref h16, .ref h17, .long y3, .int x13, .ref h18, .int x14, .int x15, .int x16, .int x17, .ref h19, .ref h20, .ref h21, .ref h22, .ref h23, .ref h24, .ref h25, .ref h26, .ref h27, .ref h28, .ref h29, .int x18, .int x19, .int x20, .int x21, .int x22, .int x23, .int x24, .long y4, .int x25, .ref h1, .ref h2, .long y5, .long y6, .int x26, .ref h3, .int x27, .ref h30, .ref h31, .ref h32, .ref h33, .int x28, .int x29, .int x30, .int x31, .ref h34, .ref h35, .int x32, .int x33, .ref h36]))] [(h1, .inl (gI g, 400, .inl fn0)), (h2, .inl (gJ g, 2400, .inr (.inl fm0))), (h3, .inl (gJ g, 48, .inr (.inl fm1)))] (fun sz => c118_X12_wants l g h0 9 h4 x1 h5 x2 x3 x4 h6 h7 h8 h9 x5 x6 x7 h10 h11 h12 h13 x8 x9 x10 y0 x11 x12 y1 y2 h14 h15 h16 h17 y3 x13 h18 x14 x15 x16 x17 h19 h20 h21 h22 h23 h24 h25 h26 h27 h28 h29 x18 x19 x20 x21 x22 x23 x24 y4 x25 h1 h2 y5 y6 x26 h3 x27 h30 h31 h32 h33 x28 x29 x30 x31 h34 h35 x32 x33 h36 i_x1 i_x2 i_x4 i_x7 i_x8 i_x11 i_x12 i_y1 i_y2 i_x13 i_x14 i_x15 i_x16 i_x17 i_x19 i_x20 i_x21 i_x22 i_x23 i_x25 i_x26 i_x27 i_x28 i_x29 i_x30 i_x31 i_x32 i_x33 sz) gX12_draws_X12_wants rfl ⟨rfl, rfl⟩ 1 (by decide) ⟨Nat.le_of_ble_eq_true rfl, Nat.le_of_ble_eq_true rfl⟩ 0 rfl rfl [0] [1, 2, 3] rfl rfl (by decide) (by decide) (by decide) rfl rfl (Nat.le_of_ble_eq_true rfl) ⟨Nat.le_of_ble_eq_true rfl, Nat.le_of_ble_eq_true rfl⟩ (fun r446 z445 w447 => ?_)
                            refine r_ws [(h1, .inl (gI g, 400, .inl fn0)), (h2, .inl (gJ g, 2400, .inr (.inl fm0))), (h3, .inl (gJ g, 48, .inr (.inl fm1))), (h0, .inr (11, [.ref h4, .int x1, .ref h5, .int x2, .int x3, .int x4, .ref h6, .ref h7, .ref h8, .ref h9, .int x5, .int x6, .int x7, .ref h10, .ref h11, .ref h12, .ref h13, .int x8, .int x9, .int x10, .long y0, .int x11, .int x12, .long y1, .long y2, .ref h14, .ref h15, .ref h16, .ref h17, .long y3, .int x13, .ref h18, .int x14, .int x15, .int x16, .int x17, .ref h19, .ref h20, .ref h21, .ref h22, .ref h23, .ref h24, .ref h25, .ref h26, .ref h27, .ref h28, .ref h29, .int x18, .int x19, .int z445, .int x21, .int x22, .int x23, .int x24, .long y4, .int x25, .ref h1, .ref h2, .long y5, .long y6, .int x26, .ref h3, .int x27, .ref h30, .ref h31, .ref h32, .ref h33, .int x28, .int x29, .int x30, .int x31, .ref h34, .ref h35, .int x32, .int x33, .ref h36]))] rfl ?_
                            have p448 : 0 ≤ (Int32.toInt r446) := w447.1
                            have p449 : (Int32.toInt r446) ≤ 1 := w447.2.1
                            have p450 : 0 ≤ (Int32.toInt z445) := w447.2.2.1
                            have p451 : (Int32.toInt z445) ≤ 9 := w447.2.2.2.1
                            have p452 : (((Int32.toInt r446) = 0 ∧ 1 ≤ (Int32.toInt z445)) ∨ ((Int32.toInt r446) = 1 ∧ (Int32.toInt z445) = (Int32.toInt x20) ∧ (Int32.toInt x27) = (9 : Int))) := w447.2.2.2.2
                            rcases p452 with ⟨k453, k454⟩ | p452
                            · skip
                              refine r_if_eq_t 382 396 C dX12_draws_382 (by decide) ((fa_eq r446 0).mpr (by show (Int32.toInt r446) = 0; omega)) ?_
                              refine r_iconst 396 0 C dX12_draws_396 (by decide) ?_
                              exact r_zret 397 Rt dX12_draws_397 (by decide) (z445, x21, y5, y6, x26, fn0, fm0) (show 0 ≤ (Int32.toInt 0) ∧ (Int32.toInt 0) ≤ 1 ∧ 0 ≤ (Int32.toInt z445) ∧ (Int32.toInt z445) ≤ 9 ∧ 0 ≤ (Int32.toInt x21) ∧ (Int32.toInt x21) ≤ 400 ∧ 0 ≤ (Int32.toInt x26) ∧ (Int32.toInt x26) ≤ 1 ∧ ((Int32.toInt x21) ≤ (Int32.toInt x22)) ∧ ((0 = 0 ∧ 1 ≤ (Int32.toInt z445)) ∨ (0 = 1 ∧ (Int32.toInt z445) = (Int32.toInt x20))) from ⟨(by decide), (by decide), (show _ ∧ _ from ⟨p450, p451⟩).1, (show _ ∧ _ from ⟨p450, p451⟩).2, i_x21.1, i_x21.2, i_x26.1, i_x26.2, (by first | omega | ((repeat' apply And.intro) <;> first | trivial | rfl | assumption | omega | decide | exact Or.inl rfl | exact Or.inr (Or.inl rfl) | exact Or.inr (Or.inr rfl) | exact Or.inr (Or.inr (by assumption)))), (by first | omega | ((repeat' apply And.intro) <;> first | trivial | rfl | assumption | omega | decide | exact Or.inl rfl | exact Or.inr (Or.inl rfl) | exact Or.inr (Or.inr rfl) | exact Or.inr (Or.inr (by assumption))))⟩) [3, 0, 1, 2] (by decide) rfl (Nat.le_of_ble_eq_true rfl) (Nat.le_of_ble_eq_true rfl)
                            obtain ⟨k455, k456, k457⟩ := p452
                            refine r_if_eq_f 382 396 C dX12_draws_382 (by decide) (fun h_9 => by have h_8 : (Int32.toInt r446) = 0 := (fa_eq r446 0).mp h_9; omega) ?_
                            refine r_aload_n 385 0 C dX12_draws_385 rfl ?_
                            refine r_callVi 386 C dX12_draws_386 [] [(h0, .inr (11, [.ref h4, .int x1, .ref h5, .int x2, .int x3, .int x4, .ref h6, .ref h7, .ref h8, .ref h9, .int x5, .int x6, .int x7, .ref h10, .ref h11, .ref h12, .ref h13, .int x8, .int x9, .int x10, .long y0, .int x11, .int x12, .long y1, .long y2, .ref h14, .ref h15, .ref h16, .ref h17, .long y3, .int x13, .ref h18, .int x14, .int x15, .int x16, .int x17, .ref h19, .ref h20, .ref h21, .ref h22, .ref h23, .ref h24, .ref h25, .ref h26, .ref h27, .ref h28, .ref h29, .int x18, .int x19, .int z445, .int x21, .int x22, .int x23, .int x24, .long y4, .int x25, .ref h1, .ref h2, .long y5, .long y6, .int x26, .ref h3, .int x27, .ref h30, .ref h31, .ref h32, .ref h33, .int x28, .int x29, .int x30, .int x31, .ref h34, .ref h35, .int x32, .int x33, .ref h36])), (h1, .inl (gI g, 400, .inl fn0)), (h2, .inl (gJ g, 2400, .inr (.inl fm0))), (h3, .inl (gJ g, 48, .inr (.inl fm1)))] [] (fun sz => c120_X12_hflex1 l g h0 h1 h2 h3 h4 x1 h5 x2 x3 x4 h6 h7 h8 h9 x5 x6 x7 h10 h11 h12 h13 x8 x9 x10 y0 x11 x12 y1 y2 h14 h15 h16 h17 y3 x13 h18 x14 x15 x16 x17 h19 h20 h21 h22 h23 h24 h25 h26 h27 h28 h29 x18 x19 z445 x21 x22 x23 x24 y4 x25 y5 y6 x26 x27 h30 h31 h32 h33 x28 x29 x30 x31 h34 h35 x32 x33 h36 fn0 fm0 fm1 i_x1 i_x2 i_x4 i_x7 i_x8 i_x11 i_x12 i_y1 i_y2 i_x13 i_x14 i_x15 i_x16 i_x17 i_x19 ⟨p450, p451⟩ i_x21 i_x22 i_x23 i_x25 i_x26 i_x27 i_x28 i_x29 i_x30 i_x31 i_x32 i_x33 (by show ((Int32.toInt x21) ≤ (Int32.toInt x22)); first | assumption | omega) sz) gX12_draws_X12_hflex1 rfl ⟨rfl, rfl⟩ 0 (by decide) ⟨Nat.le_of_ble_eq_true rfl, Nat.le_of_ble_eq_true rfl⟩ 3 rfl rfl [3, 0, 1, 2] [] rfl rfl (by decide) (by decide) (by decide) rfl rfl (Nat.le_of_ble_eq_true rfl) ⟨Nat.le_of_ble_eq_true rfl, Nat.le_of_ble_eq_true rfl⟩ (fun r465 u467 w466 => ?_)
                            obtain ⟨z458, z459, z460, z461, z462, f463, f464⟩ := u467
                            refine r_ws [(h0, .inr (11, [.ref h4, .int x1, .ref h5, .int x2, .int x3, .int x4, .ref h6, .ref h7, .ref h8, .ref h9, .int x5, .int x6, .int x7, .ref h10, .ref h11, .ref h12, .ref h13, .int x8, .int x9, .int x10, .long y0, .int x11, .int x12, .long y1, .long y2, .ref h14, .ref h15, .ref h16, .ref h17, .long y3, .int x13, .ref h18, .int x14, .int x15, .int x16, .int x17, .ref h19, .ref h20, .ref h21, .ref h22, .ref h23, .ref h24, .ref h25, .ref h26, .ref h27, .ref h28, .ref h29, .int x18, .int x19, .int z458, .int z459, .int x22, .int x23, .int x24, .long y4, .int x25, .ref h1, .ref h2, .long z460, .long z461, .int z462, .ref h3, .int x27, .ref h30, .ref h31, .ref h32, .ref h33, .int x28, .int x29, .int x30, .int x31, .ref h34, .ref h35, .int x32, .int x33, .ref h36])), (h1, .inl (gI g, 400, .inl f463)), (h2, .inl (gJ g, 2400, .inr (.inl f464))), (h3, .inl (gJ g, 48, .inr (.inl fm1)))] rfl ?_
                            have gz460 := fb_rngL z460
                            have gz461 := fb_rngL z461
                            have p468 : 0 ≤ (Int32.toInt r465) := w466.1
                            have p469 : (Int32.toInt r465) ≤ 1 := w466.2.1
                            have p470 : 0 ≤ (Int32.toInt z458) := w466.2.2.1
                            have p471 : (Int32.toInt z458) ≤ 9 := w466.2.2.2.1
                            have p472 : 0 ≤ (Int32.toInt z459) := w466.2.2.2.2.1
                            have p473 : (Int32.toInt z459) ≤ 400 := w466.2.2.2.2.2.1
                            have p474 : 0 ≤ (Int32.toInt z462) := w466.2.2.2.2.2.2.1
                            have p475 : (Int32.toInt z462) ≤ 1 := w466.2.2.2.2.2.2.2.1
                            have p476 : ((Int32.toInt z459) ≤ (Int32.toInt x22)) := w466.2.2.2.2.2.2.2.2.1
                            have p477 : (((Int32.toInt r465) = 0 ∧ 1 ≤ (Int32.toInt z458)) ∨ ((Int32.toInt r465) = 1 ∧ (Int32.toInt z458) = (Int32.toInt z445))) := w466.2.2.2.2.2.2.2.2.2
                            rcases p477 with ⟨k478, k479⟩ | p477
                            · skip
                              refine r_if_eq_t 389 396 C dX12_draws_389 (by decide) ((fa_eq r465 0).mpr (by show (Int32.toInt r465) = 0; omega)) ?_
                              refine r_iconst 396 0 C dX12_draws_396 (by decide) ?_
                              exact r_zret 397 Rt dX12_draws_397 (by decide) (z458, z459, z460, z461, z462, f463, f464) (show 0 ≤ (Int32.toInt 0) ∧ (Int32.toInt 0) ≤ 1 ∧ 0 ≤ (Int32.toInt z458) ∧ (Int32.toInt z458) ≤ 9 ∧ 0 ≤ (Int32.toInt z459) ∧ (Int32.toInt z459) ≤ 400 ∧ 0 ≤ (Int32.toInt z462) ∧ (Int32.toInt z462) ≤ 1 ∧ ((Int32.toInt z459) ≤ (Int32.toInt x22)) ∧ ((0 = 0 ∧ 1 ≤ (Int32.toInt z458)) ∨ (0 = 1 ∧ (Int32.toInt z458) = (Int32.toInt x20))) from ⟨(by decide), (by decide), (show _ ∧ _ from ⟨p470, p471⟩).1, (show _ ∧ _ from ⟨p470, p471⟩).2, (show _ ∧ _ from ⟨p472, p473⟩).1, (show _ ∧ _ from ⟨p472, p473⟩).2, (show _ ∧ _ from ⟨p474, p475⟩).1, (show _ ∧ _ from ⟨p474, p475⟩).2, (by first | omega | ((repeat' apply And.intro) <;> first | trivial | rfl | assumption | omega | decide | exact Or.inl rfl | exact Or.inr (Or.inl rfl) | exact Or.inr (Or.inr rfl) | exact Or.inr (Or.inr (by assumption)))), (by first | omega | ((repeat' apply And.intro) <;> first | trivial | rfl | assumption | omega | decide | exact Or.inl rfl | exact Or.inr (Or.inl rfl) | exact Or.inr (Or.inr rfl) | exact Or.inr (Or.inr (by assumption))))⟩) [0, 1, 2, 3] (by decide) rfl (Nat.le_of_ble_eq_true rfl) (Nat.le_of_ble_eq_true rfl)
                            obtain ⟨k480, k481⟩ := p477
                            refine r_if_eq_f 389 396 C dX12_draws_389 (by decide) (fun h_9 => by have h_8 : (Int32.toInt r465) = 0 := (fa_eq r465 0).mp h_9; omega) ?_
                            refine r_iconst 392 1 C dX12_draws_392 (by decide) ?_
                            refine r_goto 393 397 C dX12_draws_393 (by decide) ?_
                            exact r_zret 397 Rt dX12_draws_397 (by decide) (z458, z459, z460, z461, z462, f463, f464) (show 0 ≤ (Int32.toInt 1) ∧ (Int32.toInt 1) ≤ 1 ∧ 0 ≤ (Int32.toInt z458) ∧ (Int32.toInt z458) ≤ 9 ∧ 0 ≤ (Int32.toInt z459) ∧ (Int32.toInt z459) ≤ 400 ∧ 0 ≤ (Int32.toInt z462) ∧ (Int32.toInt z462) ≤ 1 ∧ ((Int32.toInt z459) ≤ (Int32.toInt x22)) ∧ ((1 = 0 ∧ 1 ≤ (Int32.toInt z458)) ∨ (1 = 1 ∧ (Int32.toInt z458) = (Int32.toInt x20))) from ⟨(by decide), (by decide), (show _ ∧ _ from ⟨p470, p471⟩).1, (show _ ∧ _ from ⟨p470, p471⟩).2, (show _ ∧ _ from ⟨p472, p473⟩).1, (show _ ∧ _ from ⟨p472, p473⟩).2, (show _ ∧ _ from ⟨p474, p475⟩).1, (show _ ∧ _ from ⟨p474, p475⟩).2, (by first | omega | ((repeat' apply And.intro) <;> first | trivial | rfl | assumption | omega | decide | exact Or.inl rfl | exact Or.inr (Or.inl rfl) | exact Or.inr (Or.inr rfl) | exact Or.inr (Or.inr (by assumption)))), (by first | omega | ((repeat' apply And.intro) <;> first | trivial | rfl | assumption | omega | decide | exact Or.inl rfl | exact Or.inr (Or.inl rfl) | exact Or.inr (Or.inr rfl) | exact Or.inr (Or.inr (by assumption))))⟩) [0, 1, 2, 3] (by decide) rfl (Nat.le_of_ble_eq_true rfl) (Nat.le_of_ble_eq_true rfl)
                          · skip
                            have k482 : ¬ ((Int32.toInt x0) = 292) := fun h_9 => c443 ((fa_eq x0 292).mpr h_9)
                            by_cases c483 : x0 = 293
                            · skip
                              have k484 : (Int32.toInt x0) = 293 := (fa_eq x0 293).mp c483
                              refine r_lookup 1 398 (off := 397) C dX12_draws_1 (by decide) (by rw [c483]; decide) (by decide) ?_
                              refine r_aload_n 398 0 C dX12_draws_398 rfl ?_
                              refine r_bipush 399 11 C dX12_draws_399 (by decide) ?_
                              refine r_callVi 401 C dX12_draws_401 [] [(h0, .inr (11, [.ref h4, .int x1, .ref h5, .int x2, .int x3, .int x4, .ref h6, .ref h7, .ref h8, .ref h9, .int x5, .int x6, .int x7, .ref h10, .ref h11, .ref h12, .ref h13, .int x8, .int x9, .int x10, .long y0, .int x11, .int x12, .long y1, .long y2, .ref h14, .ref h15, .ref h16, .ref h17, .long y3, .int x13, .ref h18, .int x14, .int x15, .int x16, .int x17, .ref h19, .ref h20, .ref h21, .ref h22, .ref h23, .ref h24, .ref h25, .ref h26, .ref h27, .ref h28, .ref h29, .int x18, .int x19, .int x20, .int x21, .int x22, .int x23, .int x24, .long y4, .int x25, .ref h1, .ref h2, .long y5, .long y6, .int x26, .ref h3, .int x27, .ref h30, .ref h31, .ref h32, .ref h33, .int x28, .int x29, .int x30, .int x31, .ref h34, .ref h35, .int x32, .int x33, .ref h36]))] [(h1, .inl (gI g, 400, .inl fn0)), (h2, .inl (gJ g, 2400, .inr (.inl fm0))), (h3, .inl (gJ g, 48, .inr (.inl fm1)))] (fun sz => c118_X12_wants l g h0 11 h4 x1 h5 x2 x3 x4 h6 h7 h8 h9 x5 x6 x7 h10 h11 h12 h13 x8 x9 x10 y0 x11 x12 y1 y2 h14 h15 h16 h17 y3 x13 h18 x14 x15 x16 x17 h19 h20 h21 h22 h23 h24 h25 h26 h27 h28 h29 x18 x19 x20 x21 x22 x23 x24 y4 x25 h1 h2 y5 y6 x26 h3 x27 h30 h31 h32 h33 x28 x29 x30 x31 h34 h35 x32 x33 h36 i_x1 i_x2 i_x4 i_x7 i_x8 i_x11 i_x12 i_y1 i_y2 i_x13 i_x14 i_x15 i_x16 i_x17 i_x19 i_x20 i_x21 i_x22 i_x23 i_x25 i_x26 i_x27 i_x28 i_x29 i_x30 i_x31 i_x32 i_x33 sz) gX12_draws_X12_wants rfl ⟨rfl, rfl⟩ 1 (by decide) ⟨Nat.le_of_ble_eq_true rfl, Nat.le_of_ble_eq_true rfl⟩ 0 rfl rfl [0] [1, 2, 3] rfl rfl (by decide) (by decide) (by decide) rfl rfl (Nat.le_of_ble_eq_true rfl) ⟨Nat.le_of_ble_eq_true rfl, Nat.le_of_ble_eq_true rfl⟩ (fun r486 z485 w487 => ?_)
                              refine r_ws [(h1, .inl (gI g, 400, .inl fn0)), (h2, .inl (gJ g, 2400, .inr (.inl fm0))), (h3, .inl (gJ g, 48, .inr (.inl fm1))), (h0, .inr (11, [.ref h4, .int x1, .ref h5, .int x2, .int x3, .int x4, .ref h6, .ref h7, .ref h8, .ref h9, .int x5, .int x6, .int x7, .ref h10, .ref h11, .ref h12, .ref h13, .int x8, .int x9, .int x10, .long y0, .int x11, .int x12, .long y1, .long y2, .ref h14, .ref h15, .ref h16, .ref h17, .long y3, .int x13, .ref h18, .int x14, .int x15, .int x16, .int x17, .ref h19, .ref h20, .ref h21, .ref h22, .ref h23, .ref h24, .ref h25, .ref h26, .ref h27, .ref h28, .ref h29, .int x18, .int x19, .int z485, .int x21, .int x22, .int x23, .int x24, .long y4, .int x25, .ref h1, .ref h2, .long y5, .long y6, .int x26, .ref h3, .int x27, .ref h30, .ref h31, .ref h32, .ref h33, .int x28, .int x29, .int x30, .int x31, .ref h34, .ref h35, .int x32, .int x33, .ref h36]))] rfl ?_
                              have p488 : 0 ≤ (Int32.toInt r486) := w487.1
                              have p489 : (Int32.toInt r486) ≤ 1 := w487.2.1
                              have p490 : 0 ≤ (Int32.toInt z485) := w487.2.2.1
                              have p491 : (Int32.toInt z485) ≤ 9 := w487.2.2.2.1
                              have p492 : (((Int32.toInt r486) = 0 ∧ 1 ≤ (Int32.toInt z485)) ∨ ((Int32.toInt r486) = 1 ∧ (Int32.toInt z485) = (Int32.toInt x20) ∧ (Int32.toInt x27) = (11 : Int))) := w487.2.2.2.2
                              rcases p492 with ⟨k493, k494⟩ | p492
                              · skip
                                refine r_if_eq_t 404 418 C dX12_draws_404 (by decide) ((fa_eq r486 0).mpr (by show (Int32.toInt r486) = 0; omega)) ?_
                                refine r_iconst 418 0 C dX12_draws_418 (by decide) ?_
                                exact r_zret 419 Rt dX12_draws_419 (by decide) (z485, x21, y5, y6, x26, fn0, fm0) (show 0 ≤ (Int32.toInt 0) ∧ (Int32.toInt 0) ≤ 1 ∧ 0 ≤ (Int32.toInt z485) ∧ (Int32.toInt z485) ≤ 9 ∧ 0 ≤ (Int32.toInt x21) ∧ (Int32.toInt x21) ≤ 400 ∧ 0 ≤ (Int32.toInt x26) ∧ (Int32.toInt x26) ≤ 1 ∧ ((Int32.toInt x21) ≤ (Int32.toInt x22)) ∧ ((0 = 0 ∧ 1 ≤ (Int32.toInt z485)) ∨ (0 = 1 ∧ (Int32.toInt z485) = (Int32.toInt x20))) from ⟨(by decide), (by decide), (show _ ∧ _ from ⟨p490, p491⟩).1, (show _ ∧ _ from ⟨p490, p491⟩).2, i_x21.1, i_x21.2, i_x26.1, i_x26.2, (by first | omega | ((repeat' apply And.intro) <;> first | trivial | rfl | assumption | omega | decide | exact Or.inl rfl | exact Or.inr (Or.inl rfl) | exact Or.inr (Or.inr rfl) | exact Or.inr (Or.inr (by assumption)))), (by first | omega | ((repeat' apply And.intro) <;> first | trivial | rfl | assumption | omega | decide | exact Or.inl rfl | exact Or.inr (Or.inl rfl) | exact Or.inr (Or.inr rfl) | exact Or.inr (Or.inr (by assumption))))⟩) [3, 0, 1, 2] (by decide) rfl (Nat.le_of_ble_eq_true rfl) (Nat.le_of_ble_eq_true rfl)
                              obtain ⟨k495, k496, k497⟩ := p492
                              refine r_if_eq_f 404 418 C dX12_draws_404 (by decide) (fun h_9 => by have h_8 : (Int32.toInt r486) = 0 := (fa_eq r486 0).mp h_9; omega) ?_
                              refine r_aload_n 407 0 C dX12_draws_407 rfl ?_
                              refine r_callVi 408 C dX12_draws_408 [] [(h0, .inr (11, [.ref h4, .int x1, .ref h5, .int x2, .int x3, .int x4, .ref h6, .ref h7, .ref h8, .ref h9, .int x5, .int x6, .int x7, .ref h10, .ref h11, .ref h12, .ref h13, .int x8, .int x9, .int x10, .long y0, .int x11, .int x12, .long y1, .long y2, .ref h14, .ref h15, .ref h16, .ref h17, .long y3, .int x13, .ref h18, .int x14, .int x15, .int x16, .int x17, .ref h19, .ref h20, .ref h21, .ref h22, .ref h23, .ref h24, .ref h25, .ref h26, .ref h27, .ref h28, .ref h29, .int x18, .int x19, .int z485, .int x21, .int x22, .int x23, .int x24, .long y4, .int x25, .ref h1, .ref h2, .long y5, .long y6, .int x26, .ref h3, .int x27, .ref h30, .ref h31, .ref h32, .ref h33, .int x28, .int x29, .int x30, .int x31, .ref h34, .ref h35, .int x32, .int x33, .ref h36])), (h1, .inl (gI g, 400, .inl fn0)), (h2, .inl (gJ g, 2400, .inr (.inl fm0))), (h3, .inl (gJ g, 48, .inr (.inl fm1)))] [] (fun sz => c121_X12_flex1 l g h0 h1 h2 h3 h4 x1 h5 x2 x3 x4 h6 h7 h8 h9 x5 x6 x7 h10 h11 h12 h13 x8 x9 x10 y0 x11 x12 y1 y2 h14 h15 h16 h17 y3 x13 h18 x14 x15 x16 x17 h19 h20 h21 h22 h23 h24 h25 h26 h27 h28 h29 x18 x19 z485 x21 x22 x23 x24 y4 x25 y5 y6 x26 x27 h30 h31 h32 h33 x28 x29 x30 x31 h34 h35 x32 x33 h36 fn0 fm0 fm1 i_x1 i_x2 i_x4 i_x7 i_x8 i_x11 i_x12 i_y1 i_y2 i_x13 i_x14 i_x15 i_x16 i_x17 i_x19 ⟨p490, p491⟩ i_x21 i_x22 i_x23 i_x25 i_x26 i_x27 i_x28 i_x29 i_x30 i_x31 i_x32 i_x33 (by show ((Int32.toInt x21) ≤ (Int32.toInt x22)); first | assumption | omega) sz) gX12_draws_X12_flex1 rfl ⟨rfl, rfl⟩ 0 (by decide) ⟨Nat.le_of_ble_eq_true rfl, Nat.le_of_ble_eq_true rfl⟩ 3 rfl rfl [3, 0, 1, 2] [] rfl rfl (by decide) (by decide) (by decide) rfl rfl (Nat.le_of_ble_eq_true rfl) ⟨Nat.le_of_ble_eq_true rfl, Nat.le_of_ble_eq_true rfl⟩ (fun r505 u507 w506 => ?_)
                              obtain ⟨z498, z499, z500, z501, z502, f503, f504⟩ := u507
                              refine r_ws [(h0, .inr (11, [.ref h4, .int x1, .ref h5, .int x2, .int x3, .int x4, .ref h6, .ref h7, .ref h8, .ref h9, .int x5, .int x6, .int x7, .ref h10, .ref h11, .ref h12, .ref h13, .int x8, .int x9, .int x10, .long y0, .int x11, .int x12, .long y1, .long y2, .ref h14, .ref h15, .ref h16, .ref h17, .long y3, .int x13, .ref h18, .int x14, .int x15, .int x16, .int x17, .ref h19, .ref h20, .ref h21, .ref h22, .ref h23, .ref h24, .ref h25, .ref h26, .ref h27, .ref h28, .ref h29, .int x18, .int x19, .int z498, .int z499, .int x22, .int x23, .int x24, .long y4, .int x25, .ref h1, .ref h2, .long z500, .long z501, .int z502, .ref h3, .int x27, .ref h30, .ref h31, .ref h32, .ref h33, .int x28, .int x29, .int x30, .int x31, .ref h34, .ref h35, .int x32, .int x33, .ref h36])), (h1, .inl (gI g, 400, .inl f503)), (h2, .inl (gJ g, 2400, .inr (.inl f504))), (h3, .inl (gJ g, 48, .inr (.inl fm1)))] rfl ?_
                              have gz500 := fb_rngL z500
                              have gz501 := fb_rngL z501
                              have p508 : 0 ≤ (Int32.toInt r505) := w506.1
                              have p509 : (Int32.toInt r505) ≤ 1 := w506.2.1
                              have p510 : 0 ≤ (Int32.toInt z498) := w506.2.2.1
                              have p511 : (Int32.toInt z498) ≤ 9 := w506.2.2.2.1
                              have p512 : 0 ≤ (Int32.toInt z499) := w506.2.2.2.2.1
                              have p513 : (Int32.toInt z499) ≤ 400 := w506.2.2.2.2.2.1
                              have p514 : 0 ≤ (Int32.toInt z502) := w506.2.2.2.2.2.2.1
                              have p515 : (Int32.toInt z502) ≤ 1 := w506.2.2.2.2.2.2.2.1
                              have p516 : ((Int32.toInt z499) ≤ (Int32.toInt x22)) := w506.2.2.2.2.2.2.2.2.1
                              have p517 : (((Int32.toInt r505) = 0 ∧ 1 ≤ (Int32.toInt z498)) ∨ ((Int32.toInt r505) = 1 ∧ (Int32.toInt z498) = (Int32.toInt z485))) := w506.2.2.2.2.2.2.2.2.2
                              rcases p517 with ⟨k518, k519⟩ | p517
                              · skip
                                refine r_if_eq_t 411 418 C dX12_draws_411 (by decide) ((fa_eq r505 0).mpr (by show (Int32.toInt r505) = 0; omega)) ?_
                                refine r_iconst 418 0 C dX12_draws_418 (by decide) ?_
                                exact r_zret 419 Rt dX12_draws_419 (by decide) (z498, z499, z500, z501, z502, f503, f504) (show 0 ≤ (Int32.toInt 0) ∧ (Int32.toInt 0) ≤ 1 ∧ 0 ≤ (Int32.toInt z498) ∧ (Int32.toInt z498) ≤ 9 ∧ 0 ≤ (Int32.toInt z499) ∧ (Int32.toInt z499) ≤ 400 ∧ 0 ≤ (Int32.toInt z502) ∧ (Int32.toInt z502) ≤ 1 ∧ ((Int32.toInt z499) ≤ (Int32.toInt x22)) ∧ ((0 = 0 ∧ 1 ≤ (Int32.toInt z498)) ∨ (0 = 1 ∧ (Int32.toInt z498) = (Int32.toInt x20))) from ⟨(by decide), (by decide), (show _ ∧ _ from ⟨p510, p511⟩).1, (show _ ∧ _ from ⟨p510, p511⟩).2, (show _ ∧ _ from ⟨p512, p513⟩).1, (show _ ∧ _ from ⟨p512, p513⟩).2, (show _ ∧ _ from ⟨p514, p515⟩).1, (show _ ∧ _ from ⟨p514, p515⟩).2, (by first | omega | ((repeat' apply And.intro) <;> first | trivial | rfl | assumption | omega | decide | exact Or.inl rfl | exact Or.inr (Or.inl rfl) | exact Or.inr (Or.inr rfl) | exact Or.inr (Or.inr (by assumption)))), (by first | omega | ((repeat' apply And.intro) <;> first | trivial | rfl | assumption | omega | decide | exact Or.inl rfl | exact Or.inr (Or.inl rfl) | exact Or.inr (Or.inr rfl) | exact Or.inr (Or.inr (by assumption))))⟩) [0, 1, 2, 3] (by decide) rfl (Nat.le_of_ble_eq_true rfl) (Nat.le_of_ble_eq_true rfl)
                              obtain ⟨k520, k521⟩ := p517
                              refine r_if_eq_f 411 418 C dX12_draws_411 (by decide) (fun h_9 => by have h_8 : (Int32.toInt r505) = 0 := (fa_eq r505 0).mp h_9; omega) ?_
                              refine r_iconst 414 1 C dX12_draws_414 (by decide) ?_
                              refine r_goto 415 419 C dX12_draws_415 (by decide) ?_
                              exact r_zret 419 Rt dX12_draws_419 (by decide) (z498, z499, z500, z501, z502, f503, f504) (show 0 ≤ (Int32.toInt 1) ∧ (Int32.toInt 1) ≤ 1 ∧ 0 ≤ (Int32.toInt z498) ∧ (Int32.toInt z498) ≤ 9 ∧ 0 ≤ (Int32.toInt z499) ∧ (Int32.toInt z499) ≤ 400 ∧ 0 ≤ (Int32.toInt z502) ∧ (Int32.toInt z502) ≤ 1 ∧ ((Int32.toInt z499) ≤ (Int32.toInt x22)) ∧ ((1 = 0 ∧ 1 ≤ (Int32.toInt z498)) ∨ (1 = 1 ∧ (Int32.toInt z498) = (Int32.toInt x20))) from ⟨(by decide), (by decide), (show _ ∧ _ from ⟨p510, p511⟩).1, (show _ ∧ _ from ⟨p510, p511⟩).2, (show _ ∧ _ from ⟨p512, p513⟩).1, (show _ ∧ _ from ⟨p512, p513⟩).2, (show _ ∧ _ from ⟨p514, p515⟩).1, (show _ ∧ _ from ⟨p514, p515⟩).2, (by first | omega | ((repeat' apply And.intro) <;> first | trivial | rfl | assumption | omega | decide | exact Or.inl rfl | exact Or.inr (Or.inl rfl) | exact Or.inr (Or.inr rfl) | exact Or.inr (Or.inr (by assumption)))), (by first | omega | ((repeat' apply And.intro) <;> first | trivial | rfl | assumption | omega | decide | exact Or.inl rfl | exact Or.inr (Or.inl rfl) | exact Or.inr (Or.inr rfl) | exact Or.inr (Or.inr (by assumption))))⟩) [0, 1, 2, 3] (by decide) rfl (Nat.le_of_ble_eq_true rfl) (Nat.le_of_ble_eq_true rfl)
                            · skip
                              have k522 : ¬ ((Int32.toInt x0) = 293) := fun h_9 => c483 ((fa_eq x0 293).mpr h_9)
                              refine r_lookup 1 420 (off := 419) C dX12_draws_1 (by decide) ((lv_osw c1 rfl).trans ((lv_osw c28 rfl).trans ((lv_osw c55 rfl).trans ((lv_osw c82 rfl).trans ((lv_osw c109 rfl).trans ((lv_osw c182 rfl).trans ((lv_osw c255 rfl).trans ((lv_osw c282 rfl).trans ((lv_osw c309 rfl).trans ((lv_osw c336 rfl).trans ((lv_osw c363 rfl).trans ((lv_osw c403 rfl).trans ((lv_osw c443 rfl).trans ((lv_osw c483 rfl).trans rfl)))))))))))))) (by decide) ?_
                              refine r_aload_n 420 0 C dX12_draws_420 rfl ?_
                              refine r_iconst 421 1 C dX12_draws_421 (by decide) ?_
                              refine r_callVi 422 C dX12_draws_422 [] [(h0, .inr (11, [.ref h4, .int x1, .ref h5, .int x2, .int x3, .int x4, .ref h6, .ref h7, .ref h8, .ref h9, .int x5, .int x6, .int x7, .ref h10, .ref h11, .ref h12, .ref h13, .int x8, .int x9, .int x10, .long y0, .int x11, .int x12, .long y1, .long y2, .ref h14, .ref h15, .ref h16, .ref h17, .long y3, .int x13, .ref h18, .int x14, .int x15, .int x16, .int x17, .ref h19, .ref h20, .ref h21, .ref h22, .ref h23, .ref h24, .ref h25, .ref h26, .ref h27, .ref h28, .ref h29, .int x18, .int x19, .int x20, .int x21, .int x22, .int x23, .int x24, .long y4, .int x25, .ref h1, .ref h2, .long y5, .long y6, .int x26, .ref h3, .int x27, .ref h30, .ref h31, .ref h32, .ref h33, .int x28, .int x29, .int x30, .int x31, .ref h34, .ref h35, .int x32, .int x33, .ref h36]))] [(h1, .inl (gI g, 400, .inl fn0)), (h2, .inl (gJ g, 2400, .inr (.inl fm0))), (h3, .inl (gJ g, 48, .inr (.inl fm1)))] (fun sz => c65_X12_stops l g h0 1 h4 x1 h5 x2 x3 x4 h6 h7 h8 h9 x5 x6 x7 h10 h11 h12 h13 x8 x9 x10 y0 x11 x12 y1 y2 h14 h15 h16 h17 y3 x13 h18 x14 x15 x16 x17 h19 h20 h21 h22 h23 h24 h25 h26 h27 h28 h29 x18 x19 x20 x21 x22 x23 x24 y4 x25 h1 h2 y5 y6 x26 h3 x27 h30 h31 h32 h33 x28 x29 x30 x31 h34 h35 x32 x33 h36 (by decide) i_x1 i_x2 i_x4 i_x7 i_x8 i_x11 i_x12 i_y1 i_y2 i_x13 i_x14 i_x15 i_x16 i_x17 i_x19 i_x20 i_x21 i_x22 i_x23 i_x25 i_x26 i_x27 i_x28 i_x29 i_x30 i_x31 i_x32 i_x33 sz) gX12_draws_X12_stops rfl ⟨rfl, rfl⟩ 1 (by decide) ⟨Nat.le_of_ble_eq_true rfl, Nat.le_of_ble_eq_true rfl⟩ 0 rfl rfl [0] [1, 2, 3] rfl rfl (by decide) (by decide) (by decide) rfl rfl (Nat.le_of_ble_eq_true rfl) ⟨Nat.le_of_ble_eq_true rfl, Nat.le_of_ble_eq_true rfl⟩ (fun r524 z523 w525 => ?_)
                              refine r_ws [(h1, .inl (gI g, 400, .inl fn0)), (h2, .inl (gJ g, 2400, .inr (.inl fm0))), (h3, .inl (gJ g, 48, .inr (.inl fm1))), (h0, .inr (11, [.ref h4, .int x1, .ref h5, .int x2, .int x3, .int x4, .ref h6, .ref h7, .ref h8, .ref h9, .int x5, .int x6, .int x7, .ref h10, .ref h11, .ref h12, .ref h13, .int x8, .int x9, .int x10, .long y0, .int x11, .int x12, .long y1, .long y2, .ref h14, .ref h15, .ref h16, .ref h17, .long y3, .int x13, .ref h18, .int x14, .int x15, .int x16, .int x17, .ref h19, .ref h20, .ref h21, .ref h22, .ref h23, .ref h24, .ref h25, .ref h26, .ref h27, .ref h28, .ref h29, .int x18, .int x19, .int z523, .int x21, .int x22, .int x23, .int x24, .long y4, .int x25, .ref h1, .ref h2, .long y5, .long y6, .int x26, .ref h3, .int x27, .ref h30, .ref h31, .ref h32, .ref h33, .int x28, .int x29, .int x30, .int x31, .ref h34, .ref h35, .int x32, .int x33, .ref h36]))] rfl ?_
                              have p526 : 0 = r524 := (w525.1).symm
                              subst p526
                              have p527 : 0 ≤ (Int32.toInt z523) := w525.2.1
                              have p528 : (Int32.toInt z523) ≤ 9 := w525.2.2.1
                              have p529 : (1 ≤ (Int32.toInt z523)) := w525.2.2.2
                              exact r_zret 425 Rt dX12_draws_425 (by decide) (z523, x21, y5, y6, x26, fn0, fm0) (show 0 ≤ (Int32.toInt 0) ∧ (Int32.toInt 0) ≤ 1 ∧ 0 ≤ (Int32.toInt z523) ∧ (Int32.toInt z523) ≤ 9 ∧ 0 ≤ (Int32.toInt x21) ∧ (Int32.toInt x21) ≤ 400 ∧ 0 ≤ (Int32.toInt x26) ∧ (Int32.toInt x26) ≤ 1 ∧ ((Int32.toInt x21) ≤ (Int32.toInt x22)) ∧ ((0 = 0 ∧ 1 ≤ (Int32.toInt z523)) ∨ (0 = 1 ∧ (Int32.toInt z523) = (Int32.toInt x20))) from ⟨(by decide), (by decide), (show _ ∧ _ from ⟨p527, p528⟩).1, (show _ ∧ _ from ⟨p527, p528⟩).2, i_x21.1, i_x21.2, i_x26.1, i_x26.2, (by first | omega | ((repeat' apply And.intro) <;> first | trivial | rfl | assumption | omega | decide | exact Or.inl rfl | exact Or.inr (Or.inl rfl) | exact Or.inr (Or.inr rfl) | exact Or.inr (Or.inr (by assumption)))), (by first | omega | ((repeat' apply And.intro) <;> first | trivial | rfl | assumption | omega | decide | exact Or.inl rfl | exact Or.inr (Or.inl rfl) | exact Or.inr (Or.inr rfl) | exact Or.inr (Or.inr (by assumption))))⟩) [3, 0, 1, 2] (by decide) rfl (Nat.le_of_ble_eq_true rfl) (Nat.le_of_ble_eq_true rfl)
