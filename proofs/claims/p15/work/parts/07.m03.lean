set_option maxHeartbeats 4000000 in
set_option maxRecDepth 100000 in
theorem c47_X12_index (l : Launch) (g : GD) (h0 : Nat) (h1 : Nat) (x0 : Int32) (x1 : Int32) (x2 : Int32) (h2 : Nat) (x3 : Int32) (x4 : Int32) (x5 : Int32) (h3 : Nat) (h4 : Nat) (h5 : Nat) (h6 : Nat) (x6 : Int32) (x7 : Int32) (x8 : Int32) (h7 : Nat) (h8 : Nat) (h9 : Nat) (h10 : Nat) (x9 : Int32) (x10 : Int32) (x11 : Int32) (y0 : Int64) (x12 : Int32) (x13 : Int32) (y1 : Int64) (y2 : Int64) (h11 : Nat) (h12 : Nat) (h13 : Nat) (h14 : Nat) (y3 : Int64) (x14 : Int32) (h15 : Nat) (x15 : Int32) (x16 : Int32) (x17 : Int32) (x18 : Int32) (h16 : Nat) (h17 : Nat) (h18 : Nat) (h19 : Nat) (h20 : Nat) (h21 : Nat) (h22 : Nat) (h23 : Nat) (h24 : Nat) (h25 : Nat) (h26 : Nat) (x19 : Int32) (x20 : Int32) (x21 : Int32) (x22 : Int32) (x23 : Int32) (x24 : Int32) (x25 : Int32) (y4 : Int64) (x26 : Int32) (h27 : Nat) (h28 : Nat) (y5 : Int64) (y6 : Int64) (x27 : Int32) (h29 : Nat) (x28 : Int32) (h30 : Nat) (h31 : Nat) (h32 : Nat) (h33 : Nat) (x29 : Int32) (x30 : Int32) (x31 : Int32) (x32 : Int32) (h34 : Nat) (h35 : Nat) (x33 : Int32) (x34 : Int32) (h36 : Nat) (fn0 : Nat → Int32) (i_x0 : (0 ≤ (Int32.toInt x0) ∧ (Int32.toInt x0) ≤ 1)) (i_x1 : (0 ≤ (Int32.toInt x1) ∧ (Int32.toInt x1) ≤ 65535)) (i_x2 : (0 ≤ (Int32.toInt x2) ∧ (Int32.toInt x2) ≤ 1500)) (i_x3 : (0 ≤ (Int32.toInt x3) ∧ (Int32.toInt x3) ≤ 1508)) (i_x5 : (-1 ≤ (Int32.toInt x5) ∧ (Int32.toInt x5) ≤ 1)) (i_x8 : (0 ≤ (Int32.toInt x8) ∧ (Int32.toInt x8) ≤ 3)) (i_x9 : (0 ≤ (Int32.toInt x9) ∧ (Int32.toInt x9) ≤ 4500)) (i_x12 : (0 ≤ (Int32.toInt x12) ∧ (Int32.toInt x12) ≤ 65535)) (i_x13 : (0 ≤ (Int32.toInt x13) ∧ (Int32.toInt x13) ≤ 255)) (i_y1 : (0 ≤ (Int64.toInt y1) ∧ (Int64.toInt y1) ≤ 1500)) (i_y2 : (0 ≤ (Int64.toInt y2) ∧ (Int64.toInt y2) ≤ 1500)) (i_x14 : (0 ≤ (Int32.toInt x14) ∧ (Int32.toInt x14) ≤ 1)) (i_x15 : (0 ≤ (Int32.toInt x15) ∧ (Int32.toInt x15) ≤ 1500)) (i_x16 : (0 ≤ (Int32.toInt x16) ∧ (Int32.toInt x16) ≤ 1501)) (i_x17 : (0 ≤ (Int32.toInt x17) ∧ (Int32.toInt x17) ≤ 1500)) (i_x18 : (0 ≤ (Int32.toInt x18) ∧ (Int32.toInt x18) ≤ 1500)) (i_x20 : (0 ≤ (Int32.toInt x20) ∧ (Int32.toInt x20) ≤ 1)) (i_x21 : (0 ≤ (Int32.toInt x21) ∧ (Int32.toInt x21) ≤ 9)) (i_x22 : (0 ≤ (Int32.toInt x22) ∧ (Int32.toInt x22) ≤ 400)) (i_x23 : (0 ≤ (Int32.toInt x23) ∧ (Int32.toInt x23) ≤ 400)) (i_x24 : (0 ≤ (Int32.toInt x24) ∧ (Int32.toInt x24) ≤ 3000)) (i_x26 : (0 ≤ (Int32.toInt x26) ∧ (Int32.toInt x26) ≤ 1)) (i_x27 : (0 ≤ (Int32.toInt x27) ∧ (Int32.toInt x27) ≤ 1)) (i_x28 : (0 ≤ (Int32.toInt x28) ∧ (Int32.toInt x28) ≤ 48)) (i_x29 : (0 ≤ (Int32.toInt x29) ∧ (Int32.toInt x29) ≤ 10)) (i_x30 : (0 ≤ (Int32.toInt x30) ∧ (Int32.toInt x30) ≤ 1)) (i_x31 : (0 ≤ (Int32.toInt x31) ∧ (Int32.toInt x31) ≤ 1)) (i_x32 : (0 ≤ (Int32.toInt x32) ∧ (Int32.toInt x32) ≤ 7)) (i_x33 : (0 ≤ (Int32.toInt x33) ∧ (Int32.toInt x33) ≤ 24)) (i_x34 : (0 ≤ (Int32.toInt x34) ∧ (Int32.toInt x34) ≤ 1)) (sz : Nat) : Met l yX12_index wsX12_index ({ frames := 2, cells := 0, slots := 0, locals := 46 }) (va_Pc [.ref h0, .int x0, .int x1] (PW g [(h0, .inr (11, [.ref h1, .int x2, .ref h2, .int x3, .int x4, .int x5, .ref h3, .ref h4, .ref h5, .ref h6, .int x6, .int x7, .int x8, .ref h7, .ref h8, .ref h9, .ref h10, .int x9, .int x10, .int x11, .long y0, .int x12, .int x13, .long y1, .long y2, .ref h11, .ref h12, .ref h13, .ref h14, .long y3, .int x14, .ref h15, .int x15, .int x16, .int x17, .int x18, .ref h16, .ref h17, .ref h18, .ref h19, .ref h20, .ref h21, .ref h22, .ref h23, .ref h24, .ref h25, .ref h26, .int x19, .int x20, .int x21, .int x22, .int x23, .int x24, .int x25, .long y4, .int x26, .ref h27, .ref h28, .long y5, .long y6, .int x27, .ref h29, .int x28, .ref h30, .ref h31, .ref h32, .ref h33, .int x29, .int x30, .int x31, .int x32, .ref h34, .ref h35, .int x33, .int x34, .ref h36])), (h1, .inl (gB g, 1500, .inl fn0))] sz)) (va_Qi (fun (r : Int32) (u : (Int32) × (Int64) × (Int32) × (Int32) × (Int64) × (Int64)) => 0 ≤ (Int32.toInt r) ∧ (Int32.toInt r) ≤ 1 ∧ 0 ≤ (Int32.toInt (u.1)) ∧ (Int32.toInt (u.1)) ≤ 3 ∧ 0 ≤ (Int32.toInt (u.2.2.1)) ∧ (Int32.toInt (u.2.2.1)) ≤ 65535 ∧ 0 ≤ (Int32.toInt (u.2.2.2.1)) ∧ (Int32.toInt (u.2.2.2.1)) ≤ 255 ∧ 0 ≤ (Int64.toInt (u.2.2.2.2.1)) ∧ (Int64.toInt (u.2.2.2.2.1)) ≤ 1500 ∧ 0 ≤ (Int64.toInt (u.2.2.2.2.2)) ∧ (Int64.toInt (u.2.2.2.2.2)) ≤ 1500 ∧ ((Int32.toInt r) = 0 ∨ (Int32.toInt (u.2.2.1)) = 0 ∨ IX fn0 (Int64.toInt (u.2.2.2.2.1)) (Int32.toInt (u.2.2.2.1)) (Int32.toInt (u.2.2.1)) (Int64.toInt (u.2.2.2.2.2)) (Int32.toInt x2)) ∧ (((Int32.toInt r) = 0 ∧ 1 ≤ (Int32.toInt (u.1))) ∨ ((Int32.toInt r) = 1 ∧ (Int32.toInt (u.1)) = (Int32.toInt x8) ∧ 0 ≤ (Int32.toInt (u.2.2.1)) ∧ (Int32.toInt (u.2.2.1)) ≤ 1500 ∧ (Int32.toInt x0) ≤ (Int32.toInt (u.2.2.1)) ∧ (Int32.toInt (u.2.2.1)) ≤ (Int32.toInt x1)))) (BW g (va_A [(h0, .inr (11, [.ref h1, .int x2, .ref h2, .int x3, .int x4, .int x5, .ref h3, .ref h4, .ref h5, .ref h6, .int x6, .int x7, .int x8, .ref h7, .ref h8, .ref h9, .ref h10, .int x9, .int x10, .int x11, .long y0, .int x12, .int x13, .long y1, .long y2, .ref h11, .ref h12, .ref h13, .ref h14, .long y3, .int x14, .ref h15, .int x15, .int x16, .int x17, .int x18, .ref h16, .ref h17, .ref h18, .ref h19, .ref h20, .ref h21, .ref h22, .ref h23, .ref h24, .ref h25, .ref h26, .int x19, .int x20, .int x21, .int x22, .int x23, .int x24, .int x25, .long y4, .int x26, .ref h27, .ref h28, .long y5, .long y6, .int x27, .ref h29, .int x28, .ref h30, .ref h31, .ref h32, .ref h33, .int x29, .int x30, .int x31, .int x32, .ref h34, .ref h35, .int x33, .int x34, .ref h36])), (h1, .inl (gB g, 1500, .inl fn0))] sz) (fun u : (Int32) × (Int64) × (Int32) × (Int32) × (Int64) × (Int64) => [(h0, .inr (11, [.ref h1, .int x2, .ref h2, .int x3, .int x4, .int x5, .ref h3, .ref h4, .ref h5, .ref h6, .int x6, .int x7, .int u.1, .ref h7, .ref h8, .ref h9, .ref h10, .int x9, .int x10, .int x11, .long u.2.1, .int u.2.2.1, .int u.2.2.2.1, .long u.2.2.2.2.1, .long u.2.2.2.2.2, .ref h11, .ref h12, .ref h13, .ref h14, .long y3, .int x14, .ref h15, .int x15, .int x16, .int x17, .int x18, .ref h16, .ref h17, .ref h18, .ref h19, .ref h20, .ref h21, .ref h22, .ref h23, .ref h24, .ref h25, .ref h26, .int x19, .int x20, .int x21, .int x22, .int x23, .int x24, .int x25, .long y4, .int x26, .ref h27, .ref h28, .long y5, .long y6, .int x27, .ref h29, .int x28, .ref h30, .ref h31, .ref h32, .ref h33, .int x29, .int x30, .int x31, .int x32, .ref h34, .ref h35, .int x33, .int x34, .ref h36])), (h1, .inl (gB g, 1500, .inl fn0))])) (va_A [(h0, .inr (11, [.ref h1, .int x2, .ref h2, .int x3, .int x4, .int x5, .ref h3, .ref h4, .ref h5, .ref h6, .int x6, .int x7, .int x8, .ref h7, .ref h8, .ref h9, .ref h10, .int x9, .int x10, .int x11, .long y0, .int x12, .int x13, .long y1, .long y2, .ref h11, .ref h12, .ref h13, .ref h14, .long y3, .int x14, .ref h15, .int x15, .int x16, .int x17, .int x18, .ref h16, .ref h17, .ref h18, .ref h19, .ref h20, .ref h21, .ref h22, .ref h23, .ref h24, .ref h25, .ref h26, .int x19, .int x20, .int x21, .int x22, .int x23, .int x24, .int x25, .long y4, .int x26, .ref h27, .ref h28, .long y5, .long y6, .int x27, .ref h29, .int x28, .ref h30, .ref h31, .ref h32, .ref h33, .int x29, .int x30, .int x31, .int x32, .ref h34, .ref h35, .int x33, .int x34, .ref h36])), (h1, .inl (gB g, 1500, .inl fn0))] sz)) 0 0 (va_A [(h0, .inr (11, [.ref h1, .int x2, .ref h2, .int x3, .int x4, .int x5, .ref h3, .ref h4, .ref h5, .ref h6, .int x6, .int x7, .int x8, .ref h7, .ref h8, .ref h9, .ref h10, .int x9, .int x10, .int x11, .long y0, .int x12, .int x13, .long y1, .long y2, .ref h11, .ref h12, .ref h13, .ref h14, .long y3, .int x14, .ref h15, .int x15, .int x16, .int x17, .int x18, .ref h16, .ref h17, .ref h18, .ref h19, .ref h20, .ref h21, .ref h22, .ref h23, .ref h24, .ref h25, .ref h26, .int x19, .int x20, .int x21, .int x22, .int x23, .int x24, .int x25, .long y4, .int x26, .ref h27, .ref h28, .long y5, .long y6, .int x27, .ref h29, .int x28, .ref h30, .ref h31, .ref h32, .ref h33, .int x29, .int x30, .int x31, .int x32, .ref h34, .ref h35, .int x33, .int x34, .ref h36])), (h1, .inl (gB g, 1500, .inl fn0))] sz) := by
  refine met_z RX12 (by decide) rfl rfl (Nat.le_of_ble_eq_true rfl) [(0, .ref h0), (1, .int x0), (2, .int x1)] rfl ?_
  intro p e s m args below meth c A Q C hnm Rt
  have gy0 := fb_rngL y0
  have hiX12 : ∀ w ∈ wsX120, w ∈ wsX12_index := fun w h => List.mem_cons_of_mem _ (List.mem_append_right _ (h))
  refine r_aload_n 0 0 C dX12_index_0 rfl ?_
  refine r_aload_n 1 0 C dX12_index_1 rfl ?_
  refine r_iconst 2 2 C dX12_index_2 (by decide) ?_
  refine r_callVl 3 C dX12_index_3 [.ref h0] [(h0, .inr (11, [.ref h1, .int x2, .ref h2, .int x3, .int x4, .int x5, .ref h3, .ref h4, .ref h5, .ref h6, .int x6, .int x7, .int x8, .ref h7, .ref h8, .ref h9, .ref h10, .int x9, .int x10, .int x11, .long y0, .int x12, .int x13, .long y1, .long y2, .ref h11, .ref h12, .ref h13, .ref h14, .long y3, .int x14, .ref h15, .int x15, .int x16, .int x17, .int x18, .ref h16, .ref h17, .ref h18, .ref h19, .ref h20, .ref h21, .ref h22, .ref h23, .ref h24, .ref h25, .ref h26, .int x19, .int x20, .int x21, .int x22, .int x23, .int x24, .int x25, .long y4, .int x26, .ref h27, .ref h28, .long y5, .long y6, .int x27, .ref h29, .int x28, .ref h30, .ref h31, .ref h32, .ref h33, .int x29, .int x30, .int x31, .int x32, .ref h34, .ref h35, .int x33, .int x34, .ref h36])), (h1, .inl (gB g, 1500, .inl fn0))] [] (fun sz => c44_X12_number l g h0 h1 x2 h2 x3 x4 x5 h3 h4 h5 h6 x6 x7 x8 h7 h8 h9 h10 x9 x10 x11 y0 x12 x13 y1 y2 h11 h12 h13 h14 y3 x14 h15 x15 x16 x17 x18 h16 h17 h18 h19 h20 h21 h22 h23 h24 h25 h26 x19 x20 x21 x22 x23 x24 x25 y4 x26 h27 h28 y5 y6 x27 h29 x28 h30 h31 h32 h33 x29 x30 x31 x32 h34 h35 x33 x34 h36 fn0 i_x2 i_x3 i_x5 i_x8 i_x9 i_x12 i_x13 i_y1 i_y2 i_x14 i_x15 i_x16 i_x17 i_x18 i_x20 i_x21 i_x22 i_x23 i_x24 i_x26 i_x27 i_x28 i_x29 i_x30 i_x31 i_x32 i_x33 i_x34 sz) gX12_index_X12_number rfl ⟨rfl, rfl⟩ 1 (by decide) ⟨Nat.le_of_ble_eq_true rfl, Nat.le_of_ble_eq_true rfl⟩ 0 rfl rfl [0, 1] [] rfl rfl (by decide) (by decide) (by decide) rfl rfl (Nat.le_of_ble_eq_true rfl) ⟨Nat.le_of_ble_eq_true rfl, Nat.le_of_ble_eq_true rfl⟩ (fun r3 u5 w4 => ?_)
  obtain ⟨z1, z2⟩ := u5
  refine r_ws [(h0, .inr (11, [.ref h1, .int x2, .ref h2, .int x3, .int x4, .int x5, .ref h3, .ref h4, .ref h5, .ref h6, .int x6, .int x7, .int z1, .ref h7, .ref h8, .ref h9, .ref h10, .int x9, .int x10, .int x11, .long z2, .int x12, .int x13, .long y1, .long y2, .ref h11, .ref h12, .ref h13, .ref h14, .long y3, .int x14, .ref h15, .int x15, .int x16, .int x17, .int x18, .ref h16, .ref h17, .ref h18, .ref h19, .ref h20, .ref h21, .ref h22, .ref h23, .ref h24, .ref h25, .ref h26, .int x19, .int x20, .int x21, .int x22, .int x23, .int x24, .int x25, .long y4, .int x26, .ref h27, .ref h28, .long y5, .long y6, .int x27, .ref h29, .int x28, .ref h30, .ref h31, .ref h32, .ref h33, .int x29, .int x30, .int x31, .int x32, .ref h34, .ref h35, .int x33, .int x34, .ref h36])), (h1, .inl (gB g, 1500, .inl fn0))] rfl ?_
  have gz2 := fb_rngL z2
  have p6 : 0 ≤ (Int64.toInt r3) := w4.1
  have p7 : (Int64.toInt r3) ≤ 65535 := w4.2.1
  have p8 : 0 ≤ (Int32.toInt z1) := w4.2.2.1
  have p9 : (Int32.toInt z1) ≤ 3 := w4.2.2.2.1
  have p10 : ((1 ≤ (Int32.toInt z1)) ∨ ((Int32.toInt x8) = 0 ∧ (Int32.toInt z1) = 0 ∧ 0 ≤ (Int64.toInt y0) ∧ (Int64.toInt y0) + 2 ≤ (Int32.toInt x2) ∧ (Int64.toInt z2) = (Int64.toInt y0) + 2 ∧ (Int64.toInt r3) = B8 fn0 ((Int64.toInt y0)) * 256 + B8 fn0 ((Int64.toInt y0) + 1))) := w4.2.2.2.2
  rcases p10 with k11 | p10
  · skip
    obtain ⟨z12, ez12⟩ : ∃ z_9, Int64.toInt32 r3 = z_9 := ⟨_, rfl⟩
    have tz12 : (Int32.toInt z12) = (Int64.toInt r3) := by rw [← ez12]; exact l2i_in (by omega) (by omega)
    refine r_l2i 6 z12 C dX12_index_6 ez12 ?_
    refine r_put 7 C dX12_index_7 (k := 21) 0 rfl rfl hiX12 tyX12 tyX12_ok nmX12 (by decide) rfl (mg 1 rfl) (Or.inl rfl) rfl rfl rfl rfl (Nat.le_of_ble_eq_true rfl) [(h0, .inr (11, [.ref h1, .int x2, .ref h2, .int x3, .int x4, .int x5, .ref h3, .ref h4, .ref h5, .ref h6, .int x6, .int x7, .int z1, .ref h7, .ref h8, .ref h9, .ref h10, .int x9, .int x10, .int x11, .long z2, .int z12, .int x13, .long y1, .long y2, .ref h11, .ref h12, .ref h13, .ref h14, .long y3, .int x14, .ref h15, .int x15, .int x16, .int x17, .int x18, .ref h16, .ref h17, .ref h18, .ref h19, .ref h20, .ref h21, .ref h22, .ref h23, .ref h24, .ref h25, .ref h26, .int x19, .int x20, .int x21, .int x22, .int x23, .int x24, .int x25, .long y4, .int x26, .ref h27, .ref h28, .long y5, .long y6, .int x27, .ref h29, .int x28, .ref h30, .ref h31, .ref h32, .ref h33, .int x29, .int x30, .int x31, .int x32, .ref h34, .ref h35, .int x33, .int x34, .ref h36])), (h1, .inl (gB g, 1500, .inl fn0))] rfl ?_
    refine r_aload_n 10 0 C dX12_index_10 rfl ?_
    refine r_get 11 C dX12_index_11 (k := 12) 0 rfl rfl hiX12 (by decide) rfl (mg 2 rfl) (Or.inl rfl) rfl ?_
    refine r_if_le_f 14 19 C dX12_index_14 (by decide) (fun h_9 => by have h_8 : (Int32.toInt z1) ≤ 0 := (fa_le z1 0).mp h_9; omega) ?_
    refine r_iconst 17 0 C dX12_index_17 (by decide) ?_
    exact r_zret 18 Rt dX12_index_18 (by decide) (z1, z2, z12, x13, y1, y2) (show 0 ≤ (Int32.toInt 0) ∧ (Int32.toInt 0) ≤ 1 ∧ 0 ≤ (Int32.toInt z1) ∧ (Int32.toInt z1) ≤ 3 ∧ 0 ≤ (Int32.toInt z12) ∧ (Int32.toInt z12) ≤ 65535 ∧ 0 ≤ (Int32.toInt x13) ∧ (Int32.toInt x13) ≤ 255 ∧ 0 ≤ (Int64.toInt y1) ∧ (Int64.toInt y1) ≤ 1500 ∧ 0 ≤ (Int64.toInt y2) ∧ (Int64.toInt y2) ≤ 1500 ∧ (0 = 0 ∨ (Int32.toInt z12) = 0 ∨ IX fn0 (Int64.toInt y1) (Int32.toInt x13) (Int32.toInt z12) (Int64.toInt y2) (Int32.toInt x2)) ∧ ((0 = 0 ∧ 1 ≤ (Int32.toInt z1)) ∨ (0 = 1 ∧ (Int32.toInt z1) = (Int32.toInt x8) ∧ 0 ≤ (Int32.toInt z12) ∧ (Int32.toInt z12) ≤ 1500 ∧ (Int32.toInt x0) ≤ (Int32.toInt z12) ∧ (Int32.toInt z12) ≤ (Int32.toInt x1))) from ⟨(by decide), (by decide), (show _ ∧ _ from ⟨p8, p9⟩).1, (show _ ∧ _ from ⟨p8, p9⟩).2, (iv_eq ⟨p6, p7⟩ tz12).1, (iv_eq ⟨p6, p7⟩ tz12).2, i_x13.1, i_x13.2, i_y1.1, i_y1.2, i_y2.1, i_y2.2, (by first | omega | ((repeat' apply And.intro) <;> first | trivial | rfl | assumption | omega | decide | exact Or.inl rfl | exact Or.inr (Or.inl rfl) | exact Or.inr (Or.inr rfl) | exact Or.inr (Or.inr (by assumption)))), (by first | omega | ((repeat' apply And.intro) <;> first | trivial | rfl | assumption | omega | decide | exact Or.inl rfl | exact Or.inr (Or.inl rfl) | exact Or.inr (Or.inr rfl) | exact Or.inr (Or.inr (by assumption))))⟩) [0, 1] (by decide) rfl (Nat.le_of_ble_eq_true rfl) (Nat.le_of_ble_eq_true rfl)
  obtain ⟨k13, k14, k15, k16, k17, k18⟩ := p10
  obtain ⟨z19, ez19⟩ : ∃ z_9, Int64.toInt32 r3 = z_9 := ⟨_, rfl⟩
  have tz19 : (Int32.toInt z19) = (Int64.toInt r3) := by rw [← ez19]; exact l2i_in (by omega) (by omega)
  refine r_l2i 6 z19 C dX12_index_6 ez19 ?_
  refine r_put 7 C dX12_index_7 (k := 21) 0 rfl rfl hiX12 tyX12 tyX12_ok nmX12 (by decide) rfl (mg 1 rfl) (Or.inl rfl) rfl rfl rfl rfl (Nat.le_of_ble_eq_true rfl) [(h0, .inr (11, [.ref h1, .int x2, .ref h2, .int x3, .int x4, .int x5, .ref h3, .ref h4, .ref h5, .ref h6, .int x6, .int x7, .int z1, .ref h7, .ref h8, .ref h9, .ref h10, .int x9, .int x10, .int x11, .long z2, .int z19, .int x13, .long y1, .long y2, .ref h11, .ref h12, .ref h13, .ref h14, .long y3, .int x14, .ref h15, .int x15, .int x16, .int x17, .int x18, .ref h16, .ref h17, .ref h18, .ref h19, .ref h20, .ref h21, .ref h22, .ref h23, .ref h24, .ref h25, .ref h26, .int x19, .int x20, .int x21, .int x22, .int x23, .int x24, .int x25, .long y4, .int x26, .ref h27, .ref h28, .long y5, .long y6, .int x27, .ref h29, .int x28, .ref h30, .ref h31, .ref h32, .ref h33, .int x29, .int x30, .int x31, .int x32, .ref h34, .ref h35, .int x33, .int x34, .ref h36])), (h1, .inl (gB g, 1500, .inl fn0))] rfl ?_
  refine r_aload_n 10 0 C dX12_index_10 rfl ?_
  refine r_get 11 C dX12_index_11 (k := 12) 0 rfl rfl hiX12 (by decide) rfl (mg 2 rfl) (Or.inl rfl) rfl ?_
  refine r_if_le_t 14 19 C dX12_index_14 (by decide) ((fa_le z1 0).mpr (by show (Int32.toInt z1) ≤ 0; omega)) ?_
  refine r_aload_n 19 0 C dX12_index_19 rfl ?_
  refine r_get 20 C dX12_index_20 (k := 21) 0 rfl rfl hiX12 (by decide) rfl (mg 1 rfl) (Or.inl rfl) rfl ?_
  refine r_iload_n 23 1 C dX12_index_23 rfl ?_
  refine r_icmp_lt 24 35 C dX12_index_24 (by decide) (fun c20 => ?_) (fun c20 => ?_)
  · skip
    have k21 : (Int32.toInt z19) < (Int32.toInt x0) := (fa_lt z19 x0).mp c20
    refine r_aload_n 35 0 C dX12_index_35 rfl ?_
    refine r_iconst 36 2 C dX12_index_36 (by decide) ?_
    refine r_callVi 37 C dX12_index_37 [] [(h0, .inr (11, [.ref h1, .int x2, .ref h2, .int x3, .int x4, .int x5, .ref h3, .ref h4, .ref h5, .ref h6, .int x6, .int x7, .int z1, .ref h7, .ref h8, .ref h9, .ref h10, .int x9, .int x10, .int x11, .long z2, .int z19, .int x13, .long y1, .long y2, .ref h11, .ref h12, .ref h13, .ref h14, .long y3, .int x14, .ref h15, .int x15, .int x16, .int x17, .int x18, .ref h16, .ref h17, .ref h18, .ref h19, .ref h20, .ref h21, .ref h22, .ref h23, .ref h24, .ref h25, .ref h26, .int x19, .int x20, .int x21, .int x22, .int x23, .int x24, .int x25, .long y4, .int x26, .ref h27, .ref h28, .long y5, .long y6, .int x27, .ref h29, .int x28, .ref h30, .ref h31, .ref h32, .ref h33, .int x29, .int x30, .int x31, .int x32, .ref h34, .ref h35, .int x33, .int x34, .ref h36]))] [(h1, .inl (gB g, 1500, .inl fn0))] (fun sz => c17_X12_fails l g h0 2 h1 x2 h2 x3 x4 x5 h3 h4 h5 h6 x6 x7 z1 h7 h8 h9 h10 x9 x10 x11 z2 z19 x13 y1 y2 h11 h12 h13 h14 y3 x14 h15 x15 x16 x17 x18 h16 h17 h18 h19 h20 h21 h22 h23 h24 h25 h26 x19 x20 x21 x22 x23 x24 x25 y4 x26 h27 h28 y5 y6 x27 h29 x28 h30 h31 h32 h33 x29 x30 x31 x32 h34 h35 x33 x34 h36 (by decide) i_x2 i_x3 i_x5 ⟨p8, p9⟩ i_x9 (iv_eq ⟨p6, p7⟩ tz19) i_x13 i_y1 i_y2 i_x14 i_x15 i_x16 i_x17 i_x18 i_x20 i_x21 i_x22 i_x23 i_x24 i_x26 i_x27 i_x28 i_x29 i_x30 i_x31 i_x32 i_x33 i_x34 sz) gX12_index_X12_fails rfl ⟨rfl, rfl⟩ 1 (by decide) ⟨Nat.le_of_ble_eq_true rfl, Nat.le_of_ble_eq_true rfl⟩ 0 rfl rfl [0] [1] rfl rfl (by decide) (by decide) (by decide) rfl rfl (Nat.le_of_ble_eq_true rfl) ⟨Nat.le_of_ble_eq_true rfl, Nat.le_of_ble_eq_true rfl⟩ (fun r23 z22 w24 => ?_)
    refine r_ws [(h1, .inl (gB g, 1500, .inl fn0)), (h0, .inr (11, [.ref h1, .int x2, .ref h2, .int x3, .int x4, .int x5, .ref h3, .ref h4, .ref h5, .ref h6, .int x6, .int x7, .int z22, .ref h7, .ref h8, .ref h9, .ref h10, .int x9, .int x10, .int x11, .long z2, .int z19, .int x13, .long y1, .long y2, .ref h11, .ref h12, .ref h13, .ref h14, .long y3, .int x14, .ref h15, .int x15, .int x16, .int x17, .int x18, .ref h16, .ref h17, .ref h18, .ref h19, .ref h20, .ref h21, .ref h22, .ref h23, .ref h24, .ref h25, .ref h26, .int x19, .int x20, .int x21, .int x22, .int x23, .int x24, .int x25, .long y4, .int x26, .ref h27, .ref h28, .long y5, .long y6, .int x27, .ref h29, .int x28, .ref h30, .ref h31, .ref h32, .ref h33, .int x29, .int x30, .int x31, .int x32, .ref h34, .ref h35, .int x33, .int x34, .ref h36]))] rfl ?_
    have p25 : 0 = r23 := (w24.1).symm
    subst p25
    have p26 : 0 ≤ (Int32.toInt z22) := w24.2.1
    have p27 : (Int32.toInt z22) ≤ 3 := w24.2.2.1
    have p28 : (1 ≤ (Int32.toInt z22)) := w24.2.2.2
    exact r_zret 40 Rt dX12_index_40 (by decide) (z22, z2, z19, x13, y1, y2) (show 0 ≤ (Int32.toInt 0) ∧ (Int32.toInt 0) ≤ 1 ∧ 0 ≤ (Int32.toInt z22) ∧ (Int32.toInt z22) ≤ 3 ∧ 0 ≤ (Int32.toInt z19) ∧ (Int32.toInt z19) ≤ 65535 ∧ 0 ≤ (Int32.toInt x13) ∧ (Int32.toInt x13) ≤ 255 ∧ 0 ≤ (Int64.toInt y1) ∧ (Int64.toInt y1) ≤ 1500 ∧ 0 ≤ (Int64.toInt y2) ∧ (Int64.toInt y2) ≤ 1500 ∧ (0 = 0 ∨ (Int32.toInt z19) = 0 ∨ IX fn0 (Int64.toInt y1) (Int32.toInt x13) (Int32.toInt z19) (Int64.toInt y2) (Int32.toInt x2)) ∧ ((0 = 0 ∧ 1 ≤ (Int32.toInt z22)) ∨ (0 = 1 ∧ (Int32.toInt z22) = (Int32.toInt x8) ∧ 0 ≤ (Int32.toInt z19) ∧ (Int32.toInt z19) ≤ 1500 ∧ (Int32.toInt x0) ≤ (Int32.toInt z19) ∧ (Int32.toInt z19) ≤ (Int32.toInt x1))) from ⟨(by decide), (by decide), (show _ ∧ _ from ⟨p26, p27⟩).1, (show _ ∧ _ from ⟨p26, p27⟩).2, (iv_eq ⟨p6, p7⟩ tz19).1, (iv_eq ⟨p6, p7⟩ tz19).2, i_x13.1, i_x13.2, i_y1.1, i_y1.2, i_y2.1, i_y2.2, (by first | omega | ((repeat' apply And.intro) <;> first | trivial | rfl | assumption | omega | decide | exact Or.inl rfl | exact Or.inr (Or.inl rfl) | exact Or.inr (Or.inr rfl) | exact Or.inr (Or.inr (by assumption)))), (by first | omega | ((repeat' apply And.intro) <;> first | trivial | rfl | assumption | omega | decide | exact Or.inl rfl | exact Or.inr (Or.inl rfl) | exact Or.inr (Or.inr rfl) | exact Or.inr (Or.inr (by assumption))))⟩) [1, 0] (by decide) rfl (Nat.le_of_ble_eq_true rfl) (Nat.le_of_ble_eq_true rfl)
  · skip
    have k29 : ¬ ((Int32.toInt z19) < (Int32.toInt x0)) := fun h_9 => c20 ((fa_lt z19 x0).mpr h_9)
    refine r_aload_n 27 0 C dX12_index_27 rfl ?_
    refine r_get 28 C dX12_index_28 (k := 21) 0 rfl rfl hiX12 (by decide) rfl (mg 1 rfl) (Or.inl rfl) rfl ?_
    refine r_iload_n 31 2 C dX12_index_31 rfl ?_
    refine r_icmp_le 32 41 C dX12_index_32 (by decide) (fun c30 => ?_) (fun c30 => ?_)
    · skip
      have k31 : (Int32.toInt z19) ≤ (Int32.toInt x1) := (fa_le z19 x1).mp c30
      refine r_aload_n 41 0 C dX12_index_41 rfl ?_
      refine r_get 42 C dX12_index_42 (k := 21) 0 rfl rfl hiX12 (by decide) rfl (mg 1 rfl) (Or.inl rfl) rfl ?_
      refine r_if_ne 45 50 C dX12_index_45 (by decide) (fun c32 => ?_) (fun c32 => ?_)
      · skip
        have k33 : ¬ ((Int32.toInt z19) = 0) := fun h_9 => c32 ((fa_eq z19 0).mpr h_9)
        refine r_aload_n 50 0 C dX12_index_50 rfl ?_
        refine r_aload_n 51 0 C dX12_index_51 rfl ?_
        refine r_iconst 52 1 C dX12_index_52 (by decide) ?_
        refine r_callVl 53 C dX12_index_53 [.ref h0] [(h0, .inr (11, [.ref h1, .int x2, .ref h2, .int x3, .int x4, .int x5, .ref h3, .ref h4, .ref h5, .ref h6, .int x6, .int x7, .int z1, .ref h7, .ref h8, .ref h9, .ref h10, .int x9, .int x10, .int x11, .long z2, .int z19, .int x13, .long y1, .long y2, .ref h11, .ref h12, .ref h13, .ref h14, .long y3, .int x14, .ref h15, .int x15, .int x16, .int x17, .int x18, .ref h16, .ref h17, .ref h18, .ref h19, .ref h20, .ref h21, .ref h22, .ref h23, .ref h24, .ref h25, .ref h26, .int x19, .int x20, .int x21, .int x22, .int x23, .int x24, .int x25, .long y4, .int x26, .ref h27, .ref h28, .long y5, .long y6, .int x27, .ref h29, .int x28, .ref h30, .ref h31, .ref h32, .ref h33, .int x29, .int x30, .int x31, .int x32, .ref h34, .ref h35, .int x33, .int x34, .ref h36])), (h1, .inl (gB g, 1500, .inl fn0))] [] (fun sz => c43_X12_number l g h0 h1 x2 h2 x3 x4 x5 h3 h4 h5 h6 x6 x7 z1 h7 h8 h9 h10 x9 x10 x11 z2 z19 x13 y1 y2 h11 h12 h13 h14 y3 x14 h15 x15 x16 x17 x18 h16 h17 h18 h19 h20 h21 h22 h23 h24 h25 h26 x19 x20 x21 x22 x23 x24 x25 y4 x26 h27 h28 y5 y6 x27 h29 x28 h30 h31 h32 h33 x29 x30 x31 x32 h34 h35 x33 x34 h36 fn0 i_x2 i_x3 i_x5 ⟨p8, p9⟩ i_x9 (iv_eq ⟨p6, p7⟩ tz19) i_x13 i_y1 i_y2 i_x14 i_x15 i_x16 i_x17 i_x18 i_x20 i_x21 i_x22 i_x23 i_x24 i_x26 i_x27 i_x28 i_x29 i_x30 i_x31 i_x32 i_x33 i_x34 sz) gX12_index_X12_number rfl ⟨rfl, rfl⟩ 1 (by decide) ⟨Nat.le_of_ble_eq_true rfl, Nat.le_of_ble_eq_true rfl⟩ 0 rfl rfl [0, 1] [] rfl rfl (by decide) (by decide) (by decide) rfl rfl (Nat.le_of_ble_eq_true rfl) ⟨Nat.le_of_ble_eq_true rfl, Nat.le_of_ble_eq_true rfl⟩ (fun r36 u38 w37 => ?_)
        obtain ⟨z34, z35⟩ := u38
        refine r_ws [(h0, .inr (11, [.ref h1, .int x2, .ref h2, .int x3, .int x4, .int x5, .ref h3, .ref h4, .ref h5, .ref h6, .int x6, .int x7, .int z34, .ref h7, .ref h8, .ref h9, .ref h10, .int x9, .int x10, .int x11, .long z35, .int z19, .int x13, .long y1, .long y2, .ref h11, .ref h12, .ref h13, .ref h14, .long y3, .int x14, .ref h15, .int x15, .int x16, .int x17, .int x18, .ref h16, .ref h17, .ref h18, .ref h19, .ref h20, .ref h21, .ref h22, .ref h23, .ref h24, .ref h25, .ref h26, .int x19, .int x20, .int x21, .int x22, .int x23, .int x24, .int x25, .long y4, .int x26, .ref h27, .ref h28, .long y5, .long y6, .int x27, .ref h29, .int x28, .ref h30, .ref h31, .ref h32, .ref h33, .int x29, .int x30, .int x31, .int x32, .ref h34, .ref h35, .int x33, .int x34, .ref h36])), (h1, .inl (gB g, 1500, .inl fn0))] rfl ?_
        have gz35 := fb_rngL z35
        have p39 : 0 ≤ (Int64.toInt r36) := w37.1
        have p40 : (Int64.toInt r36) ≤ 255 := w37.2.1
        have p41 : 0 ≤ (Int32.toInt z34) := w37.2.2.1
        have p42 : (Int32.toInt z34) ≤ 3 := w37.2.2.2.1
        have p43 : ((1 ≤ (Int32.toInt z34)) ∨ ((Int32.toInt z1) = 0 ∧ (Int32.toInt z34) = 0 ∧ 0 ≤ (Int64.toInt z2) ∧ (Int64.toInt z2) + 1 ≤ (Int32.toInt x2) ∧ (Int64.toInt z35) = (Int64.toInt z2) + 1 ∧ (Int64.toInt r36) = B8 fn0 ((Int64.toInt z2)))) := w37.2.2.2.2
        rcases p43 with k44 | p43
        · skip
          obtain ⟨z45, ez45⟩ : ∃ z_9, Int64.toInt32 r36 = z_9 := ⟨_, rfl⟩
          have tz45 : (Int32.toInt z45) = (Int64.toInt r36) := by rw [← ez45]; exact l2i_in (by omega) (by omega)
          refine r_l2i 56 z45 C dX12_index_56 ez45 ?_
          refine r_put 57 C dX12_index_57 (k := 22) 0 rfl rfl hiX12 tyX12 tyX12_ok nmX12 (by decide) rfl (mg 3 rfl) (Or.inl rfl) rfl rfl rfl rfl (Nat.le_of_ble_eq_true rfl) [(h0, .inr (11, [.ref h1, .int x2, .ref h2, .int x3, .int x4, .int x5, .ref h3, .ref h4, .ref h5, .ref h6, .int x6, .int x7, .int z34, .ref h7, .ref h8, .ref h9, .ref h10, .int x9, .int x10, .int x11, .long z35, .int z19, .int z45, .long y1, .long y2, .ref h11, .ref h12, .ref h13, .ref h14, .long y3, .int x14, .ref h15, .int x15, .int x16, .int x17, .int x18, .ref h16, .ref h17, .ref h18, .ref h19, .ref h20, .ref h21, .ref h22, .ref h23, .ref h24, .ref h25, .ref h26, .int x19, .int x20, .int x21, .int x22, .int x23, .int x24, .int x25, .long y4, .int x26, .ref h27, .ref h28, .long y5, .long y6, .int x27, .ref h29, .int x28, .ref h30, .ref h31, .ref h32, .ref h33, .int x29, .int x30, .int x31, .int x32, .ref h34, .ref h35, .int x33, .int x34, .ref h36])), (h1, .inl (gB g, 1500, .inl fn0))] rfl ?_
          refine r_aload_n 60 0 C dX12_index_60 rfl ?_
          refine r_get 61 C dX12_index_61 (k := 12) 0 rfl rfl hiX12 (by decide) rfl (mg 2 rfl) (Or.inl rfl) rfl ?_
          refine r_if_le_f 64 69 C dX12_index_64 (by decide) (fun h_9 => by have h_8 : (Int32.toInt z34) ≤ 0 := (fa_le z34 0).mp h_9; omega) ?_
          refine r_iconst 67 0 C dX12_index_67 (by decide) ?_
          exact r_zret 68 Rt dX12_index_68 (by decide) (z34, z35, z19, z45, y1, y2) (show 0 ≤ (Int32.toInt 0) ∧ (Int32.toInt 0) ≤ 1 ∧ 0 ≤ (Int32.toInt z34) ∧ (Int32.toInt z34) ≤ 3 ∧ 0 ≤ (Int32.toInt z19) ∧ (Int32.toInt z19) ≤ 65535 ∧ 0 ≤ (Int32.toInt z45) ∧ (Int32.toInt z45) ≤ 255 ∧ 0 ≤ (Int64.toInt y1) ∧ (Int64.toInt y1) ≤ 1500 ∧ 0 ≤ (Int64.toInt y2) ∧ (Int64.toInt y2) ≤ 1500 ∧ (0 = 0 ∨ (Int32.toInt z19) = 0 ∨ IX fn0 (Int64.toInt y1) (Int32.toInt z45) (Int32.toInt z19) (Int64.toInt y2) (Int32.toInt x2)) ∧ ((0 = 0 ∧ 1 ≤ (Int32.toInt z34)) ∨ (0 = 1 ∧ (Int32.toInt z34) = (Int32.toInt x8) ∧ 0 ≤ (Int32.toInt z19) ∧ (Int32.toInt z19) ≤ 1500 ∧ (Int32.toInt x0) ≤ (Int32.toInt z19) ∧ (Int32.toInt z19) ≤ (Int32.toInt x1))) from ⟨(by decide), (by decide), (show _ ∧ _ from ⟨p41, p42⟩).1, (show _ ∧ _ from ⟨p41, p42⟩).2, (iv_eq ⟨p6, p7⟩ tz19).1, (iv_eq ⟨p6, p7⟩ tz19).2, (iv_eq ⟨p39, p40⟩ tz45).1, (iv_eq ⟨p39, p40⟩ tz45).2, i_y1.1, i_y1.2, i_y2.1, i_y2.2, (by first | omega | ((repeat' apply And.intro) <;> first | trivial | rfl | assumption | omega | decide | exact Or.inl rfl | exact Or.inr (Or.inl rfl) | exact Or.inr (Or.inr rfl) | exact Or.inr (Or.inr (by assumption)))), (by first | omega | ((repeat' apply And.intro) <;> first | trivial | rfl | assumption | omega | decide | exact Or.inl rfl | exact Or.inr (Or.inl rfl) | exact Or.inr (Or.inr rfl) | exact Or.inr (Or.inr (by assumption))))⟩) [0, 1] (by decide) rfl (Nat.le_of_ble_eq_true rfl) (Nat.le_of_ble_eq_true rfl)
        obtain ⟨k46, k47, k48, k49, k50, k51⟩ := p43
        obtain ⟨z52, ez52⟩ : ∃ z_9, Int64.toInt32 r36 = z_9 := ⟨_, rfl⟩
        have tz52 : (Int32.toInt z52) = (Int64.toInt r36) := by rw [← ez52]; exact l2i_in (by omega) (by omega)
        refine r_l2i 56 z52 C dX12_index_56 ez52 ?_
        refine r_put 57 C dX12_index_57 (k := 22) 0 rfl rfl hiX12 tyX12 tyX12_ok nmX12 (by decide) rfl (mg 3 rfl) (Or.inl rfl) rfl rfl rfl rfl (Nat.le_of_ble_eq_true rfl) [(h0, .inr (11, [.ref h1, .int x2, .ref h2, .int x3, .int x4, .int x5, .ref h3, .ref h4, .ref h5, .ref h6, .int x6, .int x7, .int z34, .ref h7, .ref h8, .ref h9, .ref h10, .int x9, .int x10, .int x11, .long z35, .int z19, .int z52, .long y1, .long y2, .ref h11, .ref h12, .ref h13, .ref h14, .long y3, .int x14, .ref h15, .int x15, .int x16, .int x17, .int x18, .ref h16, .ref h17, .ref h18, .ref h19, .ref h20, .ref h21, .ref h22, .ref h23, .ref h24, .ref h25, .ref h26, .int x19, .int x20, .int x21, .int x22, .int x23, .int x24, .int x25, .long y4, .int x26, .ref h27, .ref h28, .long y5, .long y6, .int x27, .ref h29, .int x28, .ref h30, .ref h31, .ref h32, .ref h33, .int x29, .int x30, .int x31, .int x32, .ref h34, .ref h35, .int x33, .int x34, .ref h36])), (h1, .inl (gB g, 1500, .inl fn0))] rfl ?_
        refine r_aload_n 60 0 C dX12_index_60 rfl ?_
        refine r_get 61 C dX12_index_61 (k := 12) 0 rfl rfl hiX12 (by decide) rfl (mg 2 rfl) (Or.inl rfl) rfl ?_
        refine r_if_le_t 64 69 C dX12_index_64 (by decide) ((fa_le z34 0).mpr (by show (Int32.toInt z34) ≤ 0; omega)) ?_
        refine r_aload_n 69 0 C dX12_index_69 rfl ?_
        refine r_get 70 C dX12_index_70 (k := 22) 0 rfl rfl hiX12 (by decide) rfl (mg 3 rfl) (Or.inl rfl) rfl ?_
        refine r_iconst 73 1 C dX12_index_73 (by decide) ?_
        refine r_icmp_lt 74 85 C dX12_index_74 (by decide) (fun c53 => ?_) (fun c53 => ?_)
        · skip
          have k54 : (Int32.toInt z52) < 1 := (fa_lt z52 1).mp c53
          refine r_aload_n 85 0 C dX12_index_85 rfl ?_
          refine r_iconst 86 2 C dX12_index_86 (by decide) ?_
          refine r_callVi 87 C dX12_index_87 [] [(h0, .inr (11, [.ref h1, .int x2, .ref h2, .int x3, .int x4, .int x5, .ref h3, .ref h4, .ref h5, .ref h6, .int x6, .int x7, .int z34, .ref h7, .ref h8, .ref h9, .ref h10, .int x9, .int x10, .int x11, .long z35, .int z19, .int z52, .long y1, .long y2, .ref h11, .ref h12, .ref h13, .ref h14, .long y3, .int x14, .ref h15, .int x15, .int x16, .int x17, .int x18, .ref h16, .ref h17, .ref h18, .ref h19, .ref h20, .ref h21, .ref h22, .ref h23, .ref h24, .ref h25, .ref h26, .int x19, .int x20, .int x21, .int x22, .int x23, .int x24, .int x25, .long y4, .int x26, .ref h27, .ref h28, .long y5, .long y6, .int x27, .ref h29, .int x28, .ref h30, .ref h31, .ref h32, .ref h33, .int x29, .int x30, .int x31, .int x32, .ref h34, .ref h35, .int x33, .int x34, .ref h36]))] [(h1, .inl (gB g, 1500, .inl fn0))] (fun sz => c17_X12_fails l g h0 2 h1 x2 h2 x3 x4 x5 h3 h4 h5 h6 x6 x7 z34 h7 h8 h9 h10 x9 x10 x11 z35 z19 z52 y1 y2 h11 h12 h13 h14 y3 x14 h15 x15 x16 x17 x18 h16 h17 h18 h19 h20 h21 h22 h23 h24 h25 h26 x19 x20 x21 x22 x23 x24 x25 y4 x26 h27 h28 y5 y6 x27 h29 x28 h30 h31 h32 h33 x29 x30 x31 x32 h34 h35 x33 x34 h36 (by decide) i_x2 i_x3 i_x5 ⟨p41, p42⟩ i_x9 (iv_eq ⟨p6, p7⟩ tz19) (iv_eq ⟨p39, p40⟩ tz52) i_y1 i_y2 i_x14 i_x15 i_x16 i_x17 i_x18 i_x20 i_x21 i_x22 i_x23 i_x24 i_x26 i_x27 i_x28 i_x29 i_x30 i_x31 i_x32 i_x33 i_x34 sz) gX12_index_X12_fails rfl ⟨rfl, rfl⟩ 1 (by decide) ⟨Nat.le_of_ble_eq_true rfl, Nat.le_of_ble_eq_true rfl⟩ 0 rfl rfl [0] [1] rfl rfl (by decide) (by decide) (by decide) rfl rfl (Nat.le_of_ble_eq_true rfl) ⟨Nat.le_of_ble_eq_true rfl, Nat.le_of_ble_eq_true rfl⟩ (fun r56 z55 w57 => ?_)
          refine r_ws [(h1, .inl (gB g, 1500, .inl fn0)), (h0, .inr (11, [.ref h1, .int x2, .ref h2, .int x3, .int x4, .int x5, .ref h3, .ref h4, .ref h5, .ref h6, .int x6, .int x7, .int z55, .ref h7, .ref h8, .ref h9, .ref h10, .int x9, .int x10, .int x11, .long z35, .int z19, .int z52, .long y1, .long y2, .ref h11, .ref h12, .ref h13, .ref h14, .long y3, .int x14, .ref h15, .int x15, .int x16, .int x17, .int x18, .ref h16, .ref h17, .ref h18, .ref h19, .ref h20, .ref h21, .ref h22, .ref h23, .ref h24, .ref h25, .ref h26, .int x19, .int x20, .int x21, .int x22, .int x23, .int x24, .int x25, .long y4, .int x26, .ref h27, .ref h28, .long y5, .long y6, .int x27, .ref h29, .int x28, .ref h30, .ref h31, .ref h32, .ref h33, .int x29, .int x30, .int x31, .int x32, .ref h34, .ref h35, .int x33, .int x34, .ref h36]))] rfl ?_
          have p58 : 0 = r56 := (w57.1).symm
          subst p58
          have p59 : 0 ≤ (Int32.toInt z55) := w57.2.1
          have p60 : (Int32.toInt z55) ≤ 3 := w57.2.2.1
          have p61 : (1 ≤ (Int32.toInt z55)) := w57.2.2.2
          exact r_zret 90 Rt dX12_index_90 (by decide) (z55, z35, z19, z52, y1, y2) (show 0 ≤ (Int32.toInt 0) ∧ (Int32.toInt 0) ≤ 1 ∧ 0 ≤ (Int32.toInt z55) ∧ (Int32.toInt z55) ≤ 3 ∧ 0 ≤ (Int32.toInt z19) ∧ (Int32.toInt z19) ≤ 65535 ∧ 0 ≤ (Int32.toInt z52) ∧ (Int32.toInt z52) ≤ 255 ∧ 0 ≤ (Int64.toInt y1) ∧ (Int64.toInt y1) ≤ 1500 ∧ 0 ≤ (Int64.toInt y2) ∧ (Int64.toInt y2) ≤ 1500 ∧ (0 = 0 ∨ (Int32.toInt z19) = 0 ∨ IX fn0 (Int64.toInt y1) (Int32.toInt z52) (Int32.toInt z19) (Int64.toInt y2) (Int32.toInt x2)) ∧ ((0 = 0 ∧ 1 ≤ (Int32.toInt z55)) ∨ (0 = 1 ∧ (Int32.toInt z55) = (Int32.toInt x8) ∧ 0 ≤ (Int32.toInt z19) ∧ (Int32.toInt z19) ≤ 1500 ∧ (Int32.toInt x0) ≤ (Int32.toInt z19) ∧ (Int32.toInt z19) ≤ (Int32.toInt x1))) from ⟨(by decide), (by decide), (show _ ∧ _ from ⟨p59, p60⟩).1, (show _ ∧ _ from ⟨p59, p60⟩).2, (iv_eq ⟨p6, p7⟩ tz19).1, (iv_eq ⟨p6, p7⟩ tz19).2, (iv_eq ⟨p39, p40⟩ tz52).1, (iv_eq ⟨p39, p40⟩ tz52).2, i_y1.1, i_y1.2, i_y2.1, i_y2.2, (by first | omega | ((repeat' apply And.intro) <;> first | trivial | rfl | assumption | omega | decide | exact Or.inl rfl | exact Or.inr (Or.inl rfl) | exact Or.inr (Or.inr rfl) | exact Or.inr (Or.inr (by assumption)))), (by first | omega | ((repeat' apply And.intro) <;> first | trivial | rfl | assumption | omega | decide | exact Or.inl rfl | exact Or.inr (Or.inl rfl) | exact Or.inr (Or.inr rfl) | exact Or.inr (Or.inr (by assumption))))⟩) [1, 0] (by decide) rfl (Nat.le_of_ble_eq_true rfl) (Nat.le_of_ble_eq_true rfl)
        · skip
          have k62 : ¬ ((Int32.toInt z52) < 1) := fun h_9 => c53 ((fa_lt z52 1).mpr h_9)
          refine r_aload_n 77 0 C dX12_index_77 rfl ?_
          refine r_get 78 C dX12_index_78 (k := 22) 0 rfl rfl hiX12 (by decide) rfl (mg 3 rfl) (Or.inl rfl) rfl ?_
          refine r_iconst 81 4 C dX12_index_81 (by decide) ?_
          refine r_icmp_le 82 91 C dX12_index_82 (by decide) (fun c63 => ?_) (fun c63 => ?_)
          · skip
            have k64 : (Int32.toInt z52) ≤ 4 := (fa_le z52 4).mp c63
            rcases (show (Int32.toInt z52) = 1 ∨ (Int32.toInt z52) = 2 ∨ (Int32.toInt z52) = 3 ∨ (Int32.toInt z52) = 4 by omega) with hq65 | hq65 | hq65 | hq65
            · skip
              obtain rfl : z52 = 1 := Int32.toInt_inj.mp (by show (Int32.toInt z52) = 1; omega)
              refine r_aload_n 91 0 C dX12_index_91 rfl ?_
              refine r_aload_n 92 0 C dX12_index_92 rfl ?_
              refine r_get 93 C dX12_index_93 (k := 20) 0 rfl rfl hiX12 (by decide) rfl (mg 4 rfl) (Or.inl rfl) rfl ?_
              refine r_put 96 C dX12_index_96 (k := 23) 0 rfl rfl hiX12 tyX12 tyX12_ok nmX12 (by decide) rfl (mg 5 rfl) (Or.inl rfl) rfl rfl rfl rfl (Nat.le_of_ble_eq_true rfl) [(h0, .inr (11, [.ref h1, .int x2, .ref h2, .int x3, .int x4, .int x5, .ref h3, .ref h4, .ref h5, .ref h6, .int x6, .int x7, .int z34, .ref h7, .ref h8, .ref h9, .ref h10, .int x9, .int x10, .int x11, .long z35, .int z19, .int 1, .long z35, .long y2, .ref h11, .ref h12, .ref h13, .ref h14, .long y3, .int x14, .ref h15, .int x15, .int x16, .int x17, .int x18, .ref h16, .ref h17, .ref h18, .ref h19, .ref h20, .ref h21, .ref h22, .ref h23, .ref h24, .ref h25, .ref h26, .int x19, .int x20, .int x21, .int x22, .int x23, .int x24, .int x25, .long y4, .int x26, .ref h27, .ref h28, .long y5, .long y6, .int x27, .ref h29, .int x28, .ref h30, .ref h31, .ref h32, .ref h33, .int x29, .int x30, .int x31, .int x32, .ref h34, .ref h35, .int x33, .int x34, .ref h36])), (h1, .inl (gB g, 1500, .inl fn0))] rfl ?_
              refine r_lconst 99 1 C dX12_index_99 (by decide) ?_
              refine r_lstore_n 100 C dX12_index_100 [(3, .long 1), (0, .ref h0), (1, .int x0), (2, .int x1)] (by decide) rfl ?_
              refine r_iconst 101 0 C dX12_index_101 (by decide) ?_
              refine r_istore 102 C dX12_index_102 [(5, .int 0), (3, .long 1), (0, .ref h0), (1, .int x0), (2, .int x1)] (by decide) rfl ?_
              have lp71 : ∀ (n70 : Nat) (z66 : Int32) (z67 : Int64) (z68 : Int32) (z69 : Int64), (0 ≤ (Int32.toInt z66) ∧ (Int32.toInt z66) ≤ 65536) → (0 ≤ (Int64.toInt z67) ∧ (Int64.toInt z67) ≤ 4294967295) → (0 ≤ (Int32.toInt z68) ∧ (Int32.toInt z68) ≤ 3) → (0 ≤ (Int64.toInt z69) ∧ (Int64.toInt z69) ≤ 1500) → ((Int32.toInt z68) = 0 ∧ (Int64.toInt z69) = (Int64.toInt z35) + 1 * (Int32.toInt z66) ∧ (Int32.toInt z66) ≤ (Int32.toInt z19) + 1 ∧ (Int64.toInt z69) ≤ (Int32.toInt x2) ∧ (((Int32.toInt z66) = 0 ∧ (Int64.toInt z67) = 1) ∨ (1 ≤ (Int32.toInt z66) ∧ OFF fn0 (Int64.toInt z35) 1 0 = 1 ∧ (Int64.toInt z67) = OFF fn0 (Int64.toInt z35) 1 ((Int32.toInt z66) - 1)))) → (MON fn0 (Int64.toInt z35) 1 (Int32.toInt z66)) → Int.toNat (65536 - (Int32.toInt z66)) < n70 → WW p l e ({ frames := 2, cells := 0, slots := 0, locals := 46 } : Room) s m args below meth c A Q g 8 0 0 [(h0, .inr (11, [.ref h1, .int x2, .ref h2, .int x3, .int x4, .int x5, .ref h3, .ref h4, .ref h5, .ref h6, .int x6, .int x7, .int z68, .ref h7, .ref h8, .ref h9, .ref h10, .int x9, .int x10, .int x11, .long z69, .int z19, .int 1, .long z35, .long y2, .ref h11, .ref h12, .ref h13, .ref h14, .long y3, .int x14, .ref h15, .int x15, .int x16, .int x17, .int x18, .ref h16, .ref h17, .ref h18, .ref h19, .ref h20, .ref h21, .ref h22, .ref h23, .ref h24, .ref h25, .ref h26, .int x19, .int x20, .int x21, .int x22, .int x23, .int x24, .int x25, .long y4, .int x26, .ref h27, .ref h28, .long y5, .long y6, .int x27, .ref h29, .int x28, .ref h30, .ref h31, .ref h32, .ref h33, .int x29, .int x30, .int x31, .int x32, .ref h34, .ref h35, .int x33, .int x34, .ref h36])), (h1, .inl (gB g, 1500, .inl fn0))] 104 [(5, .int z66), (3, .long z67), (0, .ref h0), (1, .int x0), (2, .int x1)] [] := by
                intro n70
                induction n70 with
                | zero => intro z66 z67 z68 z69 i74 i75 i76 i77 j78 j79 hm73; exact absurd hm73 (Nat.not_lt_zero _)
                | succ n70 ih72 =>
                  intro z66 z67 z68 z69 i74 i75 i76 i77 j78 j79 hm73
                  obtain ⟨i74a, i74b⟩ := i74
                  obtain ⟨i75a, i75b⟩ := i75
                  obtain ⟨i76a, i76b⟩ := i76
                  obtain ⟨i77a, i77b⟩ := i77
                  refine r_iload 104 0 C dX12_index_104 rfl ?_
                  refine r_aload_n 106 2 C dX12_index_106 rfl ?_
                  refine r_get 107 C dX12_index_107 (k := 21) 0 rfl rfl hiX12 (by decide) rfl (mg 1 rfl) (Or.inl rfl) rfl ?_
                  refine r_icmp_gt 110 169 C dX12_index_110 (by decide) (fun c80 => ?_) (fun c80 => ?_)
                  · skip
                    have k81 : (Int32.toInt z19) < (Int32.toInt z66) := (fa_lt z19 z66).mp c80
                    refine r_aload_n 169 2 C dX12_index_169 rfl ?_
                    refine r_aload_n 170 2 C dX12_index_170 rfl ?_
                    refine r_get 171 C dX12_index_171 (k := 20) 0 rfl rfl hiX12 (by decide) rfl (mg 4 rfl) (Or.inl rfl) rfl ?_
                    refine r_lconst 174 1 C dX12_index_174 (by decide) ?_
                    obtain ⟨z82, ez82⟩ : ∃ z_9, z69 - 1 = z_9 := ⟨_, rfl⟩
                    have tz82 : (Int64.toInt z82) = (Int64.toInt z69) - 1 := by rw [← ez82]; exact fb_subLv (a := 0) (b := 1500) (c := 1) (d := 1) ⟨i77a, i77b⟩ ⟨by decide, by decide⟩ (by decide) (by decide)
                    refine r_lsub 175 z82 C dX12_index_175 ez82 ?_
                    refine r_put 176 C dX12_index_176 (k := 24) 0 rfl rfl hiX12 tyX12 tyX12_ok nmX12 (by decide) rfl (mg 6 rfl) (Or.inl rfl) rfl rfl rfl rfl (Nat.le_of_ble_eq_true rfl) [(h0, .inr (11, [.ref h1, .int x2, .ref h2, .int x3, .int x4, .int x5, .ref h3, .ref h4, .ref h5, .ref h6, .int x6, .int x7, .int z68, .ref h7, .ref h8, .ref h9, .ref h10, .int x9, .int x10, .int x11, .long z69, .int z19, .int 1, .long z35, .long z82, .ref h11, .ref h12, .ref h13, .ref h14, .long y3, .int x14, .ref h15, .int x15, .int x16, .int x17, .int x18, .ref h16, .ref h17, .ref h18, .ref h19, .ref h20, .ref h21, .ref h22, .ref h23, .ref h24, .ref h25, .ref h26, .int x19, .int x20, .int x21, .int x22, .int x23, .int x24, .int x25, .long y4, .int x26, .ref h27, .ref h28, .long y5, .long y6, .int x27, .ref h29, .int x28, .ref h30, .ref h31, .ref h32, .ref h33, .int x29, .int x30, .int x31, .int x32, .ref h34, .ref h35, .int x33, .int x34, .ref h36])), (h1, .inl (gB g, 1500, .inl fn0))] rfl ?_
                    refine r_aload_n 179 2 C dX12_index_179 rfl ?_
                    refine r_aload_n 180 2 C dX12_index_180 rfl ?_
                    refine r_get 181 C dX12_index_181 (k := 24) 0 rfl rfl hiX12 (by decide) rfl (mg 6 rfl) (Or.inl rfl) rfl ?_
                    refine r_lload_n 184 1 C dX12_index_184 rfl ?_
                    obtain ⟨z83, ez83⟩ : ∃ z_9, z82 + z67 = z_9 := ⟨_, rfl⟩
                    have tz83 : (Int64.toInt z83) = (Int64.toInt z82) + (Int64.toInt z67) := by rw [← ez83]; exact fb_addLv (a := (-1)) (b := 1499) (c := 0) (d := 4294967295) (iv_wide (c := (-1)) (d := 1499) (iv_sub (a := 0) (b := 1500) (c := 1) (d := 1) ⟨i77a, i77b⟩ ⟨by decide, by decide⟩ tz82) (by decide) (by decide)) ⟨i75a, i75b⟩ (by decide) (by decide)
                    refine r_ladd 185 z83 C dX12_index_185 ez83 ?_
                    refine r_put 186 C dX12_index_186 (k := 20) 0 rfl rfl hiX12 tyX12 tyX12_ok nmX12 (by decide) rfl (mg 4 rfl) (Or.inl rfl) rfl rfl rfl rfl (Nat.le_of_ble_eq_true rfl) [(h0, .inr (11, [.ref h1, .int x2, .ref h2, .int x3, .int x4, .int x5, .ref h3, .ref h4, .ref h5, .ref h6, .int x6, .int x7, .int z68, .ref h7, .ref h8, .ref h9, .ref h10, .int x9, .int x10, .int x11, .long z83, .int z19, .int 1, .long z35, .long z82, .ref h11, .ref h12, .ref h13, .ref h14, .long y3, .int x14, .ref h15, .int x15, .int x16, .int x17, .int x18, .ref h16, .ref h17, .ref h18, .ref h19, .ref h20, .ref h21, .ref h22, .ref h23, .ref h24, .ref h25, .ref h26, .int x19, .int x20, .int x21, .int x22, .int x23, .int x24, .int x25, .long y4, .int x26, .ref h27, .ref h28, .long y5, .long y6, .int x27, .ref h29, .int x28, .ref h30, .ref h31, .ref h32, .ref h33, .int x29, .int x30, .int x31, .int x32, .ref h34, .ref h35, .int x33, .int x34, .ref h36])), (h1, .inl (gB g, 1500, .inl fn0))] rfl ?_
                    refine r_aload_n 189 2 C dX12_index_189 rfl ?_
                    refine r_get 190 C dX12_index_190 (k := 20) 0 rfl rfl hiX12 (by decide) rfl (mg 4 rfl) (Or.inl rfl) rfl ?_
                    refine r_aload_n 193 2 C dX12_index_193 rfl ?_
                    refine r_get 194 C dX12_index_194 (k := 1) 0 rfl rfl hiX12 (by decide) rfl (mg 7 rfl) (Or.inl rfl) rfl ?_
                    obtain ⟨z84, ez84⟩ : ∃ z_9, Int32.toInt64 x2 = z_9 := ⟨_, rfl⟩
                    have tz84 : (Int64.toInt z84) = (Int32.toInt x2) := by rw [← ez84]; exact Int32.toInt_toInt64 _
                    refine r_i2l 197 z84 C dX12_index_197 ez84 ?_
                    obtain ⟨z85, ez85⟩ : ∃ z_9, lg_cmp z83 z84 = z_9 := ⟨_, rfl⟩
                    have l1z85 : (Int32.toInt z85) < 0 ↔ (Int64.toInt z83) < (Int64.toInt z84) := by rw [← ez85]; exact lgI1 z83 z84
                    have l2z85 : 0 < (Int32.toInt z85) ↔ (Int64.toInt z84) < (Int64.toInt z83) := by rw [← ez85]; exact lgI2 z83 z84
                    refine r_lcmp 198 z85 C dX12_index_198 ez85 ?_
                    refine r_if_le 199 210 C dX12_index_199 (by decide) (fun c86 => ?_) (fun c86 => ?_)
                    · skip
                      have k87 : (Int32.toInt z85) ≤ 0 := (fa_le z85 0).mp c86
                      have hq88 : OFF fn0 (Int64.toInt z35) 1 ((Int32.toInt z66) - 1) = OFF fn0 (Int64.toInt z35) 1 (Int32.toInt z19) := by rw [show (Int32.toInt z66) - 1 = (Int32.toInt z19) from by omega]
                      have hq89 : IX fn0 (Int64.toInt z35) 1 (Int32.toInt z19) (Int64.toInt z82) (Int32.toInt x2) := ⟨by omega, by omega, by omega, by omega, by omega, by omega, by omega, fun j_8 h_8 h_9 => (show MON fn0 (Int64.toInt z35) 1 (Int32.toInt z66) by assumption) j_8 h_8 (by omega), by omega⟩
                      refine r_iconst 210 1 C dX12_index_210 (by decide) ?_
                      refine r_goto 211 215 C dX12_index_211 (by decide) ?_
                      exact r_zret 215 Rt dX12_index_215 (by decide) (z68, z83, z19, 1, z35, z82) (show 0 ≤ (Int32.toInt 1) ∧ (Int32.toInt 1) ≤ 1 ∧ 0 ≤ (Int32.toInt z68) ∧ (Int32.toInt z68) ≤ 3 ∧ 0 ≤ (Int32.toInt z19) ∧ (Int32.toInt z19) ≤ 65535 ∧ 0 ≤ (Int32.toInt 1) ∧ (Int32.toInt 1) ≤ 255 ∧ 0 ≤ (Int64.toInt z35) ∧ (Int64.toInt z35) ≤ 1500 ∧ 0 ≤ (Int64.toInt z82) ∧ (Int64.toInt z82) ≤ 1500 ∧ (1 = 0 ∨ (Int32.toInt z19) = 0 ∨ IX fn0 (Int64.toInt z35) 1 (Int32.toInt z19) (Int64.toInt z82) (Int32.toInt x2)) ∧ ((1 = 0 ∧ 1 ≤ (Int32.toInt z68)) ∨ (1 = 1 ∧ (Int32.toInt z68) = (Int32.toInt x8) ∧ 0 ≤ (Int32.toInt z19) ∧ (Int32.toInt z19) ≤ 1500 ∧ (Int32.toInt x0) ≤ (Int32.toInt z19) ∧ (Int32.toInt z19) ≤ (Int32.toInt x1))) from ⟨(by decide), (by decide), (show _ ∧ _ from ⟨i76a, i76b⟩).1, (show _ ∧ _ from ⟨i76a, i76b⟩).2, (iv_eq ⟨p6, p7⟩ tz19).1, (iv_eq ⟨p6, p7⟩ tz19).2, (by decide), (by decide), (by first | omega | ((repeat' apply And.intro) <;> first | trivial | rfl | assumption | omega | decide | exact Or.inl rfl | exact Or.inr (Or.inl rfl) | exact Or.inr (Or.inr rfl) | exact Or.inr (Or.inr (by assumption)))), (by first | omega | ((repeat' apply And.intro) <;> first | trivial | rfl | assumption | omega | decide | exact Or.inl rfl | exact Or.inr (Or.inl rfl) | exact Or.inr (Or.inr rfl) | exact Or.inr (Or.inr (by assumption)))), (by first | omega | ((repeat' apply And.intro) <;> first | trivial | rfl | assumption | omega | decide | exact Or.inl rfl | exact Or.inr (Or.inl rfl) | exact Or.inr (Or.inr rfl) | exact Or.inr (Or.inr (by assumption)))), (by first | omega | ((repeat' apply And.intro) <;> first | trivial | rfl | assumption | omega | decide | exact Or.inl rfl | exact Or.inr (Or.inl rfl) | exact Or.inr (Or.inr rfl) | exact Or.inr (Or.inr (by assumption)))), (by first | omega | ((repeat' apply And.intro) <;> first | trivial | rfl | assumption | omega | decide | exact Or.inl rfl | exact Or.inr (Or.inl rfl) | exact Or.inr (Or.inr rfl) | exact Or.inr (Or.inr (by assumption)))), (by first | omega | ((repeat' apply And.intro) <;> first | trivial | rfl | assumption | omega | decide | exact Or.inl rfl | exact Or.inr (Or.inl rfl) | exact Or.inr (Or.inr rfl) | exact Or.inr (Or.inr (by assumption))))⟩) [0, 1] (by decide) rfl (Nat.le_of_ble_eq_true rfl) (Nat.le_of_ble_eq_true rfl)
                    · skip
                      have k90 : ¬ ((Int32.toInt z85) ≤ 0) := fun h_9 => c86 ((fa_le z85 0).mpr h_9)
                      refine r_aload_n 202 2 C dX12_index_202 rfl ?_
                      refine r_iconst 203 1 C dX12_index_203 (by decide) ?_
                      refine r_callVi 204 C dX12_index_204 [] [(h0, .inr (11, [.ref h1, .int x2, .ref h2, .int x3, .int x4, .int x5, .ref h3, .ref h4, .ref h5, .ref h6, .int x6, .int x7, .int z68, .ref h7, .ref h8, .ref h9, .ref h10, .int x9, .int x10, .int x11, .long z83, .int z19, .int 1, .long z35, .long z82, .ref h11, .ref h12, .ref h13, .ref h14, .long y3, .int x14, .ref h15, .int x15, .int x16, .int x17, .int x18, .ref h16, .ref h17, .ref h18, .ref h19, .ref h20, .ref h21, .ref h22, .ref h23, .ref h24, .ref h25, .ref h26, .int x19, .int x20, .int x21, .int x22, .int x23, .int x24, .int x25, .long y4, .int x26, .ref h27, .ref h28, .long y5, .long y6, .int x27, .ref h29, .int x28, .ref h30, .ref h31, .ref h32, .ref h33, .int x29, .int x30, .int x31, .int x32, .ref h34, .ref h35, .int x33, .int x34, .ref h36]))] [(h1, .inl (gB g, 1500, .inl fn0))] (fun sz => c17_X12_fails l g h0 1 h1 x2 h2 x3 x4 x5 h3 h4 h5 h6 x6 x7 z68 h7 h8 h9 h10 x9 x10 x11 z83 z19 1 z35 z82 h11 h12 h13 h14 y3 x14 h15 x15 x16 x17 x18 h16 h17 h18 h19 h20 h21 h22 h23 h24 h25 h26 x19 x20 x21 x22 x23 x24 x25 y4 x26 h27 h28 y5 y6 x27 h29 x28 h30 h31 h32 h33 x29 x30 x31 x32 h34 h35 x33 x34 h36 (by decide) i_x2 i_x3 i_x5 ⟨i76a, i76b⟩ i_x9 (iv_eq ⟨p6, p7⟩ tz19) (by decide) ⟨by omega, by omega⟩ ⟨by omega, by omega⟩ i_x14 i_x15 i_x16 i_x17 i_x18 i_x20 i_x21 i_x22 i_x23 i_x24 i_x26 i_x27 i_x28 i_x29 i_x30 i_x31 i_x32 i_x33 i_x34 sz) gX12_index_X12_fails rfl ⟨rfl, rfl⟩ 1 (by decide) ⟨Nat.le_of_ble_eq_true rfl, Nat.le_of_ble_eq_true rfl⟩ 0 rfl rfl [0] [1] rfl rfl (by decide) (by decide) (by decide) rfl rfl (Nat.le_of_ble_eq_true rfl) ⟨Nat.le_of_ble_eq_true rfl, Nat.le_of_ble_eq_true rfl⟩ (fun r92 z91 w93 => ?_)
                      refine r_ws [(h1, .inl (gB g, 1500, .inl fn0)), (h0, .inr (11, [.ref h1, .int x2, .ref h2, .int x3, .int x4, .int x5, .ref h3, .ref h4, .ref h5, .ref h6, .int x6, .int x7, .int z91, .ref h7, .ref h8, .ref h9, .ref h10, .int x9, .int x10, .int x11, .long z83, .int z19, .int 1, .long z35, .long z82, .ref h11, .ref h12, .ref h13, .ref h14, .long y3, .int x14, .ref h15, .int x15, .int x16, .int x17, .int x18, .ref h16, .ref h17, .ref h18, .ref h19, .ref h20, .ref h21, .ref h22, .ref h23, .ref h24, .ref h25, .ref h26, .int x19, .int x20, .int x21, .int x22, .int x23, .int x24, .int x25, .long y4, .int x26, .ref h27, .ref h28, .long y5, .long y6, .int x27, .ref h29, .int x28, .ref h30, .ref h31, .ref h32, .ref h33, .int x29, .int x30, .int x31, .int x32, .ref h34, .ref h35, .int x33, .int x34, .ref h36]))] rfl ?_
                      have p94 : 0 = r92 := (w93.1).symm
                      subst p94
                      have p95 : 0 ≤ (Int32.toInt z91) := w93.2.1
                      have p96 : (Int32.toInt z91) ≤ 3 := w93.2.2.1
                      have p97 : (1 ≤ (Int32.toInt z91)) := w93.2.2.2
                      refine r_if_eq_t 207 214 C dX12_index_207 (by decide) (by decide) ?_
                      refine r_iconst 214 0 C dX12_index_214 (by decide) ?_
                      exact r_zret 215 Rt dX12_index_215 (by decide) (z91, z83, z19, 1, z35, z82) (show 0 ≤ (Int32.toInt 0) ∧ (Int32.toInt 0) ≤ 1 ∧ 0 ≤ (Int32.toInt z91) ∧ (Int32.toInt z91) ≤ 3 ∧ 0 ≤ (Int32.toInt z19) ∧ (Int32.toInt z19) ≤ 65535 ∧ 0 ≤ (Int32.toInt 1) ∧ (Int32.toInt 1) ≤ 255 ∧ 0 ≤ (Int64.toInt z35) ∧ (Int64.toInt z35) ≤ 1500 ∧ 0 ≤ (Int64.toInt z82) ∧ (Int64.toInt z82) ≤ 1500 ∧ (0 = 0 ∨ (Int32.toInt z19) = 0 ∨ IX fn0 (Int64.toInt z35) 1 (Int32.toInt z19) (Int64.toInt z82) (Int32.toInt x2)) ∧ ((0 = 0 ∧ 1 ≤ (Int32.toInt z91)) ∨ (0 = 1 ∧ (Int32.toInt z91) = (Int32.toInt x8) ∧ 0 ≤ (Int32.toInt z19) ∧ (Int32.toInt z19) ≤ 1500 ∧ (Int32.toInt x0) ≤ (Int32.toInt z19) ∧ (Int32.toInt z19) ≤ (Int32.toInt x1))) from ⟨(by decide), (by decide), (show _ ∧ _ from ⟨p95, p96⟩).1, (show _ ∧ _ from ⟨p95, p96⟩).2, (iv_eq ⟨p6, p7⟩ tz19).1, (iv_eq ⟨p6, p7⟩ tz19).2, (by decide), (by decide), (by first | omega | ((repeat' apply And.intro) <;> first | trivial | rfl | assumption | omega | decide | exact Or.inl rfl | exact Or.inr (Or.inl rfl) | exact Or.inr (Or.inr rfl) | exact Or.inr (Or.inr (by assumption)))), (by first | omega | ((repeat' apply And.intro) <;> first | trivial | rfl | assumption | omega | decide | exact Or.inl rfl | exact Or.inr (Or.inl rfl) | exact Or.inr (Or.inr rfl) | exact Or.inr (Or.inr (by assumption)))), (by first | omega | ((repeat' apply And.intro) <;> first | trivial | rfl | assumption | omega | decide | exact Or.inl rfl | exact Or.inr (Or.inl rfl) | exact Or.inr (Or.inr rfl) | exact Or.inr (Or.inr (by assumption)))), (by first | omega | ((repeat' apply And.intro) <;> first | trivial | rfl | assumption | omega | decide | exact Or.inl rfl | exact Or.inr (Or.inl rfl) | exact Or.inr (Or.inr rfl) | exact Or.inr (Or.inr (by assumption)))), (by first | omega | ((repeat' apply And.intro) <;> first | trivial | rfl | assumption | omega | decide | exact Or.inl rfl | exact Or.inr (Or.inl rfl) | exact Or.inr (Or.inr rfl) | exact Or.inr (Or.inr (by assumption)))), (by first | omega | ((repeat' apply And.intro) <;> first | trivial | rfl | assumption | omega | decide | exact Or.inl rfl | exact Or.inr (Or.inl rfl) | exact Or.inr (Or.inr rfl) | exact Or.inr (Or.inr (by assumption))))⟩) [1, 0] (by decide) rfl (Nat.le_of_ble_eq_true rfl) (Nat.le_of_ble_eq_true rfl)
                  · skip
                    have k98 : ¬ ((Int32.toInt z19) < (Int32.toInt z66)) := fun h_9 => c80 ((fa_lt z19 z66).mpr h_9)
                    refine r_aload_n 113 2 C dX12_index_113 rfl ?_
                    refine r_aload_n 114 2 C dX12_index_114 rfl ?_
                    refine r_get 115 C dX12_index_115 (k := 22) 0 rfl rfl hiX12 (by decide) rfl (mg 3 rfl) (Or.inl rfl) rfl ?_
                    refine r_callVl 118 C dX12_index_118 [] [(h0, .inr (11, [.ref h1, .int x2, .ref h2, .int x3, .int x4, .int x5, .ref h3, .ref h4, .ref h5, .ref h6, .int x6, .int x7, .int z68, .ref h7, .ref h8, .ref h9, .ref h10, .int x9, .int x10, .int x11, .long z69, .int z19, .int 1, .long z35, .long y2, .ref h11, .ref h12, .ref h13, .ref h14, .long y3, .int x14, .ref h15, .int x15, .int x16, .int x17, .int x18, .ref h16, .ref h17, .ref h18, .ref h19, .ref h20, .ref h21, .ref h22, .ref h23, .ref h24, .ref h25, .ref h26, .int x19, .int x20, .int x21, .int x22, .int x23, .int x24, .int x25, .long y4, .int x26, .ref h27, .ref h28, .long y5, .long y6, .int x27, .ref h29, .int x28, .ref h30, .ref h31, .ref h32, .ref h33, .int x29, .int x30, .int x31, .int x32, .ref h34, .ref h35, .int x33, .int x34, .ref h36])), (h1, .inl (gB g, 1500, .inl fn0))] [] (fun sz => c43_X12_number l g h0 h1 x2 h2 x3 x4 x5 h3 h4 h5 h6 x6 x7 z68 h7 h8 h9 h10 x9 x10 x11 z69 z19 1 z35 y2 h11 h12 h13 h14 y3 x14 h15 x15 x16 x17 x18 h16 h17 h18 h19 h20 h21 h22 h23 h24 h25 h26 x19 x20 x21 x22 x23 x24 x25 y4 x26 h27 h28 y5 y6 x27 h29 x28 h30 h31 h32 h33 x29 x30 x31 x32 h34 h35 x33 x34 h36 fn0 i_x2 i_x3 i_x5 ⟨i76a, i76b⟩ i_x9 (iv_eq ⟨p6, p7⟩ tz19) (by decide) ⟨by omega, by omega⟩ i_y2 i_x14 i_x15 i_x16 i_x17 i_x18 i_x20 i_x21 i_x22 i_x23 i_x24 i_x26 i_x27 i_x28 i_x29 i_x30 i_x31 i_x32 i_x33 i_x34 sz) gX12_index_X12_number rfl ⟨rfl, rfl⟩ 1 (by decide) ⟨Nat.le_of_ble_eq_true rfl, Nat.le_of_ble_eq_true rfl⟩ 0 rfl rfl [0, 1] [] rfl rfl (by decide) (by decide) (by decide) rfl rfl (Nat.le_of_ble_eq_true rfl) ⟨Nat.le_of_ble_eq_true rfl, Nat.le_of_ble_eq_true rfl⟩ (fun r101 u103 w102 => ?_)
                    obtain ⟨z99, z100⟩ := u103
                    refine r_ws [(h0, .inr (11, [.ref h1, .int x2, .ref h2, .int x3, .int x4, .int x5, .ref h3, .ref h4, .ref h5, .ref h6, .int x6, .int x7, .int z99, .ref h7, .ref h8, .ref h9, .ref h10, .int x9, .int x10, .int x11, .long z100, .int z19, .int 1, .long z35, .long y2, .ref h11, .ref h12, .ref h13, .ref h14, .long y3, .int x14, .ref h15, .int x15, .int x16, .int x17, .int x18, .ref h16, .ref h17, .ref h18, .ref h19, .ref h20, .ref h21, .ref h22, .ref h23, .ref h24, .ref h25, .ref h26, .int x19, .int x20, .int x21, .int x22, .int x23, .int x24, .int x25, .long y4, .int x26, .ref h27, .ref h28, .long y5, .long y6, .int x27, .ref h29, .int x28, .ref h30, .ref h31, .ref h32, .ref h33, .int x29, .int x30, .int x31, .int x32, .ref h34, .ref h35, .int x33, .int x34, .ref h36])), (h1, .inl (gB g, 1500, .inl fn0))] rfl ?_
                    have gz100 := fb_rngL z100
                    have p104 : 0 ≤ (Int64.toInt r101) := w102.1
                    have p105 : (Int64.toInt r101) ≤ 255 := w102.2.1
                    have p106 : 0 ≤ (Int32.toInt z99) := w102.2.2.1
                    have p107 : (Int32.toInt z99) ≤ 3 := w102.2.2.2.1
                    have p108 : ((1 ≤ (Int32.toInt z99)) ∨ ((Int32.toInt z68) = 0 ∧ (Int32.toInt z99) = 0 ∧ 0 ≤ (Int64.toInt z69) ∧ (Int64.toInt z69) + 1 ≤ (Int32.toInt x2) ∧ (Int64.toInt z100) = (Int64.toInt z69) + 1 ∧ (Int64.toInt r101) = B8 fn0 ((Int64.toInt z69)))) := w102.2.2.2.2
                    rcases p108 with k109 | p108
                    · skip
                      refine r_lstore 121 C dX12_index_121 [(6, .long r101), (5, .int z66), (3, .long z67), (0, .ref h0), (1, .int x0), (2, .int x1)] (by decide) rfl ?_
                      refine r_aload_n 123 3 C dX12_index_123 rfl ?_
                      refine r_get 124 C dX12_index_124 (k := 12) 0 rfl rfl hiX12 (by decide) rfl (mg 2 rfl) (Or.inl rfl) rfl ?_
                      refine r_if_le_f 127 132 C dX12_index_127 (by decide) (fun h_9 => by have h_8 : (Int32.toInt z99) ≤ 0 := (fa_le z99 0).mp h_9; omega) ?_
                      refine r_iconst 130 0 C dX12_index_130 (by decide) ?_
                      exact r_zret 131 Rt dX12_index_131 (by decide) (z99, z100, z19, 1, z35, y2) (show 0 ≤ (Int32.toInt 0) ∧ (Int32.toInt 0) ≤ 1 ∧ 0 ≤ (Int32.toInt z99) ∧ (Int32.toInt z99) ≤ 3 ∧ 0 ≤ (Int32.toInt z19) ∧ (Int32.toInt z19) ≤ 65535 ∧ 0 ≤ (Int32.toInt 1) ∧ (Int32.toInt 1) ≤ 255 ∧ 0 ≤ (Int64.toInt z35) ∧ (Int64.toInt z35) ≤ 1500 ∧ 0 ≤ (Int64.toInt y2) ∧ (Int64.toInt y2) ≤ 1500 ∧ (0 = 0 ∨ (Int32.toInt z19) = 0 ∨ IX fn0 (Int64.toInt z35) 1 (Int32.toInt z19) (Int64.toInt y2) (Int32.toInt x2)) ∧ ((0 = 0 ∧ 1 ≤ (Int32.toInt z99)) ∨ (0 = 1 ∧ (Int32.toInt z99) = (Int32.toInt x8) ∧ 0 ≤ (Int32.toInt z19) ∧ (Int32.toInt z19) ≤ 1500 ∧ (Int32.toInt x0) ≤ (Int32.toInt z19) ∧ (Int32.toInt z19) ≤ (Int32.toInt x1))) from ⟨(by decide), (by decide), (show _ ∧ _ from ⟨p106, p107⟩).1, (show _ ∧ _ from ⟨p106, p107⟩).2, (iv_eq ⟨p6, p7⟩ tz19).1, (iv_eq ⟨p6, p7⟩ tz19).2, (by decide), (by decide), (by first | omega | ((repeat' apply And.intro) <;> first | trivial | rfl | assumption | omega | decide | exact Or.inl rfl | exact Or.inr (Or.inl rfl) | exact Or.inr (Or.inr rfl) | exact Or.inr (Or.inr (by assumption)))), (by first | omega | ((repeat' apply And.intro) <;> first | trivial | rfl | assumption | omega | decide | exact Or.inl rfl | exact Or.inr (Or.inl rfl) | exact Or.inr (Or.inr rfl) | exact Or.inr (Or.inr (by assumption)))), i_y2.1, i_y2.2, (by first | omega | ((repeat' apply And.intro) <;> first | trivial | rfl | assumption | omega | decide | exact Or.inl rfl | exact Or.inr (Or.inl rfl) | exact Or.inr (Or.inr rfl) | exact Or.inr (Or.inr (by assumption)))), (by first | omega | ((repeat' apply And.intro) <;> first | trivial | rfl | assumption | omega | decide | exact Or.inl rfl | exact Or.inr (Or.inl rfl) | exact Or.inr (Or.inr rfl) | exact Or.inr (Or.inr (by assumption))))⟩) [0, 1] (by decide) rfl (Nat.le_of_ble_eq_true rfl) (Nat.le_of_ble_eq_true rfl)
                    obtain ⟨k110, k111, k112, k113, k114, k115⟩ := p108
                    refine r_lstore 121 C dX12_index_121 [(6, .long r101), (5, .int z66), (3, .long z67), (0, .ref h0), (1, .int x0), (2, .int x1)] (by decide) rfl ?_
                    refine r_aload_n 123 3 C dX12_index_123 rfl ?_
                    refine r_get 124 C dX12_index_124 (k := 12) 0 rfl rfl hiX12 (by decide) rfl (mg 2 rfl) (Or.inl rfl) rfl ?_
                    refine r_if_le_t 127 132 C dX12_index_127 (by decide) ((fa_le z99 0).mpr (by show (Int32.toInt z99) ≤ 0; omega)) ?_
                    have o116 : OFF fn0 (Int64.toInt z35) 1 (Int32.toInt z66) = (Int64.toInt r101) := offk_1 (t := (Int64.toInt z69)) (by omega) (by omega)
                    refine r_iload 132 1 C dX12_index_132 rfl ?_
                    refine r_if_ne 134 147 C dX12_index_134 (by decide) (fun c117 => ?_) (fun c117 => ?_)
                    · skip
                      have k118 : ¬ ((Int32.toInt z66) = 0) := fun h_9 => c117 ((fa_eq z66 0).mpr h_9)
                      refine r_lload 147 0 C dX12_index_147 rfl ?_
                      refine r_lload_n 149 2 C dX12_index_149 rfl ?_
                      obtain ⟨z119, ez119⟩ : ∃ z_9, lg_cmp r101 z67 = z_9 := ⟨_, rfl⟩
                      have l1z119 : (Int32.toInt z119) < 0 ↔ (Int64.toInt r101) < (Int64.toInt z67) := by rw [← ez119]; exact lgI1 r101 z67
                      have l2z119 : 0 < (Int32.toInt z119) ↔ (Int64.toInt z67) < (Int64.toInt r101) := by rw [← ez119]; exact lgI2 r101 z67
                      refine r_lcmp 150 z119 C dX12_index_150 ez119 ?_
                      refine r_if_ge 151 160 C dX12_index_151 (by decide) (fun c120 => ?_) (fun c120 => ?_)
                      · skip
                        have k121 : 0 ≤ (Int32.toInt z119) := (fa_le 0 z119).mp c120
                        refine r_lload 160 0 C dX12_index_160 rfl ?_
                        refine r_lstore_n 162 C dX12_index_162 [(3, .long r101), (6, .long r101), (5, .int z66), (0, .ref h0), (1, .int x0), (2, .int x1)] (by decide) rfl ?_
                        obtain ⟨z122, ez122⟩ : ∃ z_9, z66 + Int32.ofInt 1 = z_9 := ⟨_, rfl⟩
                        have tz122 : (Int32.toInt z122) = (Int32.toInt z66) + 1 := by rw [← ez122]; exact fb_addIv (a := 0) (b := 65536) (c := 1) (d := 1) ⟨i74a, i74b⟩ ⟨by decide, by decide⟩ (by decide) (by decide)
                        refine r_iinc 163 2 z122 C dX12_index_163 rfl ez122 [(5, .int z122), (3, .long r101), (6, .long r101), (0, .ref h0), (1, .int x0), (2, .int x1)] (by decide) rfl ?_
                        refine r_goto 166 104 C dX12_index_166 (by decide) ?_
                        refine r_lv [(5, .int z122), (3, .long r101), (0, .ref h0), (1, .int x0), (2, .int x1)] [0, 1, 3, 4, 5] rfl ?_
                        exact ih72 z122 r101 z99 z100 ⟨by omega, by omega⟩ (iv_wide (c := 0) (d := 4294967295) ⟨p104, p105⟩ (by decide) (by decide)) ⟨p106, p107⟩ ⟨by omega, by omega⟩ (by have a_1 : OFF fn0 (Int64.toInt z35) 1 ((Int32.toInt z122) - 1) = OFF fn0 (Int64.toInt z35) 1 (Int32.toInt z66) := (by rw [show (Int32.toInt z122) - 1 = (Int32.toInt z66) from by omega]); have a_2 : (Int32.toInt z66) = 0 → OFF fn0 (Int64.toInt z35) 1 (Int32.toInt z66) = OFF fn0 (Int64.toInt z35) 1 0 := (fun h_9 => by rw [h_9]); show (Int32.toInt z99) = 0 ∧ (Int64.toInt z100) = (Int64.toInt z35) + 1 * (Int32.toInt z122) ∧ (Int32.toInt z122) ≤ (Int32.toInt z19) + 1 ∧ (Int64.toInt z100) ≤ (Int32.toInt x2) ∧ (((Int32.toInt z122) = 0 ∧ (Int64.toInt r101) = 1) ∨ (1 ≤ (Int32.toInt z122) ∧ OFF fn0 (Int64.toInt z35) 1 0 = 1 ∧ (Int64.toInt r101) = OFF fn0 (Int64.toInt z35) 1 ((Int32.toInt z122) - 1))); omega) (mon_step (k := (Int32.toInt z66)) (by assumption) (by show (Int32.toInt z122) = (Int32.toInt z66) + 1; omega) (by show (Int32.toInt z66) = 0 ∨ OFF fn0 (Int64.toInt z35) 1 ((Int32.toInt z66) - 1) ≤ OFF fn0 (Int64.toInt z35) 1 (Int32.toInt z66); omega)) (by omega)
                      · skip
                        have k123 : ¬ (0 ≤ (Int32.toInt z119)) := fun h_9 => c120 ((fa_le 0 z119).mpr h_9)
                        refine r_aload_n 154 3 C dX12_index_154 rfl ?_
                        refine r_iconst 155 2 C dX12_index_155 (by decide) ?_
                        refine r_callVi 156 C dX12_index_156 [] [(h0, .inr (11, [.ref h1, .int x2, .ref h2, .int x3, .int x4, .int x5, .ref h3, .ref h4, .ref h5, .ref h6, .int x6, .int x7, .int z99, .ref h7, .ref h8, .ref h9, .ref h10, .int x9, .int x10, .int x11, .long z100, .int z19, .int 1, .long z35, .long y2, .ref h11, .ref h12, .ref h13, .ref h14, .long y3, .int x14, .ref h15, .int x15, .int x16, .int x17, .int x18, .ref h16, .ref h17, .ref h18, .ref h19, .ref h20, .ref h21, .ref h22, .ref h23, .ref h24, .ref h25, .ref h26, .int x19, .int x20, .int x21, .int x22, .int x23, .int x24, .int x25, .long y4, .int x26, .ref h27, .ref h28, .long y5, .long y6, .int x27, .ref h29, .int x28, .ref h30, .ref h31, .ref h32, .ref h33, .int x29, .int x30, .int x31, .int x32, .ref h34, .ref h35, .int x33, .int x34, .ref h36]))] [(h1, .inl (gB g, 1500, .inl fn0))] (fun sz => c17_X12_fails l g h0 2 h1 x2 h2 x3 x4 x5 h3 h4 h5 h6 x6 x7 z99 h7 h8 h9 h10 x9 x10 x11 z100 z19 1 z35 y2 h11 h12 h13 h14 y3 x14 h15 x15 x16 x17 x18 h16 h17 h18 h19 h20 h21 h22 h23 h24 h25 h26 x19 x20 x21 x22 x23 x24 x25 y4 x26 h27 h28 y5 y6 x27 h29 x28 h30 h31 h32 h33 x29 x30 x31 x32 h34 h35 x33 x34 h36 (by decide) i_x2 i_x3 i_x5 ⟨p106, p107⟩ i_x9 (iv_eq ⟨p6, p7⟩ tz19) (by decide) ⟨by omega, by omega⟩ i_y2 i_x14 i_x15 i_x16 i_x17 i_x18 i_x20 i_x21 i_x22 i_x23 i_x24 i_x26 i_x27 i_x28 i_x29 i_x30 i_x31 i_x32 i_x33 i_x34 sz) gX12_index_X12_fails rfl ⟨rfl, rfl⟩ 1 (by decide) ⟨Nat.le_of_ble_eq_true rfl, Nat.le_of_ble_eq_true rfl⟩ 0 rfl rfl [0] [1] rfl rfl (by decide) (by decide) (by decide) rfl rfl (Nat.le_of_ble_eq_true rfl) ⟨Nat.le_of_ble_eq_true rfl, Nat.le_of_ble_eq_true rfl⟩ (fun r125 z124 w126 => ?_)
                        refine r_ws [(h1, .inl (gB g, 1500, .inl fn0)), (h0, .inr (11, [.ref h1, .int x2, .ref h2, .int x3, .int x4, .int x5, .ref h3, .ref h4, .ref h5, .ref h6, .int x6, .int x7, .int z124, .ref h7, .ref h8, .ref h9, .ref h10, .int x9, .int x10, .int x11, .long z100, .int z19, .int 1, .long z35, .long y2, .ref h11, .ref h12, .ref h13, .ref h14, .long y3, .int x14, .ref h15, .int x15, .int x16, .int x17, .int x18, .ref h16, .ref h17, .ref h18, .ref h19, .ref h20, .ref h21, .ref h22, .ref h23, .ref h24, .ref h25, .ref h26, .int x19, .int x20, .int x21, .int x22, .int x23, .int x24, .int x25, .long y4, .int x26, .ref h27, .ref h28, .long y5, .long y6, .int x27, .ref h29, .int x28, .ref h30, .ref h31, .ref h32, .ref h33, .int x29, .int x30, .int x31, .int x32, .ref h34, .ref h35, .int x33, .int x34, .ref h36]))] rfl ?_
                        have p127 : 0 = r125 := (w126.1).symm
                        subst p127
                        have p128 : 0 ≤ (Int32.toInt z124) := w126.2.1
                        have p129 : (Int32.toInt z124) ≤ 3 := w126.2.2.1
                        have p130 : (1 ≤ (Int32.toInt z124)) := w126.2.2.2
                        exact r_zret 159 Rt dX12_index_159 (by decide) (z124, z100, z19, 1, z35, y2) (show 0 ≤ (Int32.toInt 0) ∧ (Int32.toInt 0) ≤ 1 ∧ 0 ≤ (Int32.toInt z124) ∧ (Int32.toInt z124) ≤ 3 ∧ 0 ≤ (Int32.toInt z19) ∧ (Int32.toInt z19) ≤ 65535 ∧ 0 ≤ (Int32.toInt 1) ∧ (Int32.toInt 1) ≤ 255 ∧ 0 ≤ (Int64.toInt z35) ∧ (Int64.toInt z35) ≤ 1500 ∧ 0 ≤ (Int64.toInt y2) ∧ (Int64.toInt y2) ≤ 1500 ∧ (0 = 0 ∨ (Int32.toInt z19) = 0 ∨ IX fn0 (Int64.toInt z35) 1 (Int32.toInt z19) (Int64.toInt y2) (Int32.toInt x2)) ∧ ((0 = 0 ∧ 1 ≤ (Int32.toInt z124)) ∨ (0 = 1 ∧ (Int32.toInt z124) = (Int32.toInt x8) ∧ 0 ≤ (Int32.toInt z19) ∧ (Int32.toInt z19) ≤ 1500 ∧ (Int32.toInt x0) ≤ (Int32.toInt z19) ∧ (Int32.toInt z19) ≤ (Int32.toInt x1))) from ⟨(by decide), (by decide), (show _ ∧ _ from ⟨p128, p129⟩).1, (show _ ∧ _ from ⟨p128, p129⟩).2, (iv_eq ⟨p6, p7⟩ tz19).1, (iv_eq ⟨p6, p7⟩ tz19).2, (by decide), (by decide), (by first | omega | ((repeat' apply And.intro) <;> first | trivial | rfl | assumption | omega | decide | exact Or.inl rfl | exact Or.inr (Or.inl rfl) | exact Or.inr (Or.inr rfl) | exact Or.inr (Or.inr (by assumption)))), (by first | omega | ((repeat' apply And.intro) <;> first | trivial | rfl | assumption | omega | decide | exact Or.inl rfl | exact Or.inr (Or.inl rfl) | exact Or.inr (Or.inr rfl) | exact Or.inr (Or.inr (by assumption)))), i_y2.1, i_y2.2, (by first | omega | ((repeat' apply And.intro) <;> first | trivial | rfl | assumption | omega | decide | exact Or.inl rfl | exact Or.inr (Or.inl rfl) | exact Or.inr (Or.inr rfl) | exact Or.inr (Or.inr (by assumption)))), (by first | omega | ((repeat' apply And.intro) <;> first | trivial | rfl | assumption | omega | decide | exact Or.inl rfl | exact Or.inr (Or.inl rfl) | exact Or.inr (Or.inr rfl) | exact Or.inr (Or.inr (by assumption))))⟩) [1, 0] (by decide) rfl (Nat.le_of_ble_eq_true rfl) (Nat.le_of_ble_eq_true rfl)
                    · skip
                      have k131 : (Int32.toInt z66) = 0 := (fa_eq z66 0).mp c117
                      refine r_lload 137 0 C dX12_index_137 rfl ?_
                      refine r_lconst 139 1 C dX12_index_139 (by decide) ?_
                      obtain ⟨z132, ez132⟩ : ∃ z_9, lg_cmp r101 1 = z_9 := ⟨_, rfl⟩
                      have l1z132 : (Int32.toInt z132) < 0 ↔ (Int64.toInt r101) < 1 := by rw [← ez132]; exact lgI1 r101 1
                      have l2z132 : 0 < (Int32.toInt z132) ↔ 1 < (Int64.toInt r101) := by rw [← ez132]; exact lgI2 r101 1
                      refine r_lcmp 140 z132 C dX12_index_140 ez132 ?_
                      refine r_if_eq 141 160 C dX12_index_141 (by decide) (fun c133 => ?_) (fun c133 => ?_)
                      · skip
                        have k134 : (Int32.toInt z132) = 0 := (fa_eq z132 0).mp c133
                        refine r_lload 160 0 C dX12_index_160 rfl ?_
                        refine r_lstore_n 162 C dX12_index_162 [(3, .long r101), (6, .long r101), (5, .int z66), (0, .ref h0), (1, .int x0), (2, .int x1)] (by decide) rfl ?_
                        obtain ⟨z135, ez135⟩ : ∃ z_9, z66 + Int32.ofInt 1 = z_9 := ⟨_, rfl⟩
                        have tz135 : (Int32.toInt z135) = (Int32.toInt z66) + 1 := by rw [← ez135]; exact fb_addIv (a := 0) (b := 65536) (c := 1) (d := 1) ⟨i74a, i74b⟩ ⟨by decide, by decide⟩ (by decide) (by decide)
                        refine r_iinc 163 2 z135 C dX12_index_163 rfl ez135 [(5, .int z135), (3, .long r101), (6, .long r101), (0, .ref h0), (1, .int x0), (2, .int x1)] (by decide) rfl ?_
                        refine r_goto 166 104 C dX12_index_166 (by decide) ?_
                        refine r_lv [(5, .int z135), (3, .long r101), (0, .ref h0), (1, .int x0), (2, .int x1)] [0, 1, 3, 4, 5] rfl ?_
                        exact ih72 z135 r101 z99 z100 ⟨by omega, by omega⟩ (iv_wide (c := 0) (d := 4294967295) ⟨p104, p105⟩ (by decide) (by decide)) ⟨p106, p107⟩ ⟨by omega, by omega⟩ (by have a_1 : OFF fn0 (Int64.toInt z35) 1 ((Int32.toInt z135) - 1) = OFF fn0 (Int64.toInt z35) 1 (Int32.toInt z66) := (by rw [show (Int32.toInt z135) - 1 = (Int32.toInt z66) from by omega]); have a_2 : (Int32.toInt z66) = 0 → OFF fn0 (Int64.toInt z35) 1 (Int32.toInt z66) = OFF fn0 (Int64.toInt z35) 1 0 := (fun h_9 => by rw [h_9]); show (Int32.toInt z99) = 0 ∧ (Int64.toInt z100) = (Int64.toInt z35) + 1 * (Int32.toInt z135) ∧ (Int32.toInt z135) ≤ (Int32.toInt z19) + 1 ∧ (Int64.toInt z100) ≤ (Int32.toInt x2) ∧ (((Int32.toInt z135) = 0 ∧ (Int64.toInt r101) = 1) ∨ (1 ≤ (Int32.toInt z135) ∧ OFF fn0 (Int64.toInt z35) 1 0 = 1 ∧ (Int64.toInt r101) = OFF fn0 (Int64.toInt z35) 1 ((Int32.toInt z135) - 1))); omega) (mon_step (k := (Int32.toInt z66)) (by assumption) (by show (Int32.toInt z135) = (Int32.toInt z66) + 1; omega) (by show (Int32.toInt z66) = 0 ∨ OFF fn0 (Int64.toInt z35) 1 ((Int32.toInt z66) - 1) ≤ OFF fn0 (Int64.toInt z35) 1 (Int32.toInt z66); omega)) (by omega)
                      · skip
                        have k136 : ¬ ((Int32.toInt z132) = 0) := fun h_9 => c133 ((fa_eq z132 0).mpr h_9)
                        refine r_goto 144 154 C dX12_index_144 (by decide) ?_
                        refine r_aload_n 154 3 C dX12_index_154 rfl ?_
                        refine r_iconst 155 2 C dX12_index_155 (by decide) ?_
                        refine r_callVi 156 C dX12_index_156 [] [(h0, .inr (11, [.ref h1, .int x2, .ref h2, .int x3, .int x4, .int x5, .ref h3, .ref h4, .ref h5, .ref h6, .int x6, .int x7, .int z99, .ref h7, .ref h8, .ref h9, .ref h10, .int x9, .int x10, .int x11, .long z100, .int z19, .int 1, .long z35, .long y2, .ref h11, .ref h12, .ref h13, .ref h14, .long y3, .int x14, .ref h15, .int x15, .int x16, .int x17, .int x18, .ref h16, .ref h17, .ref h18, .ref h19, .ref h20, .ref h21, .ref h22, .ref h23, .ref h24, .ref h25, .ref h26, .int x19, .int x20, .int x21, .int x22, .int x23, .int x24, .int x25, .long y4, .int x26, .ref h27, .ref h28, .long y5, .long y6, .int x27, .ref h29, .int x28, .ref h30, .ref h31, .ref h32, .ref h33, .int x29, .int x30, .int x31, .int x32, .ref h34, .ref h35, .int x33, .int x34, .ref h36]))] [(h1, .inl (gB g, 1500, .inl fn0))] (fun sz => c17_X12_fails l g h0 2 h1 x2 h2 x3 x4 x5 h3 h4 h5 h6 x6 x7 z99 h7 h8 h9 h10 x9 x10 x11 z100 z19 1 z35 y2 h11 h12 h13 h14 y3 x14 h15 x15 x16 x17 x18 h16 h17 h18 h19 h20 h21 h22 h23 h24 h25 h26 x19 x20 x21 x22 x23 x24 x25 y4 x26 h27 h28 y5 y6 x27 h29 x28 h30 h31 h32 h33 x29 x30 x31 x32 h34 h35 x33 x34 h36 (by decide) i_x2 i_x3 i_x5 ⟨p106, p107⟩ i_x9 (iv_eq ⟨p6, p7⟩ tz19) (by decide) ⟨by omega, by omega⟩ i_y2 i_x14 i_x15 i_x16 i_x17 i_x18 i_x20 i_x21 i_x22 i_x23 i_x24 i_x26 i_x27 i_x28 i_x29 i_x30 i_x31 i_x32 i_x33 i_x34 sz) gX12_index_X12_fails rfl ⟨rfl, rfl⟩ 1 (by decide) ⟨Nat.le_of_ble_eq_true rfl, Nat.le_of_ble_eq_true rfl⟩ 0 rfl rfl [0] [1] rfl rfl (by decide) (by decide) (by decide) rfl rfl (Nat.le_of_ble_eq_true rfl) ⟨Nat.le_of_ble_eq_true rfl, Nat.le_of_ble_eq_true rfl⟩ (fun r138 z137 w139 => ?_)
                        refine r_ws [(h1, .inl (gB g, 1500, .inl fn0)), (h0, .inr (11, [.ref h1, .int x2, .ref h2, .int x3, .int x4, .int x5, .ref h3, .ref h4, .ref h5, .ref h6, .int x6, .int x7, .int z137, .ref h7, .ref h8, .ref h9, .ref h10, .int x9, .int x10, .int x11, .long z100, .int z19, .int 1, .long z35, .long y2, .ref h11, .ref h12, .ref h13, .ref h14, .long y3, .int x14, .ref h15, .int x15, .int x16, .int x17, .int x18, .ref h16, .ref h17, .ref h18, .ref h19, .ref h20, .ref h21, .ref h22, .ref h23, .ref h24, .ref h25, .ref h26, .int x19, .int x20, .int x21, .int x22, .int x23, .int x24, .int x25, .long y4, .int x26, .ref h27, .ref h28, .long y5, .long y6, .int x27, .ref h29, .int x28, .ref h30, .ref h31, .ref h32, .ref h33, .int x29, .int x30, .int x31, .int x32, .ref h34, .ref h35, .int x33, .int x34, .ref h36]))] rfl ?_
                        have p140 : 0 = r138 := (w139.1).symm
                        subst p140
                        have p141 : 0 ≤ (Int32.toInt z137) := w139.2.1
                        have p142 : (Int32.toInt z137) ≤ 3 := w139.2.2.1
                        have p143 : (1 ≤ (Int32.toInt z137)) := w139.2.2.2
                        exact r_zret 159 Rt dX12_index_159 (by decide) (z137, z100, z19, 1, z35, y2) (show 0 ≤ (Int32.toInt 0) ∧ (Int32.toInt 0) ≤ 1 ∧ 0 ≤ (Int32.toInt z137) ∧ (Int32.toInt z137) ≤ 3 ∧ 0 ≤ (Int32.toInt z19) ∧ (Int32.toInt z19) ≤ 65535 ∧ 0 ≤ (Int32.toInt 1) ∧ (Int32.toInt 1) ≤ 255 ∧ 0 ≤ (Int64.toInt z35) ∧ (Int64.toInt z35) ≤ 1500 ∧ 0 ≤ (Int64.toInt y2) ∧ (Int64.toInt y2) ≤ 1500 ∧ (0 = 0 ∨ (Int32.toInt z19) = 0 ∨ IX fn0 (Int64.toInt z35) 1 (Int32.toInt z19) (Int64.toInt y2) (Int32.toInt x2)) ∧ ((0 = 0 ∧ 1 ≤ (Int32.toInt z137)) ∨ (0 = 1 ∧ (Int32.toInt z137) = (Int32.toInt x8) ∧ 0 ≤ (Int32.toInt z19) ∧ (Int32.toInt z19) ≤ 1500 ∧ (Int32.toInt x0) ≤ (Int32.toInt z19) ∧ (Int32.toInt z19) ≤ (Int32.toInt x1))) from ⟨(by decide), (by decide), (show _ ∧ _ from ⟨p141, p142⟩).1, (show _ ∧ _ from ⟨p141, p142⟩).2, (iv_eq ⟨p6, p7⟩ tz19).1, (iv_eq ⟨p6, p7⟩ tz19).2, (by decide), (by decide), (by first | omega | ((repeat' apply And.intro) <;> first | trivial | rfl | assumption | omega | decide | exact Or.inl rfl | exact Or.inr (Or.inl rfl) | exact Or.inr (Or.inr rfl) | exact Or.inr (Or.inr (by assumption)))), (by first | omega | ((repeat' apply And.intro) <;> first | trivial | rfl | assumption | omega | decide | exact Or.inl rfl | exact Or.inr (Or.inl rfl) | exact Or.inr (Or.inr rfl) | exact Or.inr (Or.inr (by assumption)))), i_y2.1, i_y2.2, (by first | omega | ((repeat' apply And.intro) <;> first | trivial | rfl | assumption | omega | decide | exact Or.inl rfl | exact Or.inr (Or.inl rfl) | exact Or.inr (Or.inr rfl) | exact Or.inr (Or.inr (by assumption)))), (by first | omega | ((repeat' apply And.intro) <;> first | trivial | rfl | assumption | omega | decide | exact Or.inl rfl | exact Or.inr (Or.inl rfl) | exact Or.inr (Or.inr rfl) | exact Or.inr (Or.inr (by assumption))))⟩) [1, 0] (by decide) rfl (Nat.le_of_ble_eq_true rfl) (Nat.le_of_ble_eq_true rfl)
              exact lp71 _ 0 1 z34 z35 (by decide) (by decide) ⟨p41, p42⟩ ⟨by omega, by omega⟩ (by show (Int32.toInt z34) = 0 ∧ (Int64.toInt z35) = (Int64.toInt z35) + 1 * (0 : Int) ∧ (0 : Int) ≤ (Int32.toInt z19) + 1 ∧ (Int64.toInt z35) ≤ (Int32.toInt x2) ∧ (((0 : Int) = 0 ∧ (1 : Int) = 1) ∨ (1 ≤ (0 : Int) ∧ OFF fn0 (Int64.toInt z35) 1 0 = 1 ∧ (1 : Int) = OFF fn0 (Int64.toInt z35) 1 ((0 : Int) - 1))); omega) (mon_0 (k := 0) (by decide)) (Nat.lt_succ_self _)
            · skip
              obtain rfl : z52 = 2 := Int32.toInt_inj.mp (by show (Int32.toInt z52) = 2; omega)
              refine r_aload_n 91 0 C dX12_index_91 rfl ?_
              refine r_aload_n 92 0 C dX12_index_92 rfl ?_
              refine r_get 93 C dX12_index_93 (k := 20) 0 rfl rfl hiX12 (by decide) rfl (mg 4 rfl) (Or.inl rfl) rfl ?_
              refine r_put 96 C dX12_index_96 (k := 23) 0 rfl rfl hiX12 tyX12 tyX12_ok nmX12 (by decide) rfl (mg 5 rfl) (Or.inl rfl) rfl rfl rfl rfl (Nat.le_of_ble_eq_true rfl) [(h0, .inr (11, [.ref h1, .int x2, .ref h2, .int x3, .int x4, .int x5, .ref h3, .ref h4, .ref h5, .ref h6, .int x6, .int x7, .int z34, .ref h7, .ref h8, .ref h9, .ref h10, .int x9, .int x10, .int x11, .long z35, .int z19, .int 2, .long z35, .long y2, .ref h11, .ref h12, .ref h13, .ref h14, .long y3, .int x14, .ref h15, .int x15, .int x16, .int x17, .int x18, .ref h16, .ref h17, .ref h18, .ref h19, .ref h20, .ref h21, .ref h22, .ref h23, .ref h24, .ref h25, .ref h26, .int x19, .int x20, .int x21, .int x22, .int x23, .int x24, .int x25, .long y4, .int x26, .ref h27, .ref h28, .long y5, .long y6, .int x27, .ref h29, .int x28, .ref h30, .ref h31, .ref h32, .ref h33, .int x29, .int x30, .int x31, .int x32, .ref h34, .ref h35, .int x33, .int x34, .ref h36])), (h1, .inl (gB g, 1500, .inl fn0))] rfl ?_
              refine r_lconst 99 1 C dX12_index_99 (by decide) ?_
              refine r_lstore_n 100 C dX12_index_100 [(3, .long 1), (0, .ref h0), (1, .int x0), (2, .int x1)] (by decide) rfl ?_
              refine r_iconst 101 0 C dX12_index_101 (by decide) ?_
              refine r_istore 102 C dX12_index_102 [(5, .int 0), (3, .long 1), (0, .ref h0), (1, .int x0), (2, .int x1)] (by decide) rfl ?_
              have lp149 : ∀ (n148 : Nat) (z144 : Int32) (z145 : Int64) (z146 : Int32) (z147 : Int64), (0 ≤ (Int32.toInt z144) ∧ (Int32.toInt z144) ≤ 65536) → (0 ≤ (Int64.toInt z145) ∧ (Int64.toInt z145) ≤ 4294967295) → (0 ≤ (Int32.toInt z146) ∧ (Int32.toInt z146) ≤ 3) → (0 ≤ (Int64.toInt z147) ∧ (Int64.toInt z147) ≤ 1500) → ((Int32.toInt z146) = 0 ∧ (Int64.toInt z147) = (Int64.toInt z35) + 2 * (Int32.toInt z144) ∧ (Int32.toInt z144) ≤ (Int32.toInt z19) + 1 ∧ (Int64.toInt z147) ≤ (Int32.toInt x2) ∧ (((Int32.toInt z144) = 0 ∧ (Int64.toInt z145) = 1) ∨ (1 ≤ (Int32.toInt z144) ∧ OFF fn0 (Int64.toInt z35) 2 0 = 1 ∧ (Int64.toInt z145) = OFF fn0 (Int64.toInt z35) 2 ((Int32.toInt z144) - 1)))) → (MON fn0 (Int64.toInt z35) 2 (Int32.toInt z144)) → Int.toNat (65536 - (Int32.toInt z144)) < n148 → WW p l e ({ frames := 2, cells := 0, slots := 0, locals := 46 } : Room) s m args below meth c A Q g 8 0 0 [(h0, .inr (11, [.ref h1, .int x2, .ref h2, .int x3, .int x4, .int x5, .ref h3, .ref h4, .ref h5, .ref h6, .int x6, .int x7, .int z146, .ref h7, .ref h8, .ref h9, .ref h10, .int x9, .int x10, .int x11, .long z147, .int z19, .int 2, .long z35, .long y2, .ref h11, .ref h12, .ref h13, .ref h14, .long y3, .int x14, .ref h15, .int x15, .int x16, .int x17, .int x18, .ref h16, .ref h17, .ref h18, .ref h19, .ref h20, .ref h21, .ref h22, .ref h23, .ref h24, .ref h25, .ref h26, .int x19, .int x20, .int x21, .int x22, .int x23, .int x24, .int x25, .long y4, .int x26, .ref h27, .ref h28, .long y5, .long y6, .int x27, .ref h29, .int x28, .ref h30, .ref h31, .ref h32, .ref h33, .int x29, .int x30, .int x31, .int x32, .ref h34, .ref h35, .int x33, .int x34, .ref h36])), (h1, .inl (gB g, 1500, .inl fn0))] 104 [(5, .int z144), (3, .long z145), (0, .ref h0), (1, .int x0), (2, .int x1)] [] := by
                intro n148
                induction n148 with
                | zero => intro z144 z145 z146 z147 i152 i153 i154 i155 j156 j157 hm151; exact absurd hm151 (Nat.not_lt_zero _)
                | succ n148 ih150 =>
                  intro z144 z145 z146 z147 i152 i153 i154 i155 j156 j157 hm151
                  obtain ⟨i152a, i152b⟩ := i152
                  obtain ⟨i153a, i153b⟩ := i153
                  obtain ⟨i154a, i154b⟩ := i154
                  obtain ⟨i155a, i155b⟩ := i155
                  refine r_iload 104 0 C dX12_index_104 rfl ?_
                  refine r_aload_n 106 2 C dX12_index_106 rfl ?_
                  refine r_get 107 C dX12_index_107 (k := 21) 0 rfl rfl hiX12 (by decide) rfl (mg 1 rfl) (Or.inl rfl) rfl ?_
                  refine r_icmp_gt 110 169 C dX12_index_110 (by decide) (fun c158 => ?_) (fun c158 => ?_)
                  · skip
                    have k159 : (Int32.toInt z19) < (Int32.toInt z144) := (fa_lt z19 z144).mp c158
                    refine r_aload_n 169 2 C dX12_index_169 rfl ?_
                    refine r_aload_n 170 2 C dX12_index_170 rfl ?_
                    refine r_get 171 C dX12_index_171 (k := 20) 0 rfl rfl hiX12 (by decide) rfl (mg 4 rfl) (Or.inl rfl) rfl ?_
                    refine r_lconst 174 1 C dX12_index_174 (by decide) ?_
                    obtain ⟨z160, ez160⟩ : ∃ z_9, z147 - 1 = z_9 := ⟨_, rfl⟩
                    have tz160 : (Int64.toInt z160) = (Int64.toInt z147) - 1 := by rw [← ez160]; exact fb_subLv (a := 0) (b := 1500) (c := 1) (d := 1) ⟨i155a, i155b⟩ ⟨by decide, by decide⟩ (by decide) (by decide)
                    refine r_lsub 175 z160 C dX12_index_175 ez160 ?_
                    refine r_put 176 C dX12_index_176 (k := 24) 0 rfl rfl hiX12 tyX12 tyX12_ok nmX12 (by decide) rfl (mg 6 rfl) (Or.inl rfl) rfl rfl rfl rfl (Nat.le_of_ble_eq_true rfl) [(h0, .inr (11, [.ref h1, .int x2, .ref h2, .int x3, .int x4, .int x5, .ref h3, .ref h4, .ref h5, .ref h6, .int x6, .int x7, .int z146, .ref h7, .ref h8, .ref h9, .ref h10, .int x9, .int x10, .int x11, .long z147, .int z19, .int 2, .long z35, .long z160, .ref h11, .ref h12, .ref h13, .ref h14, .long y3, .int x14, .ref h15, .int x15, .int x16, .int x17, .int x18, .ref h16, .ref h17, .ref h18, .ref h19, .ref h20, .ref h21, .ref h22, .ref h23, .ref h24, .ref h25, .ref h26, .int x19, .int x20, .int x21, .int x22, .int x23, .int x24, .int x25, .long y4, .int x26, .ref h27, .ref h28, .long y5, .long y6, .int x27, .ref h29, .int x28, .ref h30, .ref h31, .ref h32, .ref h33, .int x29, .int x30, .int x31, .int x32, .ref h34, .ref h35, .int x33, .int x34, .ref h36])), (h1, .inl (gB g, 1500, .inl fn0))] rfl ?_
                    refine r_aload_n 179 2 C dX12_index_179 rfl ?_
                    refine r_aload_n 180 2 C dX12_index_180 rfl ?_
                    refine r_get 181 C dX12_index_181 (k := 24) 0 rfl rfl hiX12 (by decide) rfl (mg 6 rfl) (Or.inl rfl) rfl ?_
                    refine r_lload_n 184 1 C dX12_index_184 rfl ?_
                    obtain ⟨z161, ez161⟩ : ∃ z_9, z160 + z145 = z_9 := ⟨_, rfl⟩
                    have tz161 : (Int64.toInt z161) = (Int64.toInt z160) + (Int64.toInt z145) := by rw [← ez161]; exact fb_addLv (a := (-1)) (b := 1499) (c := 0) (d := 4294967295) (iv_wide (c := (-1)) (d := 1499) (iv_sub (a := 0) (b := 1500) (c := 1) (d := 1) ⟨i155a, i155b⟩ ⟨by decide, by decide⟩ tz160) (by decide) (by decide)) ⟨i153a, i153b⟩ (by decide) (by decide)
                    refine r_ladd 185 z161 C dX12_index_185 ez161 ?_
                    refine r_put 186 C dX12_index_186 (k := 20) 0 rfl rfl hiX12 tyX12 tyX12_ok nmX12 (by decide) rfl (mg 4 rfl) (Or.inl rfl) rfl rfl rfl rfl (Nat.le_of_ble_eq_true rfl) [(h0, .inr (11, [.ref h1, .int x2, .ref h2, .int x3, .int x4, .int x5, .ref h3, .ref h4, .ref h5, .ref h6, .int x6, .int x7, .int z146, .ref h7, .ref h8, .ref h9, .ref h10, .int x9, .int x10, .int x11, .long z161, .int z19, .int 2, .long z35, .long z160, .ref h11, .ref h12, .ref h13, .ref h14, .long y3, .int x14, .ref h15, .int x15, .int x16, .int x17, .int x18, .ref h16, .ref h17, .ref h18, .ref h19, .ref h20, .ref h21, .ref h22, .ref h23, .ref h24, .ref h25, .ref h26, .int x19, .int x20, .int x21, .int x22, .int x23, .int x24, .int x25, .long y4, .int x26, .ref h27, .ref h28, .long y5, .long y6, .int x27, .ref h29, .int x28, .ref h30, .ref h31, .ref h32, .ref h33, .int x29, .int x30, .int x31, .int x32, .ref h34, .ref h35, .int x33, .int x34, .ref h36])), (h1, .inl (gB g, 1500, .inl fn0))] rfl ?_
                    refine r_aload_n 189 2 C dX12_index_189 rfl ?_
                    refine r_get 190 C dX12_index_190 (k := 20) 0 rfl rfl hiX12 (by decide) rfl (mg 4 rfl) (Or.inl rfl) rfl ?_
                    refine r_aload_n 193 2 C dX12_index_193 rfl ?_
                    refine r_get 194 C dX12_index_194 (k := 1) 0 rfl rfl hiX12 (by decide) rfl (mg 7 rfl) (Or.inl rfl) rfl ?_
                    obtain ⟨z162, ez162⟩ : ∃ z_9, Int32.toInt64 x2 = z_9 := ⟨_, rfl⟩
                    have tz162 : (Int64.toInt z162) = (Int32.toInt x2) := by rw [← ez162]; exact Int32.toInt_toInt64 _
                    refine r_i2l 197 z162 C dX12_index_197 ez162 ?_
                    obtain ⟨z163, ez163⟩ : ∃ z_9, lg_cmp z161 z162 = z_9 := ⟨_, rfl⟩
                    have l1z163 : (Int32.toInt z163) < 0 ↔ (Int64.toInt z161) < (Int64.toInt z162) := by rw [← ez163]; exact lgI1 z161 z162
                    have l2z163 : 0 < (Int32.toInt z163) ↔ (Int64.toInt z162) < (Int64.toInt z161) := by rw [← ez163]; exact lgI2 z161 z162
                    refine r_lcmp 198 z163 C dX12_index_198 ez163 ?_
                    refine r_if_le 199 210 C dX12_index_199 (by decide) (fun c164 => ?_) (fun c164 => ?_)
                    · skip
                      have k165 : (Int32.toInt z163) ≤ 0 := (fa_le z163 0).mp c164
                      have hq166 : OFF fn0 (Int64.toInt z35) 2 ((Int32.toInt z144) - 1) = OFF fn0 (Int64.toInt z35) 2 (Int32.toInt z19) := by rw [show (Int32.toInt z144) - 1 = (Int32.toInt z19) from by omega]
                      have hq167 : IX fn0 (Int64.toInt z35) 2 (Int32.toInt z19) (Int64.toInt z160) (Int32.toInt x2) := ⟨by omega, by omega, by omega, by omega, by omega, by omega, by omega, fun j_8 h_8 h_9 => (show MON fn0 (Int64.toInt z35) 2 (Int32.toInt z144) by assumption) j_8 h_8 (by omega), by omega⟩
                      refine r_iconst 210 1 C dX12_index_210 (by decide) ?_
                      refine r_goto 211 215 C dX12_index_211 (by decide) ?_
                      exact r_zret 215 Rt dX12_index_215 (by decide) (z146, z161, z19, 2, z35, z160) (show 0 ≤ (Int32.toInt 1) ∧ (Int32.toInt 1) ≤ 1 ∧ 0 ≤ (Int32.toInt z146) ∧ (Int32.toInt z146) ≤ 3 ∧ 0 ≤ (Int32.toInt z19) ∧ (Int32.toInt z19) ≤ 65535 ∧ 0 ≤ (Int32.toInt 2) ∧ (Int32.toInt 2) ≤ 255 ∧ 0 ≤ (Int64.toInt z35) ∧ (Int64.toInt z35) ≤ 1500 ∧ 0 ≤ (Int64.toInt z160) ∧ (Int64.toInt z160) ≤ 1500 ∧ (1 = 0 ∨ (Int32.toInt z19) = 0 ∨ IX fn0 (Int64.toInt z35) 2 (Int32.toInt z19) (Int64.toInt z160) (Int32.toInt x2)) ∧ ((1 = 0 ∧ 1 ≤ (Int32.toInt z146)) ∨ (1 = 1 ∧ (Int32.toInt z146) = (Int32.toInt x8) ∧ 0 ≤ (Int32.toInt z19) ∧ (Int32.toInt z19) ≤ 1500 ∧ (Int32.toInt x0) ≤ (Int32.toInt z19) ∧ (Int32.toInt z19) ≤ (Int32.toInt x1))) from ⟨(by decide), (by decide), (show _ ∧ _ from ⟨i154a, i154b⟩).1, (show _ ∧ _ from ⟨i154a, i154b⟩).2, (iv_eq ⟨p6, p7⟩ tz19).1, (iv_eq ⟨p6, p7⟩ tz19).2, (by decide), (by decide), (by first | omega | ((repeat' apply And.intro) <;> first | trivial | rfl | assumption | omega | decide | exact Or.inl rfl | exact Or.inr (Or.inl rfl) | exact Or.inr (Or.inr rfl) | exact Or.inr (Or.inr (by assumption)))), (by first | omega | ((repeat' apply And.intro) <;> first | trivial | rfl | assumption | omega | decide | exact Or.inl rfl | exact Or.inr (Or.inl rfl) | exact Or.inr (Or.inr rfl) | exact Or.inr (Or.inr (by assumption)))), (by first | omega | ((repeat' apply And.intro) <;> first | trivial | rfl | assumption | omega | decide | exact Or.inl rfl | exact Or.inr (Or.inl rfl) | exact Or.inr (Or.inr rfl) | exact Or.inr (Or.inr (by assumption)))), (by first | omega | ((repeat' apply And.intro) <;> first | trivial | rfl | assumption | omega | decide | exact Or.inl rfl | exact Or.inr (Or.inl rfl) | exact Or.inr (Or.inr rfl) | exact Or.inr (Or.inr (by assumption)))), (by first | omega | ((repeat' apply And.intro) <;> first | trivial | rfl | assumption | omega | decide | exact Or.inl rfl | exact Or.inr (Or.inl rfl) | exact Or.inr (Or.inr rfl) | exact Or.inr (Or.inr (by assumption)))), (by first | omega | ((repeat' apply And.intro) <;> first | trivial | rfl | assumption | omega | decide | exact Or.inl rfl | exact Or.inr (Or.inl rfl) | exact Or.inr (Or.inr rfl) | exact Or.inr (Or.inr (by assumption))))⟩) [0, 1] (by decide) rfl (Nat.le_of_ble_eq_true rfl) (Nat.le_of_ble_eq_true rfl)
                    · skip
                      have k168 : ¬ ((Int32.toInt z163) ≤ 0) := fun h_9 => c164 ((fa_le z163 0).mpr h_9)
                      refine r_aload_n 202 2 C dX12_index_202 rfl ?_
                      refine r_iconst 203 1 C dX12_index_203 (by decide) ?_
                      refine r_callVi 204 C dX12_index_204 [] [(h0, .inr (11, [.ref h1, .int x2, .ref h2, .int x3, .int x4, .int x5, .ref h3, .ref h4, .ref h5, .ref h6, .int x6, .int x7, .int z146, .ref h7, .ref h8, .ref h9, .ref h10, .int x9, .int x10, .int x11, .long z161, .int z19, .int 2, .long z35, .long z160, .ref h11, .ref h12, .ref h13, .ref h14, .long y3, .int x14, .ref h15, .int x15, .int x16, .int x17, .int x18, .ref h16, .ref h17, .ref h18, .ref h19, .ref h20, .ref h21, .ref h22, .ref h23, .ref h24, .ref h25, .ref h26, .int x19, .int x20, .int x21, .int x22, .int x23, .int x24, .int x25, .long y4, .int x26, .ref h27, .ref h28, .long y5, .long y6, .int x27, .ref h29, .int x28, .ref h30, .ref h31, .ref h32, .ref h33, .int x29, .int x30, .int x31, .int x32, .ref h34, .ref h35, .int x33, .int x34, .ref h36]))] [(h1, .inl (gB g, 1500, .inl fn0))] (fun sz => c17_X12_fails l g h0 1 h1 x2 h2 x3 x4 x5 h3 h4 h5 h6 x6 x7 z146 h7 h8 h9 h10 x9 x10 x11 z161 z19 2 z35 z160 h11 h12 h13 h14 y3 x14 h15 x15 x16 x17 x18 h16 h17 h18 h19 h20 h21 h22 h23 h24 h25 h26 x19 x20 x21 x22 x23 x24 x25 y4 x26 h27 h28 y5 y6 x27 h29 x28 h30 h31 h32 h33 x29 x30 x31 x32 h34 h35 x33 x34 h36 (by decide) i_x2 i_x3 i_x5 ⟨i154a, i154b⟩ i_x9 (iv_eq ⟨p6, p7⟩ tz19) (by decide) ⟨by omega, by omega⟩ ⟨by omega, by omega⟩ i_x14 i_x15 i_x16 i_x17 i_x18 i_x20 i_x21 i_x22 i_x23 i_x24 i_x26 i_x27 i_x28 i_x29 i_x30 i_x31 i_x32 i_x33 i_x34 sz) gX12_index_X12_fails rfl ⟨rfl, rfl⟩ 1 (by decide) ⟨Nat.le_of_ble_eq_true rfl, Nat.le_of_ble_eq_true rfl⟩ 0 rfl rfl [0] [1] rfl rfl (by decide) (by decide) (by decide) rfl rfl (Nat.le_of_ble_eq_true rfl) ⟨Nat.le_of_ble_eq_true rfl, Nat.le_of_ble_eq_true rfl⟩ (fun r170 z169 w171 => ?_)
                      refine r_ws [(h1, .inl (gB g, 1500, .inl fn0)), (h0, .inr (11, [.ref h1, .int x2, .ref h2, .int x3, .int x4, .int x5, .ref h3, .ref h4, .ref h5, .ref h6, .int x6, .int x7, .int z169, .ref h7, .ref h8, .ref h9, .ref h10, .int x9, .int x10, .int x11, .long z161, .int z19, .int 2, .long z35, .long z160, .ref h11, .ref h12, .ref h13, .ref h14, .long y3, .int x14, .ref h15, .int x15, .int x16, .int x17, .int x18, .ref h16, .ref h17, .ref h18, .ref h19, .ref h20, .ref h21, .ref h22, .ref h23, .ref h24, .ref h25, .ref h26, .int x19, .int x20, .int x21, .int x22, .int x23, .int x24, .int x25, .long y4, .int x26, .ref h27, .ref h28, .long y5, .long y6, .int x27, .ref h29, .int x28, .ref h30, .ref h31, .ref h32, .ref h33, .int x29, .int x30, .int x31, .int x32, .ref h34, .ref h35, .int x33, .int x34, .ref h36]))] rfl ?_
                      have p172 : 0 = r170 := (w171.1).symm
                      subst p172
                      have p173 : 0 ≤ (Int32.toInt z169) := w171.2.1
                      have p174 : (Int32.toInt z169) ≤ 3 := w171.2.2.1
                      have p175 : (1 ≤ (Int32.toInt z169)) := w171.2.2.2
                      refine r_if_eq_t 207 214 C dX12_index_207 (by decide) (by decide) ?_
                      refine r_iconst 214 0 C dX12_index_214 (by decide) ?_
                      exact r_zret 215 Rt dX12_index_215 (by decide) (z169, z161, z19, 2, z35, z160) (show 0 ≤ (Int32.toInt 0) ∧ (Int32.toInt 0) ≤ 1 ∧ 0 ≤ (Int32.toInt z169) ∧ (Int32.toInt z169) ≤ 3 ∧ 0 ≤ (Int32.toInt z19) ∧ (Int32.toInt z19) ≤ 65535 ∧ 0 ≤ (Int32.toInt 2) ∧ (Int32.toInt 2) ≤ 255 ∧ 0 ≤ (Int64.toInt z35) ∧ (Int64.toInt z35) ≤ 1500 ∧ 0 ≤ (Int64.toInt z160) ∧ (Int64.toInt z160) ≤ 1500 ∧ (0 = 0 ∨ (Int32.toInt z19) = 0 ∨ IX fn0 (Int64.toInt z35) 2 (Int32.toInt z19) (Int64.toInt z160) (Int32.toInt x2)) ∧ ((0 = 0 ∧ 1 ≤ (Int32.toInt z169)) ∨ (0 = 1 ∧ (Int32.toInt z169) = (Int32.toInt x8) ∧ 0 ≤ (Int32.toInt z19) ∧ (Int32.toInt z19) ≤ 1500 ∧ (Int32.toInt x0) ≤ (Int32.toInt z19) ∧ (Int32.toInt z19) ≤ (Int32.toInt x1))) from ⟨(by decide), (by decide), (show _ ∧ _ from ⟨p173, p174⟩).1, (show _ ∧ _ from ⟨p173, p174⟩).2, (iv_eq ⟨p6, p7⟩ tz19).1, (iv_eq ⟨p6, p7⟩ tz19).2, (by decide), (by decide), (by first | omega | ((repeat' apply And.intro) <;> first | trivial | rfl | assumption | omega | decide | exact Or.inl rfl | exact Or.inr (Or.inl rfl) | exact Or.inr (Or.inr rfl) | exact Or.inr (Or.inr (by assumption)))), (by first | omega | ((repeat' apply And.intro) <;> first | trivial | rfl | assumption | omega | decide | exact Or.inl rfl | exact Or.inr (Or.inl rfl) | exact Or.inr (Or.inr rfl) | exact Or.inr (Or.inr (by assumption)))), (by first | omega | ((repeat' apply And.intro) <;> first | trivial | rfl | assumption | omega | decide | exact Or.inl rfl | exact Or.inr (Or.inl rfl) | exact Or.inr (Or.inr rfl) | exact Or.inr (Or.inr (by assumption)))), (by first | omega | ((repeat' apply And.intro) <;> first | trivial | rfl | assumption | omega | decide | exact Or.inl rfl | exact Or.inr (Or.inl rfl) | exact Or.inr (Or.inr rfl) | exact Or.inr (Or.inr (by assumption)))), (by first | omega | ((repeat' apply And.intro) <;> first | trivial | rfl | assumption | omega | decide | exact Or.inl rfl | exact Or.inr (Or.inl rfl) | exact Or.inr (Or.inr rfl) | exact Or.inr (Or.inr (by assumption)))), (by first | omega | ((repeat' apply And.intro) <;> first | trivial | rfl | assumption | omega | decide | exact Or.inl rfl | exact Or.inr (Or.inl rfl) | exact Or.inr (Or.inr rfl) | exact Or.inr (Or.inr (by assumption))))⟩) [1, 0] (by decide) rfl (Nat.le_of_ble_eq_true rfl) (Nat.le_of_ble_eq_true rfl)
                  · skip
                    have k176 : ¬ ((Int32.toInt z19) < (Int32.toInt z144)) := fun h_9 => c158 ((fa_lt z19 z144).mpr h_9)
                    refine r_aload_n 113 2 C dX12_index_113 rfl ?_
                    refine r_aload_n 114 2 C dX12_index_114 rfl ?_
                    refine r_get 115 C dX12_index_115 (k := 22) 0 rfl rfl hiX12 (by decide) rfl (mg 3 rfl) (Or.inl rfl) rfl ?_
                    refine r_callVl 118 C dX12_index_118 [] [(h0, .inr (11, [.ref h1, .int x2, .ref h2, .int x3, .int x4, .int x5, .ref h3, .ref h4, .ref h5, .ref h6, .int x6, .int x7, .int z146, .ref h7, .ref h8, .ref h9, .ref h10, .int x9, .int x10, .int x11, .long z147, .int z19, .int 2, .long z35, .long y2, .ref h11, .ref h12, .ref h13, .ref h14, .long y3, .int x14, .ref h15, .int x15, .int x16, .int x17, .int x18, .ref h16, .ref h17, .ref h18, .ref h19, .ref h20, .ref h21, .ref h22, .ref h23, .ref h24, .ref h25, .ref h26, .int x19, .int x20, .int x21, .int x22, .int x23, .int x24, .int x25, .long y4, .int x26, .ref h27, .ref h28, .long y5, .long y6, .int x27, .ref h29, .int x28, .ref h30, .ref h31, .ref h32, .ref h33, .int x29, .int x30, .int x31, .int x32, .ref h34, .ref h35, .int x33, .int x34, .ref h36])), (h1, .inl (gB g, 1500, .inl fn0))] [] (fun sz => c44_X12_number l g h0 h1 x2 h2 x3 x4 x5 h3 h4 h5 h6 x6 x7 z146 h7 h8 h9 h10 x9 x10 x11 z147 z19 2 z35 y2 h11 h12 h13 h14 y3 x14 h15 x15 x16 x17 x18 h16 h17 h18 h19 h20 h21 h22 h23 h24 h25 h26 x19 x20 x21 x22 x23 x24 x25 y4 x26 h27 h28 y5 y6 x27 h29 x28 h30 h31 h32 h33 x29 x30 x31 x32 h34 h35 x33 x34 h36 fn0 i_x2 i_x3 i_x5 ⟨i154a, i154b⟩ i_x9 (iv_eq ⟨p6, p7⟩ tz19) (by decide) ⟨by omega, by omega⟩ i_y2 i_x14 i_x15 i_x16 i_x17 i_x18 i_x20 i_x21 i_x22 i_x23 i_x24 i_x26 i_x27 i_x28 i_x29 i_x30 i_x31 i_x32 i_x33 i_x34 sz) gX12_index_X12_number rfl ⟨rfl, rfl⟩ 1 (by decide) ⟨Nat.le_of_ble_eq_true rfl, Nat.le_of_ble_eq_true rfl⟩ 0 rfl rfl [0, 1] [] rfl rfl (by decide) (by decide) (by decide) rfl rfl (Nat.le_of_ble_eq_true rfl) ⟨Nat.le_of_ble_eq_true rfl, Nat.le_of_ble_eq_true rfl⟩ (fun r179 u181 w180 => ?_)
                    obtain ⟨z177, z178⟩ := u181
                    refine r_ws [(h0, .inr (11, [.ref h1, .int x2, .ref h2, .int x3, .int x4, .int x5, .ref h3, .ref h4, .ref h5, .ref h6, .int x6, .int x7, .int z177, .ref h7, .ref h8, .ref h9, .ref h10, .int x9, .int x10, .int x11, .long z178, .int z19, .int 2, .long z35, .long y2, .ref h11, .ref h12, .ref h13, .ref h14, .long y3, .int x14, .ref h15, .int x15, .int x16, .int x17, .int x18, .ref h16, .ref h17, .ref h18, .ref h19, .ref h20, .ref h21, .ref h22, .ref h23, .ref h24, .ref h25, .ref h26, .int x19, .int x20, .int x21, .int x22, .int x23, .int x24, .int x25, .long y4, .int x26, .ref h27, .ref h28, .long y5, .long y6, .int x27, .ref h29, .int x28, .ref h30, .ref h31, .ref h32, .ref h33, .int x29, .int x30, .int x31, .int x32, .ref h34, .ref h35, .int x33, .int x34, .ref h36])), (h1, .inl (gB g, 1500, .inl fn0))] rfl ?_
                    have gz178 := fb_rngL z178
                    have p182 : 0 ≤ (Int64.toInt r179) := w180.1
                    have p183 : (Int64.toInt r179) ≤ 65535 := w180.2.1
                    have p184 : 0 ≤ (Int32.toInt z177) := w180.2.2.1
                    have p185 : (Int32.toInt z177) ≤ 3 := w180.2.2.2.1
                    have p186 : ((1 ≤ (Int32.toInt z177)) ∨ ((Int32.toInt z146) = 0 ∧ (Int32.toInt z177) = 0 ∧ 0 ≤ (Int64.toInt z147) ∧ (Int64.toInt z147) + 2 ≤ (Int32.toInt x2) ∧ (Int64.toInt z178) = (Int64.toInt z147) + 2 ∧ (Int64.toInt r179) = B8 fn0 ((Int64.toInt z147)) * 256 + B8 fn0 ((Int64.toInt z147) + 1))) := w180.2.2.2.2
                    rcases p186 with k187 | p186
                    · skip
                      refine r_lstore 121 C dX12_index_121 [(6, .long r179), (5, .int z144), (3, .long z145), (0, .ref h0), (1, .int x0), (2, .int x1)] (by decide) rfl ?_
                      refine r_aload_n 123 3 C dX12_index_123 rfl ?_
                      refine r_get 124 C dX12_index_124 (k := 12) 0 rfl rfl hiX12 (by decide) rfl (mg 2 rfl) (Or.inl rfl) rfl ?_
                      refine r_if_le_f 127 132 C dX12_index_127 (by decide) (fun h_9 => by have h_8 : (Int32.toInt z177) ≤ 0 := (fa_le z177 0).mp h_9; omega) ?_
                      refine r_iconst 130 0 C dX12_index_130 (by decide) ?_
                      exact r_zret 131 Rt dX12_index_131 (by decide) (z177, z178, z19, 2, z35, y2) (show 0 ≤ (Int32.toInt 0) ∧ (Int32.toInt 0) ≤ 1 ∧ 0 ≤ (Int32.toInt z177) ∧ (Int32.toInt z177) ≤ 3 ∧ 0 ≤ (Int32.toInt z19) ∧ (Int32.toInt z19) ≤ 65535 ∧ 0 ≤ (Int32.toInt 2) ∧ (Int32.toInt 2) ≤ 255 ∧ 0 ≤ (Int64.toInt z35) ∧ (Int64.toInt z35) ≤ 1500 ∧ 0 ≤ (Int64.toInt y2) ∧ (Int64.toInt y2) ≤ 1500 ∧ (0 = 0 ∨ (Int32.toInt z19) = 0 ∨ IX fn0 (Int64.toInt z35) 2 (Int32.toInt z19) (Int64.toInt y2) (Int32.toInt x2)) ∧ ((0 = 0 ∧ 1 ≤ (Int32.toInt z177)) ∨ (0 = 1 ∧ (Int32.toInt z177) = (Int32.toInt x8) ∧ 0 ≤ (Int32.toInt z19) ∧ (Int32.toInt z19) ≤ 1500 ∧ (Int32.toInt x0) ≤ (Int32.toInt z19) ∧ (Int32.toInt z19) ≤ (Int32.toInt x1))) from ⟨(by decide), (by decide), (show _ ∧ _ from ⟨p184, p185⟩).1, (show _ ∧ _ from ⟨p184, p185⟩).2, (iv_eq ⟨p6, p7⟩ tz19).1, (iv_eq ⟨p6, p7⟩ tz19).2, (by decide), (by decide), (by first | omega | ((repeat' apply And.intro) <;> first | trivial | rfl | assumption | omega | decide | exact Or.inl rfl | exact Or.inr (Or.inl rfl) | exact Or.inr (Or.inr rfl) | exact Or.inr (Or.inr (by assumption)))), (by first | omega | ((repeat' apply And.intro) <;> first | trivial | rfl | assumption | omega | decide | exact Or.inl rfl | exact Or.inr (Or.inl rfl) | exact Or.inr (Or.inr rfl) | exact Or.inr (Or.inr (by assumption)))), i_y2.1, i_y2.2, (by first | omega | ((repeat' apply And.intro) <;> first | trivial | rfl | assumption | omega | decide | exact Or.inl rfl | exact Or.inr (Or.inl rfl) | exact Or.inr (Or.inr rfl) | exact Or.inr (Or.inr (by assumption)))), (by first | omega | ((repeat' apply And.intro) <;> first | trivial | rfl | assumption | omega | decide | exact Or.inl rfl | exact Or.inr (Or.inl rfl) | exact Or.inr (Or.inr rfl) | exact Or.inr (Or.inr (by assumption))))⟩) [0, 1] (by decide) rfl (Nat.le_of_ble_eq_true rfl) (Nat.le_of_ble_eq_true rfl)
                    obtain ⟨k188, k189, k190, k191, k192, k193⟩ := p186
                    refine r_lstore 121 C dX12_index_121 [(6, .long r179), (5, .int z144), (3, .long z145), (0, .ref h0), (1, .int x0), (2, .int x1)] (by decide) rfl ?_
                    refine r_aload_n 123 3 C dX12_index_123 rfl ?_
                    refine r_get 124 C dX12_index_124 (k := 12) 0 rfl rfl hiX12 (by decide) rfl (mg 2 rfl) (Or.inl rfl) rfl ?_
                    refine r_if_le_t 127 132 C dX12_index_127 (by decide) ((fa_le z177 0).mpr (by show (Int32.toInt z177) ≤ 0; omega)) ?_
                    have o194 : OFF fn0 (Int64.toInt z35) 2 (Int32.toInt z144) = (Int64.toInt r179) := offk_2 (t := (Int64.toInt z147)) (by omega) (by omega)
                    refine r_iload 132 1 C dX12_index_132 rfl ?_
                    refine r_if_ne 134 147 C dX12_index_134 (by decide) (fun c195 => ?_) (fun c195 => ?_)
                    · skip
                      have k196 : ¬ ((Int32.toInt z144) = 0) := fun h_9 => c195 ((fa_eq z144 0).mpr h_9)
                      refine r_lload 147 0 C dX12_index_147 rfl ?_
                      refine r_lload_n 149 2 C dX12_index_149 rfl ?_
                      obtain ⟨z197, ez197⟩ : ∃ z_9, lg_cmp r179 z145 = z_9 := ⟨_, rfl⟩
                      have l1z197 : (Int32.toInt z197) < 0 ↔ (Int64.toInt r179) < (Int64.toInt z145) := by rw [← ez197]; exact lgI1 r179 z145
                      have l2z197 : 0 < (Int32.toInt z197) ↔ (Int64.toInt z145) < (Int64.toInt r179) := by rw [← ez197]; exact lgI2 r179 z145
                      refine r_lcmp 150 z197 C dX12_index_150 ez197 ?_
                      refine r_if_ge 151 160 C dX12_index_151 (by decide) (fun c198 => ?_) (fun c198 => ?_)
                      · skip
                        have k199 : 0 ≤ (Int32.toInt z197) := (fa_le 0 z197).mp c198
                        refine r_lload 160 0 C dX12_index_160 rfl ?_
                        refine r_lstore_n 162 C dX12_index_162 [(3, .long r179), (6, .long r179), (5, .int z144), (0, .ref h0), (1, .int x0), (2, .int x1)] (by decide) rfl ?_
                        obtain ⟨z200, ez200⟩ : ∃ z_9, z144 + Int32.ofInt 1 = z_9 := ⟨_, rfl⟩
                        have tz200 : (Int32.toInt z200) = (Int32.toInt z144) + 1 := by rw [← ez200]; exact fb_addIv (a := 0) (b := 65536) (c := 1) (d := 1) ⟨i152a, i152b⟩ ⟨by decide, by decide⟩ (by decide) (by decide)
                        refine r_iinc 163 2 z200 C dX12_index_163 rfl ez200 [(5, .int z200), (3, .long r179), (6, .long r179), (0, .ref h0), (1, .int x0), (2, .int x1)] (by decide) rfl ?_
                        refine r_goto 166 104 C dX12_index_166 (by decide) ?_
                        refine r_lv [(5, .int z200), (3, .long r179), (0, .ref h0), (1, .int x0), (2, .int x1)] [0, 1, 3, 4, 5] rfl ?_
                        exact ih150 z200 r179 z177 z178 ⟨by omega, by omega⟩ (iv_wide (c := 0) (d := 4294967295) ⟨p182, p183⟩ (by decide) (by decide)) ⟨p184, p185⟩ ⟨by omega, by omega⟩ (by have a_1 : OFF fn0 (Int64.toInt z35) 2 ((Int32.toInt z200) - 1) = OFF fn0 (Int64.toInt z35) 2 (Int32.toInt z144) := (by rw [show (Int32.toInt z200) - 1 = (Int32.toInt z144) from by omega]); have a_2 : (Int32.toInt z144) = 0 → OFF fn0 (Int64.toInt z35) 2 (Int32.toInt z144) = OFF fn0 (Int64.toInt z35) 2 0 := (fun h_9 => by rw [h_9]); show (Int32.toInt z177) = 0 ∧ (Int64.toInt z178) = (Int64.toInt z35) + 2 * (Int32.toInt z200) ∧ (Int32.toInt z200) ≤ (Int32.toInt z19) + 1 ∧ (Int64.toInt z178) ≤ (Int32.toInt x2) ∧ (((Int32.toInt z200) = 0 ∧ (Int64.toInt r179) = 1) ∨ (1 ≤ (Int32.toInt z200) ∧ OFF fn0 (Int64.toInt z35) 2 0 = 1 ∧ (Int64.toInt r179) = OFF fn0 (Int64.toInt z35) 2 ((Int32.toInt z200) - 1))); omega) (mon_step (k := (Int32.toInt z144)) (by assumption) (by show (Int32.toInt z200) = (Int32.toInt z144) + 1; omega) (by show (Int32.toInt z144) = 0 ∨ OFF fn0 (Int64.toInt z35) 2 ((Int32.toInt z144) - 1) ≤ OFF fn0 (Int64.toInt z35) 2 (Int32.toInt z144); omega)) (by omega)
                      · skip
                        have k201 : ¬ (0 ≤ (Int32.toInt z197)) := fun h_9 => c198 ((fa_le 0 z197).mpr h_9)
                        refine r_aload_n 154 3 C dX12_index_154 rfl ?_
                        refine r_iconst 155 2 C dX12_index_155 (by decide) ?_
                        refine r_callVi 156 C dX12_index_156 [] [(h0, .inr (11, [.ref h1, .int x2, .ref h2, .int x3, .int x4, .int x5, .ref h3, .ref h4, .ref h5, .ref h6, .int x6, .int x7, .int z177, .ref h7, .ref h8, .ref h9, .ref h10, .int x9, .int x10, .int x11, .long z178, .int z19, .int 2, .long z35, .long y2, .ref h11, .ref h12, .ref h13, .ref h14, .long y3, .int x14, .ref h15, .int x15, .int x16, .int x17, .int x18, .ref h16, .ref h17, .ref h18, .ref h19, .ref h20, .ref h21, .ref h22, .ref h23, .ref h24, .ref h25, .ref h26, .int x19, .int x20, .int x21, .int x22, .int x23, .int x24, .int x25, .long y4, .int x26, .ref h27, .ref h28, .long y5, .long y6, .int x27, .ref h29, .int x28, .ref h30, .ref h31, .ref h32, .ref h33, .int x29, .int x30, .int x31, .int x32, .ref h34, .ref h35, .int x33, .int x34, .ref h36]))] [(h1, .inl (gB g, 1500, .inl fn0))] (fun sz => c17_X12_fails l g h0 2 h1 x2 h2 x3 x4 x5 h3 h4 h5 h6 x6 x7 z177 h7 h8 h9 h10 x9 x10 x11 z178 z19 2 z35 y2 h11 h12 h13 h14 y3 x14 h15 x15 x16 x17 x18 h16 h17 h18 h19 h20 h21 h22 h23 h24 h25 h26 x19 x20 x21 x22 x23 x24 x25 y4 x26 h27 h28 y5 y6 x27 h29 x28 h30 h31 h32 h33 x29 x30 x31 x32 h34 h35 x33 x34 h36 (by decide) i_x2 i_x3 i_x5 ⟨p184, p185⟩ i_x9 (iv_eq ⟨p6, p7⟩ tz19) (by decide) ⟨by omega, by omega⟩ i_y2 i_x14 i_x15 i_x16 i_x17 i_x18 i_x20 i_x21 i_x22 i_x23 i_x24 i_x26 i_x27 i_x28 i_x29 i_x30 i_x31 i_x32 i_x33 i_x34 sz) gX12_index_X12_fails rfl ⟨rfl, rfl⟩ 1 (by decide) ⟨Nat.le_of_ble_eq_true rfl, Nat.le_of_ble_eq_true rfl⟩ 0 rfl rfl [0] [1] rfl rfl (by decide) (by decide) (by decide) rfl rfl (Nat.le_of_ble_eq_true rfl) ⟨Nat.le_of_ble_eq_true rfl, Nat.le_of_ble_eq_true rfl⟩ (fun r203 z202 w204 => ?_)
                        refine r_ws [(h1, .inl (gB g, 1500, .inl fn0)), (h0, .inr (11, [.ref h1, .int x2, .ref h2, .int x3, .int x4, .int x5, .ref h3, .ref h4, .ref h5, .ref h6, .int x6, .int x7, .int z202, .ref h7, .ref h8, .ref h9, .ref h10, .int x9, .int x10, .int x11, .long z178, .int z19, .int 2, .long z35, .long y2, .ref h11, .ref h12, .ref h13, .ref h14, .long y3, .int x14, .ref h15, .int x15, .int x16, .int x17, .int x18, .ref h16, .ref h17, .ref h18, .ref h19, .ref h20, .ref h21, .ref h22, .ref h23, .ref h24, .ref h25, .ref h26, .int x19, .int x20, .int x21, .int x22, .int x23, .int x24, .int x25, .long y4, .int x26, .ref h27, .ref h28, .long y5, .long y6, .int x27, .ref h29, .int x28, .ref h30, .ref h31, .ref h32, .ref h33, .int x29, .int x30, .int x31, .int x32, .ref h34, .ref h35, .int x33, .int x34, .ref h36]))] rfl ?_
                        have p205 : 0 = r203 := (w204.1).symm
                        subst p205
                        have p206 : 0 ≤ (Int32.toInt z202) := w204.2.1
                        have p207 : (Int32.toInt z202) ≤ 3 := w204.2.2.1
                        have p208 : (1 ≤ (Int32.toInt z202)) := w204.2.2.2
                        exact r_zret 159 Rt dX12_index_159 (by decide) (z202, z178, z19, 2, z35, y2) (show 0 ≤ (Int32.toInt 0) ∧ (Int32.toInt 0) ≤ 1 ∧ 0 ≤ (Int32.toInt z202) ∧ (Int32.toInt z202) ≤ 3 ∧ 0 ≤ (Int32.toInt z19) ∧ (Int32.toInt z19) ≤ 65535 ∧ 0 ≤ (Int32.toInt 2) ∧ (Int32.toInt 2) ≤ 255 ∧ 0 ≤ (Int64.toInt z35) ∧ (Int64.toInt z35) ≤ 1500 ∧ 0 ≤ (Int64.toInt y2) ∧ (Int64.toInt y2) ≤ 1500 ∧ (0 = 0 ∨ (Int32.toInt z19) = 0 ∨ IX fn0 (Int64.toInt z35) 2 (Int32.toInt z19) (Int64.toInt y2) (Int32.toInt x2)) ∧ ((0 = 0 ∧ 1 ≤ (Int32.toInt z202)) ∨ (0 = 1 ∧ (Int32.toInt z202) = (Int32.toInt x8) ∧ 0 ≤ (Int32.toInt z19) ∧ (Int32.toInt z19) ≤ 1500 ∧ (Int32.toInt x0) ≤ (Int32.toInt z19) ∧ (Int32.toInt z19) ≤ (Int32.toInt x1))) from ⟨(by decide), (by decide), (show _ ∧ _ from ⟨p206, p207⟩).1, (show _ ∧ _ from ⟨p206, p207⟩).2, (iv_eq ⟨p6, p7⟩ tz19).1, (iv_eq ⟨p6, p7⟩ tz19).2, (by decide), (by decide), (by first | omega | ((repeat' apply And.intro) <;> first | trivial | rfl | assumption | omega | decide | exact Or.inl rfl | exact Or.inr (Or.inl rfl) | exact Or.inr (Or.inr rfl) | exact Or.inr (Or.inr (by assumption)))), (by first | omega | ((repeat' apply And.intro) <;> first | trivial | rfl | assumption | omega | decide | exact Or.inl rfl | exact Or.inr (Or.inl rfl) | exact Or.inr (Or.inr rfl) | exact Or.inr (Or.inr (by assumption)))), i_y2.1, i_y2.2, (by first | omega | ((repeat' apply And.intro) <;> first | trivial | rfl | assumption | omega | decide | exact Or.inl rfl | exact Or.inr (Or.inl rfl) | exact Or.inr (Or.inr rfl) | exact Or.inr (Or.inr (by assumption)))), (by first | omega | ((repeat' apply And.intro) <;> first | trivial | rfl | assumption | omega | decide | exact Or.inl rfl | exact Or.inr (Or.inl rfl) | exact Or.inr (Or.inr rfl) | exact Or.inr (Or.inr (by assumption))))⟩) [1, 0] (by decide) rfl (Nat.le_of_ble_eq_true rfl) (Nat.le_of_ble_eq_true rfl)
                    · skip
                      have k209 : (Int32.toInt z144) = 0 := (fa_eq z144 0).mp c195
                      refine r_lload 137 0 C dX12_index_137 rfl ?_
                      refine r_lconst 139 1 C dX12_index_139 (by decide) ?_
                      obtain ⟨z210, ez210⟩ : ∃ z_9, lg_cmp r179 1 = z_9 := ⟨_, rfl⟩
                      have l1z210 : (Int32.toInt z210) < 0 ↔ (Int64.toInt r179) < 1 := by rw [← ez210]; exact lgI1 r179 1
                      have l2z210 : 0 < (Int32.toInt z210) ↔ 1 < (Int64.toInt r179) := by rw [← ez210]; exact lgI2 r179 1
                      refine r_lcmp 140 z210 C dX12_index_140 ez210 ?_
                      refine r_if_eq 141 160 C dX12_index_141 (by decide) (fun c211 => ?_) (fun c211 => ?_)
                      · skip
                        have k212 : (Int32.toInt z210) = 0 := (fa_eq z210 0).mp c211
                        refine r_lload 160 0 C dX12_index_160 rfl ?_
                        refine r_lstore_n 162 C dX12_index_162 [(3, .long r179), (6, .long r179), (5, .int z144), (0, .ref h0), (1, .int x0), (2, .int x1)] (by decide) rfl ?_
                        obtain ⟨z213, ez213⟩ : ∃ z_9, z144 + Int32.ofInt 1 = z_9 := ⟨_, rfl⟩
                        have tz213 : (Int32.toInt z213) = (Int32.toInt z144) + 1 := by rw [← ez213]; exact fb_addIv (a := 0) (b := 65536) (c := 1) (d := 1) ⟨i152a, i152b⟩ ⟨by decide, by decide⟩ (by decide) (by decide)
                        refine r_iinc 163 2 z213 C dX12_index_163 rfl ez213 [(5, .int z213), (3, .long r179), (6, .long r179), (0, .ref h0), (1, .int x0), (2, .int x1)] (by decide) rfl ?_
                        refine r_goto 166 104 C dX12_index_166 (by decide) ?_
                        refine r_lv [(5, .int z213), (3, .long r179), (0, .ref h0), (1, .int x0), (2, .int x1)] [0, 1, 3, 4, 5] rfl ?_
                        exact ih150 z213 r179 z177 z178 ⟨by omega, by omega⟩ (iv_wide (c := 0) (d := 4294967295) ⟨p182, p183⟩ (by decide) (by decide)) ⟨p184, p185⟩ ⟨by omega, by omega⟩ (by have a_1 : OFF fn0 (Int64.toInt z35) 2 ((Int32.toInt z213) - 1) = OFF fn0 (Int64.toInt z35) 2 (Int32.toInt z144) := (by rw [show (Int32.toInt z213) - 1 = (Int32.toInt z144) from by omega]); have a_2 : (Int32.toInt z144) = 0 → OFF fn0 (Int64.toInt z35) 2 (Int32.toInt z144) = OFF fn0 (Int64.toInt z35) 2 0 := (fun h_9 => by rw [h_9]); show (Int32.toInt z177) = 0 ∧ (Int64.toInt z178) = (Int64.toInt z35) + 2 * (Int32.toInt z213) ∧ (Int32.toInt z213) ≤ (Int32.toInt z19) + 1 ∧ (Int64.toInt z178) ≤ (Int32.toInt x2) ∧ (((Int32.toInt z213) = 0 ∧ (Int64.toInt r179) = 1) ∨ (1 ≤ (Int32.toInt z213) ∧ OFF fn0 (Int64.toInt z35) 2 0 = 1 ∧ (Int64.toInt r179) = OFF fn0 (Int64.toInt z35) 2 ((Int32.toInt z213) - 1))); omega) (mon_step (k := (Int32.toInt z144)) (by assumption) (by show (Int32.toInt z213) = (Int32.toInt z144) + 1; omega) (by show (Int32.toInt z144) = 0 ∨ OFF fn0 (Int64.toInt z35) 2 ((Int32.toInt z144) - 1) ≤ OFF fn0 (Int64.toInt z35) 2 (Int32.toInt z144); omega)) (by omega)
                      · skip
                        have k214 : ¬ ((Int32.toInt z210) = 0) := fun h_9 => c211 ((fa_eq z210 0).mpr h_9)
                        refine r_goto 144 154 C dX12_index_144 (by decide) ?_
                        refine r_aload_n 154 3 C dX12_index_154 rfl ?_
                        refine r_iconst 155 2 C dX12_index_155 (by decide) ?_
                        refine r_callVi 156 C dX12_index_156 [] [(h0, .inr (11, [.ref h1, .int x2, .ref h2, .int x3, .int x4, .int x5, .ref h3, .ref h4, .ref h5, .ref h6, .int x6, .int x7, .int z177, .ref h7, .ref h8, .ref h9, .ref h10, .int x9, .int x10, .int x11, .long z178, .int z19, .int 2, .long z35, .long y2, .ref h11, .ref h12, .ref h13, .ref h14, .long y3, .int x14, .ref h15, .int x15, .int x16, .int x17, .int x18, .ref h16, .ref h17, .ref h18, .ref h19, .ref h20, .ref h21, .ref h22, .ref h23, .ref h24, .ref h25, .ref h26, .int x19, .int x20, .int x21, .int x22, .int x23, .int x24, .int x25, .long y4, .int x26, .ref h27, .ref h28, .long y5, .long y6, .int x27, .ref h29, .int x28, .ref h30, .ref h31, .ref h32, .ref h33, .int x29, .int x30, .int x31, .int x32, .ref h34, .ref h35, .int x33, .int x34, .ref h36]))] [(h1, .inl (gB g, 1500, .inl fn0))] (fun sz => c17_X12_fails l g h0 2 h1 x2 h2 x3 x4 x5 h3 h4 h5 h6 x6 x7 z177 h7 h8 h9 h10 x9 x10 x11 z178 z19 2 z35 y2 h11 h12 h13 h14 y3 x14 h15 x15 x16 x17 x18 h16 h17 h18 h19 h20 h21 h22 h23 h24 h25 h26 x19 x20 x21 x22 x23 x24 x25 y4 x26 h27 h28 y5 y6 x27 h29 x28 h30 h31 h32 h33 x29 x30 x31 x32 h34 h35 x33 x34 h36 (by decide) i_x2 i_x3 i_x5 ⟨p184, p185⟩ i_x9 (iv_eq ⟨p6, p7⟩ tz19) (by decide) ⟨by omega, by omega⟩ i_y2 i_x14 i_x15 i_x16 i_x17 i_x18 i_x20 i_x21 i_x22 i_x23 i_x24 i_x26 i_x27 i_x28 i_x29 i_x30 i_x31 i_x32 i_x33 i_x34 sz) gX12_index_X12_fails rfl ⟨rfl, rfl⟩ 1 (by decide) ⟨Nat.le_of_ble_eq_true rfl, Nat.le_of_ble_eq_true rfl⟩ 0 rfl rfl [0] [1] rfl rfl (by decide) (by decide) (by decide) rfl rfl (Nat.le_of_ble_eq_true rfl) ⟨Nat.le_of_ble_eq_true rfl, Nat.le_of_ble_eq_true rfl⟩ (fun r216 z215 w217 => ?_)
                        refine r_ws [(h1, .inl (gB g, 1500, .inl fn0)), (h0, .inr (11, [.ref h1, .int x2, .ref h2, .int x3, .int x4, .int x5, .ref h3, .ref h4, .ref h5, .ref h6, .int x6, .int x7, .int z215, .ref h7, .ref h8, .ref h9, .ref h10, .int x9, .int x10, .int x11, .long z178, .int z19, .int 2, .long z35, .long y2, .ref h11, .ref h12, .ref h13, .ref h14, .long y3, .int x14, .ref h15, .int x15, .int x16, .int x17, .int x18, .ref h16, .ref h17, .ref h18, .ref h19, .ref h20, .ref h21, .ref h22, .ref h23, .ref h24, .ref h25, .ref h26, .int x19, .int x20, .int x21, .int x22, .int x23, .int x24, .int x25, .long y4, .int x26, .ref h27, .ref h28, .long y5, .long y6, .int x27, .ref h29, .int x28, .ref h30, .ref h31, .ref h32, .ref h33, .int x29, .int x30, .int x31, .int x32, .ref h34, .ref h35, .int x33, .int x34, .ref h36]))] rfl ?_
                        have p218 : 0 = r216 := (w217.1).symm
                        subst p218
                        have p219 : 0 ≤ (Int32.toInt z215) := w217.2.1
                        have p220 : (Int32.toInt z215) ≤ 3 := w217.2.2.1
                        have p221 : (1 ≤ (Int32.toInt z215)) := w217.2.2.2
                        exact r_zret 159 Rt dX12_index_159 (by decide) (z215, z178, z19, 2, z35, y2) (show 0 ≤ (Int32.toInt 0) ∧ (Int32.toInt 0) ≤ 1 ∧ 0 ≤ (Int32.toInt z215) ∧ (Int32.toInt z215) ≤ 3 ∧ 0 ≤ (Int32.toInt z19) ∧ (Int32.toInt z19) ≤ 65535 ∧ 0 ≤ (Int32.toInt 2) ∧ (Int32.toInt 2) ≤ 255 ∧ 0 ≤ (Int64.toInt z35) ∧ (Int64.toInt z35) ≤ 1500 ∧ 0 ≤ (Int64.toInt y2) ∧ (Int64.toInt y2) ≤ 1500 ∧ (0 = 0 ∨ (Int32.toInt z19) = 0 ∨ IX fn0 (Int64.toInt z35) 2 (Int32.toInt z19) (Int64.toInt y2) (Int32.toInt x2)) ∧ ((0 = 0 ∧ 1 ≤ (Int32.toInt z215)) ∨ (0 = 1 ∧ (Int32.toInt z215) = (Int32.toInt x8) ∧ 0 ≤ (Int32.toInt z19) ∧ (Int32.toInt z19) ≤ 1500 ∧ (Int32.toInt x0) ≤ (Int32.toInt z19) ∧ (Int32.toInt z19) ≤ (Int32.toInt x1))) from ⟨(by decide), (by decide), (show _ ∧ _ from ⟨p219, p220⟩).1, (show _ ∧ _ from ⟨p219, p220⟩).2, (iv_eq ⟨p6, p7⟩ tz19).1, (iv_eq ⟨p6, p7⟩ tz19).2, (by decide), (by decide), (by first | omega | ((repeat' apply And.intro) <;> first | trivial | rfl | assumption | omega | decide | exact Or.inl rfl | exact Or.inr (Or.inl rfl) | exact Or.inr (Or.inr rfl) | exact Or.inr (Or.inr (by assumption)))), (by first | omega | ((repeat' apply And.intro) <;> first | trivial | rfl | assumption | omega | decide | exact Or.inl rfl | exact Or.inr (Or.inl rfl) | exact Or.inr (Or.inr rfl) | exact Or.inr (Or.inr (by assumption)))), i_y2.1, i_y2.2, (by first | omega | ((repeat' apply And.intro) <;> first | trivial | rfl | assumption | omega | decide | exact Or.inl rfl | exact Or.inr (Or.inl rfl) | exact Or.inr (Or.inr rfl) | exact Or.inr (Or.inr (by assumption)))), (by first | omega | ((repeat' apply And.intro) <;> first | trivial | rfl | assumption | omega | decide | exact Or.inl rfl | exact Or.inr (Or.inl rfl) | exact Or.inr (Or.inr rfl) | exact Or.inr (Or.inr (by assumption))))⟩) [1, 0] (by decide) rfl (Nat.le_of_ble_eq_true rfl) (Nat.le_of_ble_eq_true rfl)
              exact lp149 _ 0 1 z34 z35 (by decide) (by decide) ⟨p41, p42⟩ ⟨by omega, by omega⟩ (by show (Int32.toInt z34) = 0 ∧ (Int64.toInt z35) = (Int64.toInt z35) + 2 * (0 : Int) ∧ (0 : Int) ≤ (Int32.toInt z19) + 1 ∧ (Int64.toInt z35) ≤ (Int32.toInt x2) ∧ (((0 : Int) = 0 ∧ (1 : Int) = 1) ∨ (1 ≤ (0 : Int) ∧ OFF fn0 (Int64.toInt z35) 2 0 = 1 ∧ (1 : Int) = OFF fn0 (Int64.toInt z35) 2 ((0 : Int) - 1))); omega) (mon_0 (k := 0) (by decide)) (Nat.lt_succ_self _)
            · skip
              obtain rfl : z52 = 3 := Int32.toInt_inj.mp (by show (Int32.toInt z52) = 3; omega)
              refine r_aload_n 91 0 C dX12_index_91 rfl ?_
              refine r_aload_n 92 0 C dX12_index_92 rfl ?_
              refine r_get 93 C dX12_index_93 (k := 20) 0 rfl rfl hiX12 (by decide) rfl (mg 4 rfl) (Or.inl rfl) rfl ?_
              refine r_put 96 C dX12_index_96 (k := 23) 0 rfl rfl hiX12 tyX12 tyX12_ok nmX12 (by decide) rfl (mg 5 rfl) (Or.inl rfl) rfl rfl rfl rfl (Nat.le_of_ble_eq_true rfl) [(h0, .inr (11, [.ref h1, .int x2, .ref h2, .int x3, .int x4, .int x5, .ref h3, .ref h4, .ref h5, .ref h6, .int x6, .int x7, .int z34, .ref h7, .ref h8, .ref h9, .ref h10, .int x9, .int x10, .int x11, .long z35, .int z19, .int 3, .long z35, .long y2, .ref h11, .ref h12, .ref h13, .ref h14, .long y3, .int x14, .ref h15, .int x15, .int x16, .int x17, .int x18, .ref h16, .ref h17, .ref h18, .ref h19, .ref h20, .ref h21, .ref h22, .ref h23, .ref h24, .ref h25, .ref h26, .int x19, .int x20, .int x21, .int x22, .int x23, .int x24, .int x25, .long y4, .int x26, .ref h27, .ref h28, .long y5, .long y6, .int x27, .ref h29, .int x28, .ref h30, .ref h31, .ref h32, .ref h33, .int x29, .int x30, .int x31, .int x32, .ref h34, .ref h35, .int x33, .int x34, .ref h36])), (h1, .inl (gB g, 1500, .inl fn0))] rfl ?_
              refine r_lconst 99 1 C dX12_index_99 (by decide) ?_
              refine r_lstore_n 100 C dX12_index_100 [(3, .long 1), (0, .ref h0), (1, .int x0), (2, .int x1)] (by decide) rfl ?_
              refine r_iconst 101 0 C dX12_index_101 (by decide) ?_
              refine r_istore 102 C dX12_index_102 [(5, .int 0), (3, .long 1), (0, .ref h0), (1, .int x0), (2, .int x1)] (by decide) rfl ?_
              have lp227 : ∀ (n226 : Nat) (z222 : Int32) (z223 : Int64) (z224 : Int32) (z225 : Int64), (0 ≤ (Int32.toInt z222) ∧ (Int32.toInt z222) ≤ 65536) → (0 ≤ (Int64.toInt z223) ∧ (Int64.toInt z223) ≤ 4294967295) → (0 ≤ (Int32.toInt z224) ∧ (Int32.toInt z224) ≤ 3) → (0 ≤ (Int64.toInt z225) ∧ (Int64.toInt z225) ≤ 1500) → ((Int32.toInt z224) = 0 ∧ (Int64.toInt z225) = (Int64.toInt z35) + 3 * (Int32.toInt z222) ∧ (Int32.toInt z222) ≤ (Int32.toInt z19) + 1 ∧ (Int64.toInt z225) ≤ (Int32.toInt x2) ∧ (((Int32.toInt z222) = 0 ∧ (Int64.toInt z223) = 1) ∨ (1 ≤ (Int32.toInt z222) ∧ OFF fn0 (Int64.toInt z35) 3 0 = 1 ∧ (Int64.toInt z223) = OFF fn0 (Int64.toInt z35) 3 ((Int32.toInt z222) - 1)))) → (MON fn0 (Int64.toInt z35) 3 (Int32.toInt z222)) → Int.toNat (65536 - (Int32.toInt z222)) < n226 → WW p l e ({ frames := 2, cells := 0, slots := 0, locals := 46 } : Room) s m args below meth c A Q g 8 0 0 [(h0, .inr (11, [.ref h1, .int x2, .ref h2, .int x3, .int x4, .int x5, .ref h3, .ref h4, .ref h5, .ref h6, .int x6, .int x7, .int z224, .ref h7, .ref h8, .ref h9, .ref h10, .int x9, .int x10, .int x11, .long z225, .int z19, .int 3, .long z35, .long y2, .ref h11, .ref h12, .ref h13, .ref h14, .long y3, .int x14, .ref h15, .int x15, .int x16, .int x17, .int x18, .ref h16, .ref h17, .ref h18, .ref h19, .ref h20, .ref h21, .ref h22, .ref h23, .ref h24, .ref h25, .ref h26, .int x19, .int x20, .int x21, .int x22, .int x23, .int x24, .int x25, .long y4, .int x26, .ref h27, .ref h28, .long y5, .long y6, .int x27, .ref h29, .int x28, .ref h30, .ref h31, .ref h32, .ref h33, .int x29, .int x30, .int x31, .int x32, .ref h34, .ref h35, .int x33, .int x34, .ref h36])), (h1, .inl (gB g, 1500, .inl fn0))] 104 [(5, .int z222), (3, .long z223), (0, .ref h0), (1, .int x0), (2, .int x1)] [] := by
                intro n226
                induction n226 with
                | zero => intro z222 z223 z224 z225 i230 i231 i232 i233 j234 j235 hm229; exact absurd hm229 (Nat.not_lt_zero _)
                | succ n226 ih228 =>
                  intro z222 z223 z224 z225 i230 i231 i232 i233 j234 j235 hm229
                  obtain ⟨i230a, i230b⟩ := i230
                  obtain ⟨i231a, i231b⟩ := i231
                  obtain ⟨i232a, i232b⟩ := i232
                  obtain ⟨i233a, i233b⟩ := i233
                  refine r_iload 104 0 C dX12_index_104 rfl ?_
                  refine r_aload_n 106 2 C dX12_index_106 rfl ?_
                  refine r_get 107 C dX12_index_107 (k := 21) 0 rfl rfl hiX12 (by decide) rfl (mg 1 rfl) (Or.inl rfl) rfl ?_
                  refine r_icmp_gt 110 169 C dX12_index_110 (by decide) (fun c236 => ?_) (fun c236 => ?_)
                  · skip
                    have k237 : (Int32.toInt z19) < (Int32.toInt z222) := (fa_lt z19 z222).mp c236
                    refine r_aload_n 169 2 C dX12_index_169 rfl ?_
                    refine r_aload_n 170 2 C dX12_index_170 rfl ?_
                    refine r_get 171 C dX12_index_171 (k := 20) 0 rfl rfl hiX12 (by decide) rfl (mg 4 rfl) (Or.inl rfl) rfl ?_
                    refine r_lconst 174 1 C dX12_index_174 (by decide) ?_
                    obtain ⟨z238, ez238⟩ : ∃ z_9, z225 - 1 = z_9 := ⟨_, rfl⟩
                    have tz238 : (Int64.toInt z238) = (Int64.toInt z225) - 1 := by rw [← ez238]; exact fb_subLv (a := 0) (b := 1500) (c := 1) (d := 1) ⟨i233a, i233b⟩ ⟨by decide, by decide⟩ (by decide) (by decide)
                    refine r_lsub 175 z238 C dX12_index_175 ez238 ?_
                    refine r_put 176 C dX12_index_176 (k := 24) 0 rfl rfl hiX12 tyX12 tyX12_ok nmX12 (by decide) rfl (mg 6 rfl) (Or.inl rfl) rfl rfl rfl rfl (Nat.le_of_ble_eq_true rfl) [(h0, .inr (11, [.ref h1, .int x2, .ref h2, .int x3, .int x4, .int x5, .ref h3, .ref h4, .ref h5, .ref h6, .int x6, .int x7, .int z224, .ref h7, .ref h8, .ref h9, .ref h10, .int x9, .int x10, .int x11, .long z225, .int z19, .int 3, .long z35, .long z238, .ref h11, .ref h12, .ref h13, .ref h14, .long y3, .int x14, .ref h15, .int x15, .int x16, .int x17, .int x18, .ref h16, .ref h17, .ref h18, .ref h19, .ref h20, .ref h21, .ref h22, .ref h23, .ref h24, .ref h25, .ref h26, .int x19, .int x20, .int x21, .int x22, .int x23, .int x24, .int x25, .long y4, .int x26, .ref h27, .ref h28, .long y5, .long y6, .int x27, .ref h29, .int x28, .ref h30, .ref h31, .ref h32, .ref h33, .int x29, .int x30, .int x31, .int x32, .ref h34, .ref h35, .int x33, .int x34, .ref h36])), (h1, .inl (gB g, 1500, .inl fn0))] rfl ?_
                    refine r_aload_n 179 2 C dX12_index_179 rfl ?_
                    refine r_aload_n 180 2 C dX12_index_180 rfl ?_
                    refine r_get 181 C dX12_index_181 (k := 24) 0 rfl rfl hiX12 (by decide) rfl (mg 6 rfl) (Or.inl rfl) rfl ?_
                    refine r_lload_n 184 1 C dX12_index_184 rfl ?_
                    obtain ⟨z239, ez239⟩ : ∃ z_9, z238 + z223 = z_9 := ⟨_, rfl⟩
                    have tz239 : (Int64.toInt z239) = (Int64.toInt z238) + (Int64.toInt z223) := by rw [← ez239]; exact fb_addLv (a := (-1)) (b := 1499) (c := 0) (d := 4294967295) (iv_wide (c := (-1)) (d := 1499) (iv_sub (a := 0) (b := 1500) (c := 1) (d := 1) ⟨i233a, i233b⟩ ⟨by decide, by decide⟩ tz238) (by decide) (by decide)) ⟨i231a, i231b⟩ (by decide) (by decide)
                    refine r_ladd 185 z239 C dX12_index_185 ez239 ?_
                    refine r_put 186 C dX12_index_186 (k := 20) 0 rfl rfl hiX12 tyX12 tyX12_ok nmX12 (by decide) rfl (mg 4 rfl) (Or.inl rfl) rfl rfl rfl rfl (Nat.le_of_ble_eq_true rfl) [(h0, .inr (11, [.ref h1, .int x2, .ref h2, .int x3, .int x4, .int x5, .ref h3, .ref h4, .ref h5, .ref h6, .int x6, .int x7, .int z224, .ref h7, .ref h8, .ref h9, .ref h10, .int x9, .int x10, .int x11, .long z239, .int z19, .int 3, .long z35, .long z238, .ref h11, .ref h12, .ref h13, .ref h14, .long y3, .int x14, .ref h15, .int x15, .int x16, .int x17, .int x18, .ref h16, .ref h17, .ref h18, .ref h19, .ref h20, .ref h21, .ref h22, .ref h23, .ref h24, .ref h25, .ref h26, .int x19, .int x20, .int x21, .int x22, .int x23, .int x24, .int x25, .long y4, .int x26, .ref h27, .ref h28, .long y5, .long y6, .int x27, .ref h29, .int x28, .ref h30, .ref h31, .ref h32, .ref h33, .int x29, .int x30, .int x31, .int x32, .ref h34, .ref h35, .int x33, .int x34, .ref h36])), (h1, .inl (gB g, 1500, .inl fn0))] rfl ?_
                    refine r_aload_n 189 2 C dX12_index_189 rfl ?_
                    refine r_get 190 C dX12_index_190 (k := 20) 0 rfl rfl hiX12 (by decide) rfl (mg 4 rfl) (Or.inl rfl) rfl ?_
                    refine r_aload_n 193 2 C dX12_index_193 rfl ?_
                    refine r_get 194 C dX12_index_194 (k := 1) 0 rfl rfl hiX12 (by decide) rfl (mg 7 rfl) (Or.inl rfl) rfl ?_
                    obtain ⟨z240, ez240⟩ : ∃ z_9, Int32.toInt64 x2 = z_9 := ⟨_, rfl⟩
                    have tz240 : (Int64.toInt z240) = (Int32.toInt x2) := by rw [← ez240]; exact Int32.toInt_toInt64 _
                    refine r_i2l 197 z240 C dX12_index_197 ez240 ?_
                    obtain ⟨z241, ez241⟩ : ∃ z_9, lg_cmp z239 z240 = z_9 := ⟨_, rfl⟩
                    have l1z241 : (Int32.toInt z241) < 0 ↔ (Int64.toInt z239) < (Int64.toInt z240) := by rw [← ez241]; exact lgI1 z239 z240
                    have l2z241 : 0 < (Int32.toInt z241) ↔ (Int64.toInt z240) < (Int64.toInt z239) := by rw [← ez241]; exact lgI2 z239 z240
                    refine r_lcmp 198 z241 C dX12_index_198 ez241 ?_
                    refine r_if_le 199 210 C dX12_index_199 (by decide) (fun c242 => ?_) (fun c242 => ?_)
                    · skip
                      have k243 : (Int32.toInt z241) ≤ 0 := (fa_le z241 0).mp c242
                      have hq244 : OFF fn0 (Int64.toInt z35) 3 ((Int32.toInt z222) - 1) = OFF fn0 (Int64.toInt z35) 3 (Int32.toInt z19) := by rw [show (Int32.toInt z222) - 1 = (Int32.toInt z19) from by omega]
                      have hq245 : IX fn0 (Int64.toInt z35) 3 (Int32.toInt z19) (Int64.toInt z238) (Int32.toInt x2) := ⟨by omega, by omega, by omega, by omega, by omega, by omega, by omega, fun j_8 h_8 h_9 => (show MON fn0 (Int64.toInt z35) 3 (Int32.toInt z222) by assumption) j_8 h_8 (by omega), by omega⟩
                      refine r_iconst 210 1 C dX12_index_210 (by decide) ?_
                      refine r_goto 211 215 C dX12_index_211 (by decide) ?_
                      exact r_zret 215 Rt dX12_index_215 (by decide) (z224, z239, z19, 3, z35, z238) (show 0 ≤ (Int32.toInt 1) ∧ (Int32.toInt 1) ≤ 1 ∧ 0 ≤ (Int32.toInt z224) ∧ (Int32.toInt z224) ≤ 3 ∧ 0 ≤ (Int32.toInt z19) ∧ (Int32.toInt z19) ≤ 65535 ∧ 0 ≤ (Int32.toInt 3) ∧ (Int32.toInt 3) ≤ 255 ∧ 0 ≤ (Int64.toInt z35) ∧ (Int64.toInt z35) ≤ 1500 ∧ 0 ≤ (Int64.toInt z238) ∧ (Int64.toInt z238) ≤ 1500 ∧ (1 = 0 ∨ (Int32.toInt z19) = 0 ∨ IX fn0 (Int64.toInt z35) 3 (Int32.toInt z19) (Int64.toInt z238) (Int32.toInt x2)) ∧ ((1 = 0 ∧ 1 ≤ (Int32.toInt z224)) ∨ (1 = 1 ∧ (Int32.toInt z224) = (Int32.toInt x8) ∧ 0 ≤ (Int32.toInt z19) ∧ (Int32.toInt z19) ≤ 1500 ∧ (Int32.toInt x0) ≤ (Int32.toInt z19) ∧ (Int32.toInt z19) ≤ (Int32.toInt x1))) from ⟨(by decide), (by decide), (show _ ∧ _ from ⟨i232a, i232b⟩).1, (show _ ∧ _ from ⟨i232a, i232b⟩).2, (iv_eq ⟨p6, p7⟩ tz19).1, (iv_eq ⟨p6, p7⟩ tz19).2, (by decide), (by decide), (by first | omega | ((repeat' apply And.intro) <;> first | trivial | rfl | assumption | omega | decide | exact Or.inl rfl | exact Or.inr (Or.inl rfl) | exact Or.inr (Or.inr rfl) | exact Or.inr (Or.inr (by assumption)))), (by first | omega | ((repeat' apply And.intro) <;> first | trivial | rfl | assumption | omega | decide | exact Or.inl rfl | exact Or.inr (Or.inl rfl) | exact Or.inr (Or.inr rfl) | exact Or.inr (Or.inr (by assumption)))), (by first | omega | ((repeat' apply And.intro) <;> first | trivial | rfl | assumption | omega | decide | exact Or.inl rfl | exact Or.inr (Or.inl rfl) | exact Or.inr (Or.inr rfl) | exact Or.inr (Or.inr (by assumption)))), (by first | omega | ((repeat' apply And.intro) <;> first | trivial | rfl | assumption | omega | decide | exact Or.inl rfl | exact Or.inr (Or.inl rfl) | exact Or.inr (Or.inr rfl) | exact Or.inr (Or.inr (by assumption)))), (by first | omega | ((repeat' apply And.intro) <;> first | trivial | rfl | assumption | omega | decide | exact Or.inl rfl | exact Or.inr (Or.inl rfl) | exact Or.inr (Or.inr rfl) | exact Or.inr (Or.inr (by assumption)))), (by first | omega | ((repeat' apply And.intro) <;> first | trivial | rfl | assumption | omega | decide | exact Or.inl rfl | exact Or.inr (Or.inl rfl) | exact Or.inr (Or.inr rfl) | exact Or.inr (Or.inr (by assumption))))⟩) [0, 1] (by decide) rfl (Nat.le_of_ble_eq_true rfl) (Nat.le_of_ble_eq_true rfl)
                    · skip
                      have k246 : ¬ ((Int32.toInt z241) ≤ 0) := fun h_9 => c242 ((fa_le z241 0).mpr h_9)
                      refine r_aload_n 202 2 C dX12_index_202 rfl ?_
                      refine r_iconst 203 1 C dX12_index_203 (by decide) ?_
                      refine r_callVi 204 C dX12_index_204 [] [(h0, .inr (11, [.ref h1, .int x2, .ref h2, .int x3, .int x4, .int x5, .ref h3, .ref h4, .ref h5, .ref h6, .int x6, .int x7, .int z224, .ref h7, .ref h8, .ref h9, .ref h10, .int x9, .int x10, .int x11, .long z239, .int z19, .int 3, .long z35, .long z238, .ref h11, .ref h12, .ref h13, .ref h14, .long y3, .int x14, .ref h15, .int x15, .int x16, .int x17, .int x18, .ref h16, .ref h17, .ref h18, .ref h19, .ref h20, .ref h21, .ref h22, .ref h23, .ref h24, .ref h25, .ref h26, .int x19, .int x20, .int x21, .int x22, .int x23, .int x24, .int x25, .long y4, .int x26, .ref h27, .ref h28, .long y5, .long y6, .int x27, .ref h29, .int x28, .ref h30, .ref h31, .ref h32, .ref h33, .int x29, .int x30, .int x31, .int x32, .ref h34, .ref h35, .int x33, .int x34, .ref h36]))] [(h1, .inl (gB g, 1500, .inl fn0))] (fun sz => c17_X12_fails l g h0 1 h1 x2 h2 x3 x4 x5 h3 h4 h5 h6 x6 x7 z224 h7 h8 h9 h10 x9 x10 x11 z239 z19 3 z35 z238 h11 h12 h13 h14 y3 x14 h15 x15 x16 x17 x18 h16 h17 h18 h19 h20 h21 h22 h23 h24 h25 h26 x19 x20 x21 x22 x23 x24 x25 y4 x26 h27 h28 y5 y6 x27 h29 x28 h30 h31 h32 h33 x29 x30 x31 x32 h34 h35 x33 x34 h36 (by decide) i_x2 i_x3 i_x5 ⟨i232a, i232b⟩ i_x9 (iv_eq ⟨p6, p7⟩ tz19) (by decide) ⟨by omega, by omega⟩ ⟨by omega, by omega⟩ i_x14 i_x15 i_x16 i_x17 i_x18 i_x20 i_x21 i_x22 i_x23 i_x24 i_x26 i_x27 i_x28 i_x29 i_x30 i_x31 i_x32 i_x33 i_x34 sz) gX12_index_X12_fails rfl ⟨rfl, rfl⟩ 1 (by decide) ⟨Nat.le_of_ble_eq_true rfl, Nat.le_of_ble_eq_true rfl⟩ 0 rfl rfl [0] [1] rfl rfl (by decide) (by decide) (by decide) rfl rfl (Nat.le_of_ble_eq_true rfl) ⟨Nat.le_of_ble_eq_true rfl, Nat.le_of_ble_eq_true rfl⟩ (fun r248 z247 w249 => ?_)
                      refine r_ws [(h1, .inl (gB g, 1500, .inl fn0)), (h0, .inr (11, [.ref h1, .int x2, .ref h2, .int x3, .int x4, .int x5, .ref h3, .ref h4, .ref h5, .ref h6, .int x6, .int x7, .int z247, .ref h7, .ref h8, .ref h9, .ref h10, .int x9, .int x10, .int x11, .long z239, .int z19, .int 3, .long z35, .long z238, .ref h11, .ref h12, .ref h13, .ref h14, .long y3, .int x14, .ref h15, .int x15, .int x16, .int x17, .int x18, .ref h16, .ref h17, .ref h18, .ref h19, .ref h20, .ref h21, .ref h22, .ref h23, .ref h24, .ref h25, .ref h26, .int x19, .int x20, .int x21, .int x22, .int x23, .int x24, .int x25, .long y4, .int x26, .ref h27, .ref h28, .long y5, .long y6, .int x27, .ref h29, .int x28, .ref h30, .ref h31, .ref h32, .ref h33, .int x29, .int x30, .int x31, .int x32, .ref h34, .ref h35, .int x33, .int x34, .ref h36]))] rfl ?_
                      have p250 : 0 = r248 := (w249.1).symm
                      subst p250
                      have p251 : 0 ≤ (Int32.toInt z247) := w249.2.1
                      have p252 : (Int32.toInt z247) ≤ 3 := w249.2.2.1
                      have p253 : (1 ≤ (Int32.toInt z247)) := w249.2.2.2
                      refine r_if_eq_t 207 214 C dX12_index_207 (by decide) (by decide) ?_
                      refine r_iconst 214 0 C dX12_index_214 (by decide) ?_
                      exact r_zret 215 Rt dX12_index_215 (by decide) (z247, z239, z19, 3, z35, z238) (show 0 ≤ (Int32.toInt 0) ∧ (Int32.toInt 0) ≤ 1 ∧ 0 ≤ (Int32.toInt z247) ∧ (Int32.toInt z247) ≤ 3 ∧ 0 ≤ (Int32.toInt z19) ∧ (Int32.toInt z19) ≤ 65535 ∧ 0 ≤ (Int32.toInt 3) ∧ (Int32.toInt 3) ≤ 255 ∧ 0 ≤ (Int64.toInt z35) ∧ (Int64.toInt z35) ≤ 1500 ∧ 0 ≤ (Int64.toInt z238) ∧ (Int64.toInt z238) ≤ 1500 ∧ (0 = 0 ∨ (Int32.toInt z19) = 0 ∨ IX fn0 (Int64.toInt z35) 3 (Int32.toInt z19) (Int64.toInt z238) (Int32.toInt x2)) ∧ ((0 = 0 ∧ 1 ≤ (Int32.toInt z247)) ∨ (0 = 1 ∧ (Int32.toInt z247) = (Int32.toInt x8) ∧ 0 ≤ (Int32.toInt z19) ∧ (Int32.toInt z19) ≤ 1500 ∧ (Int32.toInt x0) ≤ (Int32.toInt z19) ∧ (Int32.toInt z19) ≤ (Int32.toInt x1))) from ⟨(by decide), (by decide), (show _ ∧ _ from ⟨p251, p252⟩).1, (show _ ∧ _ from ⟨p251, p252⟩).2, (iv_eq ⟨p6, p7⟩ tz19).1, (iv_eq ⟨p6, p7⟩ tz19).2, (by decide), (by decide), (by first | omega | ((repeat' apply And.intro) <;> first | trivial | rfl | assumption | omega | decide | exact Or.inl rfl | exact Or.inr (Or.inl rfl) | exact Or.inr (Or.inr rfl) | exact Or.inr (Or.inr (by assumption)))), (by first | omega | ((repeat' apply And.intro) <;> first | trivial | rfl | assumption | omega | decide | exact Or.inl rfl | exact Or.inr (Or.inl rfl) | exact Or.inr (Or.inr rfl) | exact Or.inr (Or.inr (by assumption)))), (by first | omega | ((repeat' apply And.intro) <;> first | trivial | rfl | assumption | omega | decide | exact Or.inl rfl | exact Or.inr (Or.inl rfl) | exact Or.inr (Or.inr rfl) | exact Or.inr (Or.inr (by assumption)))), (by first | omega | ((repeat' apply And.intro) <;> first | trivial | rfl | assumption | omega | decide | exact Or.inl rfl | exact Or.inr (Or.inl rfl) | exact Or.inr (Or.inr rfl) | exact Or.inr (Or.inr (by assumption)))), (by first | omega | ((repeat' apply And.intro) <;> first | trivial | rfl | assumption | omega | decide | exact Or.inl rfl | exact Or.inr (Or.inl rfl) | exact Or.inr (Or.inr rfl) | exact Or.inr (Or.inr (by assumption)))), (by first | omega | ((repeat' apply And.intro) <;> first | trivial | rfl | assumption | omega | decide | exact Or.inl rfl | exact Or.inr (Or.inl rfl) | exact Or.inr (Or.inr rfl) | exact Or.inr (Or.inr (by assumption))))⟩) [1, 0] (by decide) rfl (Nat.le_of_ble_eq_true rfl) (Nat.le_of_ble_eq_true rfl)
                  · skip
                    have k254 : ¬ ((Int32.toInt z19) < (Int32.toInt z222)) := fun h_9 => c236 ((fa_lt z19 z222).mpr h_9)
                    refine r_aload_n 113 2 C dX12_index_113 rfl ?_
                    refine r_aload_n 114 2 C dX12_index_114 rfl ?_
                    refine r_get 115 C dX12_index_115 (k := 22) 0 rfl rfl hiX12 (by decide) rfl (mg 3 rfl) (Or.inl rfl) rfl ?_
                    refine r_callVl 118 C dX12_index_118 [] [(h0, .inr (11, [.ref h1, .int x2, .ref h2, .int x3, .int x4, .int x5, .ref h3, .ref h4, .ref h5, .ref h6, .int x6, .int x7, .int z224, .ref h7, .ref h8, .ref h9, .ref h10, .int x9, .int x10, .int x11, .long z225, .int z19, .int 3, .long z35, .long y2, .ref h11, .ref h12, .ref h13, .ref h14, .long y3, .int x14, .ref h15, .int x15, .int x16, .int x17, .int x18, .ref h16, .ref h17, .ref h18, .ref h19, .ref h20, .ref h21, .ref h22, .ref h23, .ref h24, .ref h25, .ref h26, .int x19, .int x20, .int x21, .int x22, .int x23, .int x24, .int x25, .long y4, .int x26, .ref h27, .ref h28, .long y5, .long y6, .int x27, .ref h29, .int x28, .ref h30, .ref h31, .ref h32, .ref h33, .int x29, .int x30, .int x31, .int x32, .ref h34, .ref h35, .int x33, .int x34, .ref h36])), (h1, .inl (gB g, 1500, .inl fn0))] [] (fun sz => c45_X12_number l g h0 h1 x2 h2 x3 x4 x5 h3 h4 h5 h6 x6 x7 z224 h7 h8 h9 h10 x9 x10 x11 z225 z19 3 z35 y2 h11 h12 h13 h14 y3 x14 h15 x15 x16 x17 x18 h16 h17 h18 h19 h20 h21 h22 h23 h24 h25 h26 x19 x20 x21 x22 x23 x24 x25 y4 x26 h27 h28 y5 y6 x27 h29 x28 h30 h31 h32 h33 x29 x30 x31 x32 h34 h35 x33 x34 h36 fn0 i_x2 i_x3 i_x5 ⟨i232a, i232b⟩ i_x9 (iv_eq ⟨p6, p7⟩ tz19) (by decide) ⟨by omega, by omega⟩ i_y2 i_x14 i_x15 i_x16 i_x17 i_x18 i_x20 i_x21 i_x22 i_x23 i_x24 i_x26 i_x27 i_x28 i_x29 i_x30 i_x31 i_x32 i_x33 i_x34 sz) gX12_index_X12_number rfl ⟨rfl, rfl⟩ 1 (by decide) ⟨Nat.le_of_ble_eq_true rfl, Nat.le_of_ble_eq_true rfl⟩ 0 rfl rfl [0, 1] [] rfl rfl (by decide) (by decide) (by decide) rfl rfl (Nat.le_of_ble_eq_true rfl) ⟨Nat.le_of_ble_eq_true rfl, Nat.le_of_ble_eq_true rfl⟩ (fun r257 u259 w258 => ?_)
                    obtain ⟨z255, z256⟩ := u259
                    refine r_ws [(h0, .inr (11, [.ref h1, .int x2, .ref h2, .int x3, .int x4, .int x5, .ref h3, .ref h4, .ref h5, .ref h6, .int x6, .int x7, .int z255, .ref h7, .ref h8, .ref h9, .ref h10, .int x9, .int x10, .int x11, .long z256, .int z19, .int 3, .long z35, .long y2, .ref h11, .ref h12, .ref h13, .ref h14, .long y3, .int x14, .ref h15, .int x15, .int x16, .int x17, .int x18, .ref h16, .ref h17, .ref h18, .ref h19, .ref h20, .ref h21, .ref h22, .ref h23, .ref h24, .ref h25, .ref h26, .int x19, .int x20, .int x21, .int x22, .int x23, .int x24, .int x25, .long y4, .int x26, .ref h27, .ref h28, .long y5, .long y6, .int x27, .ref h29, .int x28, .ref h30, .ref h31, .ref h32, .ref h33, .int x29, .int x30, .int x31, .int x32, .ref h34, .ref h35, .int x33, .int x34, .ref h36])), (h1, .inl (gB g, 1500, .inl fn0))] rfl ?_
                    have gz256 := fb_rngL z256
                    have p260 : 0 ≤ (Int64.toInt r257) := w258.1
                    have p261 : (Int64.toInt r257) ≤ 16777215 := w258.2.1
                    have p262 : 0 ≤ (Int32.toInt z255) := w258.2.2.1
                    have p263 : (Int32.toInt z255) ≤ 3 := w258.2.2.2.1
                    have p264 : ((1 ≤ (Int32.toInt z255)) ∨ ((Int32.toInt z224) = 0 ∧ (Int32.toInt z255) = 0 ∧ 0 ≤ (Int64.toInt z225) ∧ (Int64.toInt z225) + 3 ≤ (Int32.toInt x2) ∧ (Int64.toInt z256) = (Int64.toInt z225) + 3 ∧ (Int64.toInt r257) = (B8 fn0 ((Int64.toInt z225)) * 256 + B8 fn0 ((Int64.toInt z225) + 1)) * 256 + B8 fn0 ((Int64.toInt z225) + 2))) := w258.2.2.2.2
                    rcases p264 with k265 | p264
                    · skip
                      refine r_lstore 121 C dX12_index_121 [(6, .long r257), (5, .int z222), (3, .long z223), (0, .ref h0), (1, .int x0), (2, .int x1)] (by decide) rfl ?_
                      refine r_aload_n 123 3 C dX12_index_123 rfl ?_
                      refine r_get 124 C dX12_index_124 (k := 12) 0 rfl rfl hiX12 (by decide) rfl (mg 2 rfl) (Or.inl rfl) rfl ?_
                      refine r_if_le_f 127 132 C dX12_index_127 (by decide) (fun h_9 => by have h_8 : (Int32.toInt z255) ≤ 0 := (fa_le z255 0).mp h_9; omega) ?_
                      refine r_iconst 130 0 C dX12_index_130 (by decide) ?_
                      exact r_zret 131 Rt dX12_index_131 (by decide) (z255, z256, z19, 3, z35, y2) (show 0 ≤ (Int32.toInt 0) ∧ (Int32.toInt 0) ≤ 1 ∧ 0 ≤ (Int32.toInt z255) ∧ (Int32.toInt z255) ≤ 3 ∧ 0 ≤ (Int32.toInt z19) ∧ (Int32.toInt z19) ≤ 65535 ∧ 0 ≤ (Int32.toInt 3) ∧ (Int32.toInt 3) ≤ 255 ∧ 0 ≤ (Int64.toInt z35) ∧ (Int64.toInt z35) ≤ 1500 ∧ 0 ≤ (Int64.toInt y2) ∧ (Int64.toInt y2) ≤ 1500 ∧ (0 = 0 ∨ (Int32.toInt z19) = 0 ∨ IX fn0 (Int64.toInt z35) 3 (Int32.toInt z19) (Int64.toInt y2) (Int32.toInt x2)) ∧ ((0 = 0 ∧ 1 ≤ (Int32.toInt z255)) ∨ (0 = 1 ∧ (Int32.toInt z255) = (Int32.toInt x8) ∧ 0 ≤ (Int32.toInt z19) ∧ (Int32.toInt z19) ≤ 1500 ∧ (Int32.toInt x0) ≤ (Int32.toInt z19) ∧ (Int32.toInt z19) ≤ (Int32.toInt x1))) from ⟨(by decide), (by decide), (show _ ∧ _ from ⟨p262, p263⟩).1, (show _ ∧ _ from ⟨p262, p263⟩).2, (iv_eq ⟨p6, p7⟩ tz19).1, (iv_eq ⟨p6, p7⟩ tz19).2, (by decide), (by decide), (by first | omega | ((repeat' apply And.intro) <;> first | trivial | rfl | assumption | omega | decide | exact Or.inl rfl | exact Or.inr (Or.inl rfl) | exact Or.inr (Or.inr rfl) | exact Or.inr (Or.inr (by assumption)))), (by first | omega | ((repeat' apply And.intro) <;> first | trivial | rfl | assumption | omega | decide | exact Or.inl rfl | exact Or.inr (Or.inl rfl) | exact Or.inr (Or.inr rfl) | exact Or.inr (Or.inr (by assumption)))), i_y2.1, i_y2.2, (by first | omega | ((repeat' apply And.intro) <;> first | trivial | rfl | assumption | omega | decide | exact Or.inl rfl | exact Or.inr (Or.inl rfl) | exact Or.inr (Or.inr rfl) | exact Or.inr (Or.inr (by assumption)))), (by first | omega | ((repeat' apply And.intro) <;> first | trivial | rfl | assumption | omega | decide | exact Or.inl rfl | exact Or.inr (Or.inl rfl) | exact Or.inr (Or.inr rfl) | exact Or.inr (Or.inr (by assumption))))⟩) [0, 1] (by decide) rfl (Nat.le_of_ble_eq_true rfl) (Nat.le_of_ble_eq_true rfl)
                    obtain ⟨k266, k267, k268, k269, k270, k271⟩ := p264
                    refine r_lstore 121 C dX12_index_121 [(6, .long r257), (5, .int z222), (3, .long z223), (0, .ref h0), (1, .int x0), (2, .int x1)] (by decide) rfl ?_
                    refine r_aload_n 123 3 C dX12_index_123 rfl ?_
                    refine r_get 124 C dX12_index_124 (k := 12) 0 rfl rfl hiX12 (by decide) rfl (mg 2 rfl) (Or.inl rfl) rfl ?_
                    refine r_if_le_t 127 132 C dX12_index_127 (by decide) ((fa_le z255 0).mpr (by show (Int32.toInt z255) ≤ 0; omega)) ?_
                    have o272 : OFF fn0 (Int64.toInt z35) 3 (Int32.toInt z222) = (Int64.toInt r257) := offk_3 (t := (Int64.toInt z225)) (by omega) (by omega)
                    refine r_iload 132 1 C dX12_index_132 rfl ?_
                    refine r_if_ne 134 147 C dX12_index_134 (by decide) (fun c273 => ?_) (fun c273 => ?_)
                    · skip
                      have k274 : ¬ ((Int32.toInt z222) = 0) := fun h_9 => c273 ((fa_eq z222 0).mpr h_9)
                      refine r_lload 147 0 C dX12_index_147 rfl ?_
                      refine r_lload_n 149 2 C dX12_index_149 rfl ?_
                      obtain ⟨z275, ez275⟩ : ∃ z_9, lg_cmp r257 z223 = z_9 := ⟨_, rfl⟩
                      have l1z275 : (Int32.toInt z275) < 0 ↔ (Int64.toInt r257) < (Int64.toInt z223) := by rw [← ez275]; exact lgI1 r257 z223
                      have l2z275 : 0 < (Int32.toInt z275) ↔ (Int64.toInt z223) < (Int64.toInt r257) := by rw [← ez275]; exact lgI2 r257 z223
                      refine r_lcmp 150 z275 C dX12_index_150 ez275 ?_
                      refine r_if_ge 151 160 C dX12_index_151 (by decide) (fun c276 => ?_) (fun c276 => ?_)
                      · skip
                        have k277 : 0 ≤ (Int32.toInt z275) := (fa_le 0 z275).mp c276
                        refine r_lload 160 0 C dX12_index_160 rfl ?_
                        refine r_lstore_n 162 C dX12_index_162 [(3, .long r257), (6, .long r257), (5, .int z222), (0, .ref h0), (1, .int x0), (2, .int x1)] (by decide) rfl ?_
                        obtain ⟨z278, ez278⟩ : ∃ z_9, z222 + Int32.ofInt 1 = z_9 := ⟨_, rfl⟩
                        have tz278 : (Int32.toInt z278) = (Int32.toInt z222) + 1 := by rw [← ez278]; exact fb_addIv (a := 0) (b := 65536) (c := 1) (d := 1) ⟨i230a, i230b⟩ ⟨by decide, by decide⟩ (by decide) (by decide)
                        refine r_iinc 163 2 z278 C dX12_index_163 rfl ez278 [(5, .int z278), (3, .long r257), (6, .long r257), (0, .ref h0), (1, .int x0), (2, .int x1)] (by decide) rfl ?_
                        refine r_goto 166 104 C dX12_index_166 (by decide) ?_
                        refine r_lv [(5, .int z278), (3, .long r257), (0, .ref h0), (1, .int x0), (2, .int x1)] [0, 1, 3, 4, 5] rfl ?_
                        exact ih228 z278 r257 z255 z256 ⟨by omega, by omega⟩ (iv_wide (c := 0) (d := 4294967295) ⟨p260, p261⟩ (by decide) (by decide)) ⟨p262, p263⟩ ⟨by omega, by omega⟩ (by have a_1 : OFF fn0 (Int64.toInt z35) 3 ((Int32.toInt z278) - 1) = OFF fn0 (Int64.toInt z35) 3 (Int32.toInt z222) := (by rw [show (Int32.toInt z278) - 1 = (Int32.toInt z222) from by omega]); have a_2 : (Int32.toInt z222) = 0 → OFF fn0 (Int64.toInt z35) 3 (Int32.toInt z222) = OFF fn0 (Int64.toInt z35) 3 0 := (fun h_9 => by rw [h_9]); show (Int32.toInt z255) = 0 ∧ (Int64.toInt z256) = (Int64.toInt z35) + 3 * (Int32.toInt z278) ∧ (Int32.toInt z278) ≤ (Int32.toInt z19) + 1 ∧ (Int64.toInt z256) ≤ (Int32.toInt x2) ∧ (((Int32.toInt z278) = 0 ∧ (Int64.toInt r257) = 1) ∨ (1 ≤ (Int32.toInt z278) ∧ OFF fn0 (Int64.toInt z35) 3 0 = 1 ∧ (Int64.toInt r257) = OFF fn0 (Int64.toInt z35) 3 ((Int32.toInt z278) - 1))); omega) (mon_step (k := (Int32.toInt z222)) (by assumption) (by show (Int32.toInt z278) = (Int32.toInt z222) + 1; omega) (by show (Int32.toInt z222) = 0 ∨ OFF fn0 (Int64.toInt z35) 3 ((Int32.toInt z222) - 1) ≤ OFF fn0 (Int64.toInt z35) 3 (Int32.toInt z222); omega)) (by omega)
                      · skip
                        have k279 : ¬ (0 ≤ (Int32.toInt z275)) := fun h_9 => c276 ((fa_le 0 z275).mpr h_9)
                        refine r_aload_n 154 3 C dX12_index_154 rfl ?_
                        refine r_iconst 155 2 C dX12_index_155 (by decide) ?_
                        refine r_callVi 156 C dX12_index_156 [] [(h0, .inr (11, [.ref h1, .int x2, .ref h2, .int x3, .int x4, .int x5, .ref h3, .ref h4, .ref h5, .ref h6, .int x6, .int x7, .int z255, .ref h7, .ref h8, .ref h9, .ref h10, .int x9, .int x10, .int x11, .long z256, .int z19, .int 3, .long z35, .long y2, .ref h11, .ref h12, .ref h13, .ref h14, .long y3, .int x14, .ref h15, .int x15, .int x16, .int x17, .int x18, .ref h16, .ref h17, .ref h18, .ref h19, .ref h20, .ref h21, .ref h22, .ref h23, .ref h24, .ref h25, .ref h26, .int x19, .int x20, .int x21, .int x22, .int x23, .int x24, .int x25, .long y4, .int x26, .ref h27, .ref h28, .long y5, .long y6, .int x27, .ref h29, .int x28, .ref h30, .ref h31, .ref h32, .ref h33, .int x29, .int x30, .int x31, .int x32, .ref h34, .ref h35, .int x33, .int x34, .ref h36]))] [(h1, .inl (gB g, 1500, .inl fn0))] (fun sz => c17_X12_fails l g h0 2 h1 x2 h2 x3 x4 x5 h3 h4 h5 h6 x6 x7 z255 h7 h8 h9 h10 x9 x10 x11 z256 z19 3 z35 y2 h11 h12 h13 h14 y3 x14 h15 x15 x16 x17 x18 h16 h17 h18 h19 h20 h21 h22 h23 h24 h25 h26 x19 x20 x21 x22 x23 x24 x25 y4 x26 h27 h28 y5 y6 x27 h29 x28 h30 h31 h32 h33 x29 x30 x31 x32 h34 h35 x33 x34 h36 (by decide) i_x2 i_x3 i_x5 ⟨p262, p263⟩ i_x9 (iv_eq ⟨p6, p7⟩ tz19) (by decide) ⟨by omega, by omega⟩ i_y2 i_x14 i_x15 i_x16 i_x17 i_x18 i_x20 i_x21 i_x22 i_x23 i_x24 i_x26 i_x27 i_x28 i_x29 i_x30 i_x31 i_x32 i_x33 i_x34 sz) gX12_index_X12_fails rfl ⟨rfl, rfl⟩ 1 (by decide) ⟨Nat.le_of_ble_eq_true rfl, Nat.le_of_ble_eq_true rfl⟩ 0 rfl rfl [0] [1] rfl rfl (by decide) (by decide) (by decide) rfl rfl (Nat.le_of_ble_eq_true rfl) ⟨Nat.le_of_ble_eq_true rfl, Nat.le_of_ble_eq_true rfl⟩ (fun r281 z280 w282 => ?_)
                        refine r_ws [(h1, .inl (gB g, 1500, .inl fn0)), (h0, .inr (11, [.ref h1, .int x2, .ref h2, .int x3, .int x4, .int x5, .ref h3, .ref h4, .ref h5, .ref h6, .int x6, .int x7, .int z280, .ref h7, .ref h8, .ref h9, .ref h10, .int x9, .int x10, .int x11, .long z256, .int z19, .int 3, .long z35, .long y2, .ref h11, .ref h12, .ref h13, .ref h14, .long y3, .int x14, .ref h15, .int x15, .int x16, .int x17, .int x18, .ref h16, .ref h17, .ref h18, .ref h19, .ref h20, .ref h21, .ref h22, .ref h23, .ref h24, .ref h25, .ref h26, .int x19, .int x20, .int x21, .int x22, .int x23, .int x24, .int x25, .long y4, .int x26, .ref h27, .ref h28, .long y5, .long y6, .int x27, .ref h29, .int x28, .ref h30, .ref h31, .ref h32, .ref h33, .int x29, .int x30, .int x31, .int x32, .ref h34, .ref h35, .int x33, .int x34, .ref h36]))] rfl ?_
                        have p283 : 0 = r281 := (w282.1).symm
                        subst p283
                        have p284 : 0 ≤ (Int32.toInt z280) := w282.2.1
                        have p285 : (Int32.toInt z280) ≤ 3 := w282.2.2.1
                        have p286 : (1 ≤ (Int32.toInt z280)) := w282.2.2.2
                        exact r_zret 159 Rt dX12_index_159 (by decide) (z280, z256, z19, 3, z35, y2) (show 0 ≤ (Int32.toInt 0) ∧ (Int32.toInt 0) ≤ 1 ∧ 0 ≤ (Int32.toInt z280) ∧ (Int32.toInt z280) ≤ 3 ∧ 0 ≤ (Int32.toInt z19) ∧ (Int32.toInt z19) ≤ 65535 ∧ 0 ≤ (Int32.toInt 3) ∧ (Int32.toInt 3) ≤ 255 ∧ 0 ≤ (Int64.toInt z35) ∧ (Int64.toInt z35) ≤ 1500 ∧ 0 ≤ (Int64.toInt y2) ∧ (Int64.toInt y2) ≤ 1500 ∧ (0 = 0 ∨ (Int32.toInt z19) = 0 ∨ IX fn0 (Int64.toInt z35) 3 (Int32.toInt z19) (Int64.toInt y2) (Int32.toInt x2)) ∧ ((0 = 0 ∧ 1 ≤ (Int32.toInt z280)) ∨ (0 = 1 ∧ (Int32.toInt z280) = (Int32.toInt x8) ∧ 0 ≤ (Int32.toInt z19) ∧ (Int32.toInt z19) ≤ 1500 ∧ (Int32.toInt x0) ≤ (Int32.toInt z19) ∧ (Int32.toInt z19) ≤ (Int32.toInt x1))) from ⟨(by decide), (by decide), (show _ ∧ _ from ⟨p284, p285⟩).1, (show _ ∧ _ from ⟨p284, p285⟩).2, (iv_eq ⟨p6, p7⟩ tz19).1, (iv_eq ⟨p6, p7⟩ tz19).2, (by decide), (by decide), (by first | omega | ((repeat' apply And.intro) <;> first | trivial | rfl | assumption | omega | decide | exact Or.inl rfl | exact Or.inr (Or.inl rfl) | exact Or.inr (Or.inr rfl) | exact Or.inr (Or.inr (by assumption)))), (by first | omega | ((repeat' apply And.intro) <;> first | trivial | rfl | assumption | omega | decide | exact Or.inl rfl | exact Or.inr (Or.inl rfl) | exact Or.inr (Or.inr rfl) | exact Or.inr (Or.inr (by assumption)))), i_y2.1, i_y2.2, (by first | omega | ((repeat' apply And.intro) <;> first | trivial | rfl | assumption | omega | decide | exact Or.inl rfl | exact Or.inr (Or.inl rfl) | exact Or.inr (Or.inr rfl) | exact Or.inr (Or.inr (by assumption)))), (by first | omega | ((repeat' apply And.intro) <;> first | trivial | rfl | assumption | omega | decide | exact Or.inl rfl | exact Or.inr (Or.inl rfl) | exact Or.inr (Or.inr rfl) | exact Or.inr (Or.inr (by assumption))))⟩) [1, 0] (by decide) rfl (Nat.le_of_ble_eq_true rfl) (Nat.le_of_ble_eq_true rfl)
                    · skip
                      have k287 : (Int32.toInt z222) = 0 := (fa_eq z222 0).mp c273
                      refine r_lload 137 0 C dX12_index_137 rfl ?_
                      refine r_lconst 139 1 C dX12_index_139 (by decide) ?_
                      obtain ⟨z288, ez288⟩ : ∃ z_9, lg_cmp r257 1 = z_9 := ⟨_, rfl⟩
                      have l1z288 : (Int32.toInt z288) < 0 ↔ (Int64.toInt r257) < 1 := by rw [← ez288]; exact lgI1 r257 1
                      have l2z288 : 0 < (Int32.toInt z288) ↔ 1 < (Int64.toInt r257) := by rw [← ez288]; exact lgI2 r257 1
                      refine r_lcmp 140 z288 C dX12_index_140 ez288 ?_
                      refine r_if_eq 141 160 C dX12_index_141 (by decide) (fun c289 => ?_) (fun c289 => ?_)
                      · skip
                        have k290 : (Int32.toInt z288) = 0 := (fa_eq z288 0).mp c289
                        refine r_lload 160 0 C dX12_index_160 rfl ?_
                        refine r_lstore_n 162 C dX12_index_162 [(3, .long r257), (6, .long r257), (5, .int z222), (0, .ref h0), (1, .int x0), (2, .int x1)] (by decide) rfl ?_
                        obtain ⟨z291, ez291⟩ : ∃ z_9, z222 + Int32.ofInt 1 = z_9 := ⟨_, rfl⟩
                        have tz291 : (Int32.toInt z291) = (Int32.toInt z222) + 1 := by rw [← ez291]; exact fb_addIv (a := 0) (b := 65536) (c := 1) (d := 1) ⟨i230a, i230b⟩ ⟨by decide, by decide⟩ (by decide) (by decide)
                        refine r_iinc 163 2 z291 C dX12_index_163 rfl ez291 [(5, .int z291), (3, .long r257), (6, .long r257), (0, .ref h0), (1, .int x0), (2, .int x1)] (by decide) rfl ?_
                        refine r_goto 166 104 C dX12_index_166 (by decide) ?_
                        refine r_lv [(5, .int z291), (3, .long r257), (0, .ref h0), (1, .int x0), (2, .int x1)] [0, 1, 3, 4, 5] rfl ?_
                        exact ih228 z291 r257 z255 z256 ⟨by omega, by omega⟩ (iv_wide (c := 0) (d := 4294967295) ⟨p260, p261⟩ (by decide) (by decide)) ⟨p262, p263⟩ ⟨by omega, by omega⟩ (by have a_1 : OFF fn0 (Int64.toInt z35) 3 ((Int32.toInt z291) - 1) = OFF fn0 (Int64.toInt z35) 3 (Int32.toInt z222) := (by rw [show (Int32.toInt z291) - 1 = (Int32.toInt z222) from by omega]); have a_2 : (Int32.toInt z222) = 0 → OFF fn0 (Int64.toInt z35) 3 (Int32.toInt z222) = OFF fn0 (Int64.toInt z35) 3 0 := (fun h_9 => by rw [h_9]); show (Int32.toInt z255) = 0 ∧ (Int64.toInt z256) = (Int64.toInt z35) + 3 * (Int32.toInt z291) ∧ (Int32.toInt z291) ≤ (Int32.toInt z19) + 1 ∧ (Int64.toInt z256) ≤ (Int32.toInt x2) ∧ (((Int32.toInt z291) = 0 ∧ (Int64.toInt r257) = 1) ∨ (1 ≤ (Int32.toInt z291) ∧ OFF fn0 (Int64.toInt z35) 3 0 = 1 ∧ (Int64.toInt r257) = OFF fn0 (Int64.toInt z35) 3 ((Int32.toInt z291) - 1))); omega) (mon_step (k := (Int32.toInt z222)) (by assumption) (by show (Int32.toInt z291) = (Int32.toInt z222) + 1; omega) (by show (Int32.toInt z222) = 0 ∨ OFF fn0 (Int64.toInt z35) 3 ((Int32.toInt z222) - 1) ≤ OFF fn0 (Int64.toInt z35) 3 (Int32.toInt z222); omega)) (by omega)
                      · skip
                        have k292 : ¬ ((Int32.toInt z288) = 0) := fun h_9 => c289 ((fa_eq z288 0).mpr h_9)
                        refine r_goto 144 154 C dX12_index_144 (by decide) ?_
                        refine r_aload_n 154 3 C dX12_index_154 rfl ?_
                        refine r_iconst 155 2 C dX12_index_155 (by decide) ?_
                        refine r_callVi 156 C dX12_index_156 [] [(h0, .inr (11, [.ref h1, .int x2, .ref h2, .int x3, .int x4, .int x5, .ref h3, .ref h4, .ref h5, .ref h6, .int x6, .int x7, .int z255, .ref h7, .ref h8, .ref h9, .ref h10, .int x9, .int x10, .int x11, .long z256, .int z19, .int 3, .long z35, .long y2, .ref h11, .ref h12, .ref h13, .ref h14, .long y3, .int x14, .ref h15, .int x15, .int x16, .int x17, .int x18, .ref h16, .ref h17, .ref h18, .ref h19, .ref h20, .ref h21, .ref h22, .ref h23, .ref h24, .ref h25, .ref h26, .int x19, .int x20, .int x21, .int x22, .int x23, .int x24, .int x25, .long y4, .int x26, .ref h27, .ref h28, .long y5, .long y6, .int x27, .ref h29, .int x28, .ref h30, .ref h31, .ref h32, .ref h33, .int x29, .int x30, .int x31, .int x32, .ref h34, .ref h35, .int x33, .int x34, .ref h36]))] [(h1, .inl (gB g, 1500, .inl fn0))] (fun sz => c17_X12_fails l g h0 2 h1 x2 h2 x3 x4 x5 h3 h4 h5 h6 x6 x7 z255 h7 h8 h9 h10 x9 x10 x11 z256 z19 3 z35 y2 h11 h12 h13 h14 y3 x14 h15 x15 x16 x17 x18 h16 h17 h18 h19 h20 h21 h22 h23 h24 h25 h26 x19 x20 x21 x22 x23 x24 x25 y4 x26 h27 h28 y5 y6 x27 h29 x28 h30 h31 h32 h33 x29 x30 x31 x32 h34 h35 x33 x34 h36 (by decide) i_x2 i_x3 i_x5 ⟨p262, p263⟩ i_x9 (iv_eq ⟨p6, p7⟩ tz19) (by decide) ⟨by omega, by omega⟩ i_y2 i_x14 i_x15 i_x16 i_x17 i_x18 i_x20 i_x21 i_x22 i_x23 i_x24 i_x26 i_x27 i_x28 i_x29 i_x30 i_x31 i_x32 i_x33 i_x34 sz) gX12_index_X12_fails rfl ⟨rfl, rfl⟩ 1 (by decide) ⟨Nat.le_of_ble_eq_true rfl, Nat.le_of_ble_eq_true rfl⟩ 0 rfl rfl [0] [1] rfl rfl (by decide) (by decide) (by decide) rfl rfl (Nat.le_of_ble_eq_true rfl) ⟨Nat.le_of_ble_eq_true rfl, Nat.le_of_ble_eq_true rfl⟩ (fun r294 z293 w295 => ?_)
                        refine r_ws [(h1, .inl (gB g, 1500, .inl fn0)), (h0, .inr (11, [.ref h1, .int x2, .ref h2, .int x3, .int x4, .int x5, .ref h3, .ref h4, .ref h5, .ref h6, .int x6, .int x7, .int z293, .ref h7, .ref h8, .ref h9, .ref h10, .int x9, .int x10, .int x11, .long z256, .int z19, .int 3, .long z35, .long y2, .ref h11, .ref h12, .ref h13, .ref h14, .long y3, .int x14, .ref h15, .int x15, .int x16, .int x17, .int x18, .ref h16, .ref h17, .ref h18, .ref h19, .ref h20, .ref h21, .ref h22, .ref h23, .ref h24, .ref h25, .ref h26, .int x19, .int x20, .int x21, .int x22, .int x23, .int x24, .int x25, .long y4, .int x26, .ref h27, .ref h28, .long y5, .long y6, .int x27, .ref h29, .int x28, .ref h30, .ref h31, .ref h32, .ref h33, .int x29, .int x30, .int x31, .int x32, .ref h34, .ref h35, .int x33, .int x34, .ref h36]))] rfl ?_
                        have p296 : 0 = r294 := (w295.1).symm
                        subst p296
                        have p297 : 0 ≤ (Int32.toInt z293) := w295.2.1
                        have p298 : (Int32.toInt z293) ≤ 3 := w295.2.2.1
                        have p299 : (1 ≤ (Int32.toInt z293)) := w295.2.2.2
                        exact r_zret 159 Rt dX12_index_159 (by decide) (z293, z256, z19, 3, z35, y2) (show 0 ≤ (Int32.toInt 0) ∧ (Int32.toInt 0) ≤ 1 ∧ 0 ≤ (Int32.toInt z293) ∧ (Int32.toInt z293) ≤ 3 ∧ 0 ≤ (Int32.toInt z19) ∧ (Int32.toInt z19) ≤ 65535 ∧ 0 ≤ (Int32.toInt 3) ∧ (Int32.toInt 3) ≤ 255 ∧ 0 ≤ (Int64.toInt z35) ∧ (Int64.toInt z35) ≤ 1500 ∧ 0 ≤ (Int64.toInt y2) ∧ (Int64.toInt y2) ≤ 1500 ∧ (0 = 0 ∨ (Int32.toInt z19) = 0 ∨ IX fn0 (Int64.toInt z35) 3 (Int32.toInt z19) (Int64.toInt y2) (Int32.toInt x2)) ∧ ((0 = 0 ∧ 1 ≤ (Int32.toInt z293)) ∨ (0 = 1 ∧ (Int32.toInt z293) = (Int32.toInt x8) ∧ 0 ≤ (Int32.toInt z19) ∧ (Int32.toInt z19) ≤ 1500 ∧ (Int32.toInt x0) ≤ (Int32.toInt z19) ∧ (Int32.toInt z19) ≤ (Int32.toInt x1))) from ⟨(by decide), (by decide), (show _ ∧ _ from ⟨p297, p298⟩).1, (show _ ∧ _ from ⟨p297, p298⟩).2, (iv_eq ⟨p6, p7⟩ tz19).1, (iv_eq ⟨p6, p7⟩ tz19).2, (by decide), (by decide), (by first | omega | ((repeat' apply And.intro) <;> first | trivial | rfl | assumption | omega | decide | exact Or.inl rfl | exact Or.inr (Or.inl rfl) | exact Or.inr (Or.inr rfl) | exact Or.inr (Or.inr (by assumption)))), (by first | omega | ((repeat' apply And.intro) <;> first | trivial | rfl | assumption | omega | decide | exact Or.inl rfl | exact Or.inr (Or.inl rfl) | exact Or.inr (Or.inr rfl) | exact Or.inr (Or.inr (by assumption)))), i_y2.1, i_y2.2, (by first | omega | ((repeat' apply And.intro) <;> first | trivial | rfl | assumption | omega | decide | exact Or.inl rfl | exact Or.inr (Or.inl rfl) | exact Or.inr (Or.inr rfl) | exact Or.inr (Or.inr (by assumption)))), (by first | omega | ((repeat' apply And.intro) <;> first | trivial | rfl | assumption | omega | decide | exact Or.inl rfl | exact Or.inr (Or.inl rfl) | exact Or.inr (Or.inr rfl) | exact Or.inr (Or.inr (by assumption))))⟩) [1, 0] (by decide) rfl (Nat.le_of_ble_eq_true rfl) (Nat.le_of_ble_eq_true rfl)
              exact lp227 _ 0 1 z34 z35 (by decide) (by decide) ⟨p41, p42⟩ ⟨by omega, by omega⟩ (by show (Int32.toInt z34) = 0 ∧ (Int64.toInt z35) = (Int64.toInt z35) + 3 * (0 : Int) ∧ (0 : Int) ≤ (Int32.toInt z19) + 1 ∧ (Int64.toInt z35) ≤ (Int32.toInt x2) ∧ (((0 : Int) = 0 ∧ (1 : Int) = 1) ∨ (1 ≤ (0 : Int) ∧ OFF fn0 (Int64.toInt z35) 3 0 = 1 ∧ (1 : Int) = OFF fn0 (Int64.toInt z35) 3 ((0 : Int) - 1))); omega) (mon_0 (k := 0) (by decide)) (Nat.lt_succ_self _)
            · skip
              obtain rfl : z52 = 4 := Int32.toInt_inj.mp (by show (Int32.toInt z52) = 4; omega)
              refine r_aload_n 91 0 C dX12_index_91 rfl ?_
              refine r_aload_n 92 0 C dX12_index_92 rfl ?_
              refine r_get 93 C dX12_index_93 (k := 20) 0 rfl rfl hiX12 (by decide) rfl (mg 4 rfl) (Or.inl rfl) rfl ?_
              refine r_put 96 C dX12_index_96 (k := 23) 0 rfl rfl hiX12 tyX12 tyX12_ok nmX12 (by decide) rfl (mg 5 rfl) (Or.inl rfl) rfl rfl rfl rfl (Nat.le_of_ble_eq_true rfl) [(h0, .inr (11, [.ref h1, .int x2, .ref h2, .int x3, .int x4, .int x5, .ref h3, .ref h4, .ref h5, .ref h6, .int x6, .int x7, .int z34, .ref h7, .ref h8, .ref h9, .ref h10, .int x9, .int x10, .int x11, .long z35, .int z19, .int 4, .long z35, .long y2, .ref h11, .ref h12, .ref h13, .ref h14, .long y3, .int x14, .ref h15, .int x15, .int x16, .int x17, .int x18, .ref h16, .ref h17, .ref h18, .ref h19, .ref h20, .ref h21, .ref h22, .ref h23, .ref h24, .ref h25, .ref h26, .int x19, .int x20, .int x21, .int x22, .int x23, .int x24, .int x25, .long y4, .int x26, .ref h27, .ref h28, .long y5, .long y6, .int x27, .ref h29, .int x28, .ref h30, .ref h31, .ref h32, .ref h33, .int x29, .int x30, .int x31, .int x32, .ref h34, .ref h35, .int x33, .int x34, .ref h36])), (h1, .inl (gB g, 1500, .inl fn0))] rfl ?_
              refine r_lconst 99 1 C dX12_index_99 (by decide) ?_
              refine r_lstore_n 100 C dX12_index_100 [(3, .long 1), (0, .ref h0), (1, .int x0), (2, .int x1)] (by decide) rfl ?_
              refine r_iconst 101 0 C dX12_index_101 (by decide) ?_
              refine r_istore 102 C dX12_index_102 [(5, .int 0), (3, .long 1), (0, .ref h0), (1, .int x0), (2, .int x1)] (by decide) rfl ?_
              have lp305 : ∀ (n304 : Nat) (z300 : Int32) (z301 : Int64) (z302 : Int32) (z303 : Int64), (0 ≤ (Int32.toInt z300) ∧ (Int32.toInt z300) ≤ 65536) → (0 ≤ (Int64.toInt z301) ∧ (Int64.toInt z301) ≤ 4294967295) → (0 ≤ (Int32.toInt z302) ∧ (Int32.toInt z302) ≤ 3) → (0 ≤ (Int64.toInt z303) ∧ (Int64.toInt z303) ≤ 1500) → ((Int32.toInt z302) = 0 ∧ (Int64.toInt z303) = (Int64.toInt z35) + 4 * (Int32.toInt z300) ∧ (Int32.toInt z300) ≤ (Int32.toInt z19) + 1 ∧ (Int64.toInt z303) ≤ (Int32.toInt x2) ∧ (((Int32.toInt z300) = 0 ∧ (Int64.toInt z301) = 1) ∨ (1 ≤ (Int32.toInt z300) ∧ OFF fn0 (Int64.toInt z35) 4 0 = 1 ∧ (Int64.toInt z301) = OFF fn0 (Int64.toInt z35) 4 ((Int32.toInt z300) - 1)))) → (MON fn0 (Int64.toInt z35) 4 (Int32.toInt z300)) → Int.toNat (65536 - (Int32.toInt z300)) < n304 → WW p l e ({ frames := 2, cells := 0, slots := 0, locals := 46 } : Room) s m args below meth c A Q g 8 0 0 [(h0, .inr (11, [.ref h1, .int x2, .ref h2, .int x3, .int x4, .int x5, .ref h3, .ref h4, .ref h5, .ref h6, .int x6, .int x7, .int z302, .ref h7, .ref h8, .ref h9, .ref h10, .int x9, .int x10, .int x11, .long z303, .int z19, .int 4, .long z35, .long y2, .ref h11, .ref h12, .ref h13, .ref h14, .long y3, .int x14, .ref h15, .int x15, .int x16, .int x17, .int x18, .ref h16, .ref h17, .ref h18, .ref h19, .ref h20, .ref h21, .ref h22, .ref h23, .ref h24, .ref h25, .ref h26, .int x19, .int x20, .int x21, .int x22, .int x23, .int x24, .int x25, .long y4, .int x26, .ref h27, .ref h28, .long y5, .long y6, .int x27, .ref h29, .int x28, .ref h30, .ref h31, .ref h32, .ref h33, .int x29, .int x30, .int x31, .int x32, .ref h34, .ref h35, .int x33, .int x34, .ref h36])), (h1, .inl (gB g, 1500, .inl fn0))] 104 [(5, .int z300), (3, .long z301), (0, .ref h0), (1, .int x0), (2, .int x1)] [] := by
                intro n304
                induction n304 with
                | zero => intro z300 z301 z302 z303 i308 i309 i310 i311 j312 j313 hm307; exact absurd hm307 (Nat.not_lt_zero _)
                | succ n304 ih306 =>
                  intro z300 z301 z302 z303 i308 i309 i310 i311 j312 j313 hm307
                  obtain ⟨i308a, i308b⟩ := i308
                  obtain ⟨i309a, i309b⟩ := i309
                  obtain ⟨i310a, i310b⟩ := i310
                  obtain ⟨i311a, i311b⟩ := i311
                  refine r_iload 104 0 C dX12_index_104 rfl ?_
                  refine r_aload_n 106 2 C dX12_index_106 rfl ?_
                  refine r_get 107 C dX12_index_107 (k := 21) 0 rfl rfl hiX12 (by decide) rfl (mg 1 rfl) (Or.inl rfl) rfl ?_
                  refine r_icmp_gt 110 169 C dX12_index_110 (by decide) (fun c314 => ?_) (fun c314 => ?_)
                  · skip
                    have k315 : (Int32.toInt z19) < (Int32.toInt z300) := (fa_lt z19 z300).mp c314
                    refine r_aload_n 169 2 C dX12_index_169 rfl ?_
                    refine r_aload_n 170 2 C dX12_index_170 rfl ?_
                    refine r_get 171 C dX12_index_171 (k := 20) 0 rfl rfl hiX12 (by decide) rfl (mg 4 rfl) (Or.inl rfl) rfl ?_
                    refine r_lconst 174 1 C dX12_index_174 (by decide) ?_
                    obtain ⟨z316, ez316⟩ : ∃ z_9, z303 - 1 = z_9 := ⟨_, rfl⟩
                    have tz316 : (Int64.toInt z316) = (Int64.toInt z303) - 1 := by rw [← ez316]; exact fb_subLv (a := 0) (b := 1500) (c := 1) (d := 1) ⟨i311a, i311b⟩ ⟨by decide, by decide⟩ (by decide) (by decide)
                    refine r_lsub 175 z316 C dX12_index_175 ez316 ?_
                    refine r_put 176 C dX12_index_176 (k := 24) 0 rfl rfl hiX12 tyX12 tyX12_ok nmX12 (by decide) rfl (mg 6 rfl) (Or.inl rfl) rfl rfl rfl rfl (Nat.le_of_ble_eq_true rfl) [(h0, .inr (11, [.ref h1, .int x2, .ref h2, .int x3, .int x4, .int x5, .ref h3, .ref h4, .ref h5, .ref h6, .int x6, .int x7, .int z302, .ref h7, .ref h8, .ref h9, .ref h10, .int x9, .int x10, .int x11, .long z303, .int z19, .int 4, .long z35, .long z316, .ref h11, .ref h12, .ref h13, .ref h14, .long y3, .int x14, .ref h15, .int x15, .int x16, .int x17, .int x18, .ref h16, .ref h17, .ref h18, .ref h19, .ref h20, .ref h21, .ref h22, .ref h23, .ref h24, .ref h25, .ref h26, .int x19, .int x20, .int x21, .int x22, .int x23, .int x24, .int x25, .long y4, .int x26, .ref h27, .ref h28, .long y5, .long y6, .int x27, .ref h29, .int x28, .ref h30, .ref h31, .ref h32, .ref h33, .int x29, .int x30, .int x31, .int x32, .ref h34, .ref h35, .int x33, .int x34, .ref h36])), (h1, .inl (gB g, 1500, .inl fn0))] rfl ?_
                    refine r_aload_n 179 2 C dX12_index_179 rfl ?_
                    refine r_aload_n 180 2 C dX12_index_180 rfl ?_
                    refine r_get 181 C dX12_index_181 (k := 24) 0 rfl rfl hiX12 (by decide) rfl (mg 6 rfl) (Or.inl rfl) rfl ?_
                    refine r_lload_n 184 1 C dX12_index_184 rfl ?_
                    obtain ⟨z317, ez317⟩ : ∃ z_9, z316 + z301 = z_9 := ⟨_, rfl⟩
                    have tz317 : (Int64.toInt z317) = (Int64.toInt z316) + (Int64.toInt z301) := by rw [← ez317]; exact fb_addLv (a := (-1)) (b := 1499) (c := 0) (d := 4294967295) (iv_wide (c := (-1)) (d := 1499) (iv_sub (a := 0) (b := 1500) (c := 1) (d := 1) ⟨i311a, i311b⟩ ⟨by decide, by decide⟩ tz316) (by decide) (by decide)) ⟨i309a, i309b⟩ (by decide) (by decide)
                    refine r_ladd 185 z317 C dX12_index_185 ez317 ?_
                    refine r_put 186 C dX12_index_186 (k := 20) 0 rfl rfl hiX12 tyX12 tyX12_ok nmX12 (by decide) rfl (mg 4 rfl) (Or.inl rfl) rfl rfl rfl rfl (Nat.le_of_ble_eq_true rfl) [(h0, .inr (11, [.ref h1, .int x2, .ref h2, .int x3, .int x4, .int x5, .ref h3, .ref h4, .ref h5, .ref h6, .int x6, .int x7, .int z302, .ref h7, .ref h8, .ref h9, .ref h10, .int x9, .int x10, .int x11, .long z317, .int z19, .int 4, .long z35, .long z316, .ref h11, .ref h12, .ref h13, .ref h14, .long y3, .int x14, .ref h15, .int x15, .int x16, .int x17, .int x18, .ref h16, .ref h17, .ref h18, .ref h19, .ref h20, .ref h21, .ref h22, .ref h23, .ref h24, .ref h25, .ref h26, .int x19, .int x20, .int x21, .int x22, .int x23, .int x24, .int x25, .long y4, .int x26, .ref h27, .ref h28, .long y5, .long y6, .int x27, .ref h29, .int x28, .ref h30, .ref h31, .ref h32, .ref h33, .int x29, .int x30, .int x31, .int x32, .ref h34, .ref h35, .int x33, .int x34, .ref h36])), (h1, .inl (gB g, 1500, .inl fn0))] rfl ?_
                    refine r_aload_n 189 2 C dX12_index_189 rfl ?_
                    refine r_get 190 C dX12_index_190 (k := 20) 0 rfl rfl hiX12 (by decide) rfl (mg 4 rfl) (Or.inl rfl) rfl ?_
                    refine r_aload_n 193 2 C dX12_index_193 rfl ?_
                    refine r_get 194 C dX12_index_194 (k := 1) 0 rfl rfl hiX12 (by decide) rfl (mg 7 rfl) (Or.inl rfl) rfl ?_
                    obtain ⟨z318, ez318⟩ : ∃ z_9, Int32.toInt64 x2 = z_9 := ⟨_, rfl⟩
                    have tz318 : (Int64.toInt z318) = (Int32.toInt x2) := by rw [← ez318]; exact Int32.toInt_toInt64 _
                    refine r_i2l 197 z318 C dX12_index_197 ez318 ?_
                    obtain ⟨z319, ez319⟩ : ∃ z_9, lg_cmp z317 z318 = z_9 := ⟨_, rfl⟩
                    have l1z319 : (Int32.toInt z319) < 0 ↔ (Int64.toInt z317) < (Int64.toInt z318) := by rw [← ez319]; exact lgI1 z317 z318
                    have l2z319 : 0 < (Int32.toInt z319) ↔ (Int64.toInt z318) < (Int64.toInt z317) := by rw [← ez319]; exact lgI2 z317 z318
                    refine r_lcmp 198 z319 C dX12_index_198 ez319 ?_
                    refine r_if_le 199 210 C dX12_index_199 (by decide) (fun c320 => ?_) (fun c320 => ?_)
                    · skip
                      have k321 : (Int32.toInt z319) ≤ 0 := (fa_le z319 0).mp c320
                      have hq322 : OFF fn0 (Int64.toInt z35) 4 ((Int32.toInt z300) - 1) = OFF fn0 (Int64.toInt z35) 4 (Int32.toInt z19) := by rw [show (Int32.toInt z300) - 1 = (Int32.toInt z19) from by omega]
                      have hq323 : IX fn0 (Int64.toInt z35) 4 (Int32.toInt z19) (Int64.toInt z316) (Int32.toInt x2) := ⟨by omega, by omega, by omega, by omega, by omega, by omega, by omega, fun j_8 h_8 h_9 => (show MON fn0 (Int64.toInt z35) 4 (Int32.toInt z300) by assumption) j_8 h_8 (by omega), by omega⟩
                      refine r_iconst 210 1 C dX12_index_210 (by decide) ?_
                      refine r_goto 211 215 C dX12_index_211 (by decide) ?_
                      exact r_zret 215 Rt dX12_index_215 (by decide) (z302, z317, z19, 4, z35, z316) (show 0 ≤ (Int32.toInt 1) ∧ (Int32.toInt 1) ≤ 1 ∧ 0 ≤ (Int32.toInt z302) ∧ (Int32.toInt z302) ≤ 3 ∧ 0 ≤ (Int32.toInt z19) ∧ (Int32.toInt z19) ≤ 65535 ∧ 0 ≤ (Int32.toInt 4) ∧ (Int32.toInt 4) ≤ 255 ∧ 0 ≤ (Int64.toInt z35) ∧ (Int64.toInt z35) ≤ 1500 ∧ 0 ≤ (Int64.toInt z316) ∧ (Int64.toInt z316) ≤ 1500 ∧ (1 = 0 ∨ (Int32.toInt z19) = 0 ∨ IX fn0 (Int64.toInt z35) 4 (Int32.toInt z19) (Int64.toInt z316) (Int32.toInt x2)) ∧ ((1 = 0 ∧ 1 ≤ (Int32.toInt z302)) ∨ (1 = 1 ∧ (Int32.toInt z302) = (Int32.toInt x8) ∧ 0 ≤ (Int32.toInt z19) ∧ (Int32.toInt z19) ≤ 1500 ∧ (Int32.toInt x0) ≤ (Int32.toInt z19) ∧ (Int32.toInt z19) ≤ (Int32.toInt x1))) from ⟨(by decide), (by decide), (show _ ∧ _ from ⟨i310a, i310b⟩).1, (show _ ∧ _ from ⟨i310a, i310b⟩).2, (iv_eq ⟨p6, p7⟩ tz19).1, (iv_eq ⟨p6, p7⟩ tz19).2, (by decide), (by decide), (by first | omega | ((repeat' apply And.intro) <;> first | trivial | rfl | assumption | omega | decide | exact Or.inl rfl | exact Or.inr (Or.inl rfl) | exact Or.inr (Or.inr rfl) | exact Or.inr (Or.inr (by assumption)))), (by first | omega | ((repeat' apply And.intro) <;> first | trivial | rfl | assumption | omega | decide | exact Or.inl rfl | exact Or.inr (Or.inl rfl) | exact Or.inr (Or.inr rfl) | exact Or.inr (Or.inr (by assumption)))), (by first | omega | ((repeat' apply And.intro) <;> first | trivial | rfl | assumption | omega | decide | exact Or.inl rfl | exact Or.inr (Or.inl rfl) | exact Or.inr (Or.inr rfl) | exact Or.inr (Or.inr (by assumption)))), (by first | omega | ((repeat' apply And.intro) <;> first | trivial | rfl | assumption | omega | decide | exact Or.inl rfl | exact Or.inr (Or.inl rfl) | exact Or.inr (Or.inr rfl) | exact Or.inr (Or.inr (by assumption)))), (by first | omega | ((repeat' apply And.intro) <;> first | trivial | rfl | assumption | omega | decide | exact Or.inl rfl | exact Or.inr (Or.inl rfl) | exact Or.inr (Or.inr rfl) | exact Or.inr (Or.inr (by assumption)))), (by first | omega | ((repeat' apply And.intro) <;> first | trivial | rfl | assumption | omega | decide | exact Or.inl rfl | exact Or.inr (Or.inl rfl) | exact Or.inr (Or.inr rfl) | exact Or.inr (Or.inr (by assumption))))⟩) [0, 1] (by decide) rfl (Nat.le_of_ble_eq_true rfl) (Nat.le_of_ble_eq_true rfl)
                    · skip
                      have k324 : ¬ ((Int32.toInt z319) ≤ 0) := fun h_9 => c320 ((fa_le z319 0).mpr h_9)
                      refine r_aload_n 202 2 C dX12_index_202 rfl ?_
                      refine r_iconst 203 1 C dX12_index_203 (by decide) ?_
                      refine r_callVi 204 C dX12_index_204 [] [(h0, .inr (11, [.ref h1, .int x2, .ref h2, .int x3, .int x4, .int x5, .ref h3, .ref h4, .ref h5, .ref h6, .int x6, .int x7, .int z302, .ref h7, .ref h8, .ref h9, .ref h10, .int x9, .int x10, .int x11, .long z317, .int z19, .int 4, .long z35, .long z316, .ref h11, .ref h12, .ref h13, .ref h14, .long y3, .int x14, .ref h15, .int x15, .int x16, .int x17, .int x18, .ref h16, .ref h17, .ref h18, .ref h19, .ref h20, .ref h21, .ref h22, .ref h23, .ref h24, .ref h25, .ref h26, .int x19, .int x20, .int x21, .int x22, .int x23, .int x24, .int x25, .long y4, .int x26, .ref h27, .ref h28, .long y5, .long y6, .int x27, .ref h29, .int x28, .ref h30, .ref h31, .ref h32, .ref h33, .int x29, .int x30, .int x31, .int x32, .ref h34, .ref h35, .int x33, .int x34, .ref h36]))] [(h1, .inl (gB g, 1500, .inl fn0))] (fun sz => c17_X12_fails l g h0 1 h1 x2 h2 x3 x4 x5 h3 h4 h5 h6 x6 x7 z302 h7 h8 h9 h10 x9 x10 x11 z317 z19 4 z35 z316 h11 h12 h13 h14 y3 x14 h15 x15 x16 x17 x18 h16 h17 h18 h19 h20 h21 h22 h23 h24 h25 h26 x19 x20 x21 x22 x23 x24 x25 y4 x26 h27 h28 y5 y6 x27 h29 x28 h30 h31 h32 h33 x29 x30 x31 x32 h34 h35 x33 x34 h36 (by decide) i_x2 i_x3 i_x5 ⟨i310a, i310b⟩ i_x9 (iv_eq ⟨p6, p7⟩ tz19) (by decide) ⟨by omega, by omega⟩ ⟨by omega, by omega⟩ i_x14 i_x15 i_x16 i_x17 i_x18 i_x20 i_x21 i_x22 i_x23 i_x24 i_x26 i_x27 i_x28 i_x29 i_x30 i_x31 i_x32 i_x33 i_x34 sz) gX12_index_X12_fails rfl ⟨rfl, rfl⟩ 1 (by decide) ⟨Nat.le_of_ble_eq_true rfl, Nat.le_of_ble_eq_true rfl⟩ 0 rfl rfl [0] [1] rfl rfl (by decide) (by decide) (by decide) rfl rfl (Nat.le_of_ble_eq_true rfl) ⟨Nat.le_of_ble_eq_true rfl, Nat.le_of_ble_eq_true rfl⟩ (fun r326 z325 w327 => ?_)
                      refine r_ws [(h1, .inl (gB g, 1500, .inl fn0)), (h0, .inr (11, [.ref h1, .int x2, .ref h2, .int x3, .int x4, .int x5, .ref h3, .ref h4, .ref h5, .ref h6, .int x6, .int x7, .int z325, .ref h7, .ref h8, .ref h9, .ref h10, .int x9, .int x10, .int x11, .long z317, .int z19, .int 4, .long z35, .long z316, .ref h11, .ref h12, .ref h13, .ref h14, .long y3, .int x14, .ref h15, .int x15, .int x16, .int x17, .int x18, .ref h16, .ref h17, .ref h18, .ref h19, .ref h20, .ref h21, .ref h22, .ref h23, .ref h24, .ref h25, .ref h26, .int x19, .int x20, .int x21, .int x22, .int x23, .int x24, .int x25, .long y4, .int x26, .ref h27, .ref h28, .long y5, .long y6, .int x27, .ref h29, .int x28, .ref h30, .ref h31, .ref h32, .ref h33, .int x29, .int x30, .int x31, .int x32, .ref h34, .ref h35, .int x33, .int x34, .ref h36]))] rfl ?_
                      have p328 : 0 = r326 := (w327.1).symm
                      subst p328
                      have p329 : 0 ≤ (Int32.toInt z325) := w327.2.1
                      have p330 : (Int32.toInt z325) ≤ 3 := w327.2.2.1
                      have p331 : (1 ≤ (Int32.toInt z325)) := w327.2.2.2
                      refine r_if_eq_t 207 214 C dX12_index_207 (by decide) (by decide) ?_
                      refine r_iconst 214 0 C dX12_index_214 (by decide) ?_
                      exact r_zret 215 Rt dX12_index_215 (by decide) (z325, z317, z19, 4, z35, z316) (show 0 ≤ (Int32.toInt 0) ∧ (Int32.toInt 0) ≤ 1 ∧ 0 ≤ (Int32.toInt z325) ∧ (Int32.toInt z325) ≤ 3 ∧ 0 ≤ (Int32.toInt z19) ∧ (Int32.toInt z19) ≤ 65535 ∧ 0 ≤ (Int32.toInt 4) ∧ (Int32.toInt 4) ≤ 255 ∧ 0 ≤ (Int64.toInt z35) ∧ (Int64.toInt z35) ≤ 1500 ∧ 0 ≤ (Int64.toInt z316) ∧ (Int64.toInt z316) ≤ 1500 ∧ (0 = 0 ∨ (Int32.toInt z19) = 0 ∨ IX fn0 (Int64.toInt z35) 4 (Int32.toInt z19) (Int64.toInt z316) (Int32.toInt x2)) ∧ ((0 = 0 ∧ 1 ≤ (Int32.toInt z325)) ∨ (0 = 1 ∧ (Int32.toInt z325) = (Int32.toInt x8) ∧ 0 ≤ (Int32.toInt z19) ∧ (Int32.toInt z19) ≤ 1500 ∧ (Int32.toInt x0) ≤ (Int32.toInt z19) ∧ (Int32.toInt z19) ≤ (Int32.toInt x1))) from ⟨(by decide), (by decide), (show _ ∧ _ from ⟨p329, p330⟩).1, (show _ ∧ _ from ⟨p329, p330⟩).2, (iv_eq ⟨p6, p7⟩ tz19).1, (iv_eq ⟨p6, p7⟩ tz19).2, (by decide), (by decide), (by first | omega | ((repeat' apply And.intro) <;> first | trivial | rfl | assumption | omega | decide | exact Or.inl rfl | exact Or.inr (Or.inl rfl) | exact Or.inr (Or.inr rfl) | exact Or.inr (Or.inr (by assumption)))), (by first | omega | ((repeat' apply And.intro) <;> first | trivial | rfl | assumption | omega | decide | exact Or.inl rfl | exact Or.inr (Or.inl rfl) | exact Or.inr (Or.inr rfl) | exact Or.inr (Or.inr (by assumption)))), (by first | omega | ((repeat' apply And.intro) <;> first | trivial | rfl | assumption | omega | decide | exact Or.inl rfl | exact Or.inr (Or.inl rfl) | exact Or.inr (Or.inr rfl) | exact Or.inr (Or.inr (by assumption)))), (by first | omega | ((repeat' apply And.intro) <;> first | trivial | rfl | assumption | omega | decide | exact Or.inl rfl | exact Or.inr (Or.inl rfl) | exact Or.inr (Or.inr rfl) | exact Or.inr (Or.inr (by assumption)))), (by first | omega | ((repeat' apply And.intro) <;> first | trivial | rfl | assumption | omega | decide | exact Or.inl rfl | exact Or.inr (Or.inl rfl) | exact Or.inr (Or.inr rfl) | exact Or.inr (Or.inr (by assumption)))), (by first | omega | ((repeat' apply And.intro) <;> first | trivial | rfl | assumption | omega | decide | exact Or.inl rfl | exact Or.inr (Or.inl rfl) | exact Or.inr (Or.inr rfl) | exact Or.inr (Or.inr (by assumption))))⟩) [1, 0] (by decide) rfl (Nat.le_of_ble_eq_true rfl) (Nat.le_of_ble_eq_true rfl)
                  · skip
                    have k332 : ¬ ((Int32.toInt z19) < (Int32.toInt z300)) := fun h_9 => c314 ((fa_lt z19 z300).mpr h_9)
                    refine r_aload_n 113 2 C dX12_index_113 rfl ?_
                    refine r_aload_n 114 2 C dX12_index_114 rfl ?_
                    refine r_get 115 C dX12_index_115 (k := 22) 0 rfl rfl hiX12 (by decide) rfl (mg 3 rfl) (Or.inl rfl) rfl ?_
                    refine r_callVl 118 C dX12_index_118 [] [(h0, .inr (11, [.ref h1, .int x2, .ref h2, .int x3, .int x4, .int x5, .ref h3, .ref h4, .ref h5, .ref h6, .int x6, .int x7, .int z302, .ref h7, .ref h8, .ref h9, .ref h10, .int x9, .int x10, .int x11, .long z303, .int z19, .int 4, .long z35, .long y2, .ref h11, .ref h12, .ref h13, .ref h14, .long y3, .int x14, .ref h15, .int x15, .int x16, .int x17, .int x18, .ref h16, .ref h17, .ref h18, .ref h19, .ref h20, .ref h21, .ref h22, .ref h23, .ref h24, .ref h25, .ref h26, .int x19, .int x20, .int x21, .int x22, .int x23, .int x24, .int x25, .long y4, .int x26, .ref h27, .ref h28, .long y5, .long y6, .int x27, .ref h29, .int x28, .ref h30, .ref h31, .ref h32, .ref h33, .int x29, .int x30, .int x31, .int x32, .ref h34, .ref h35, .int x33, .int x34, .ref h36])), (h1, .inl (gB g, 1500, .inl fn0))] [] (fun sz => c46_X12_number l g h0 h1 x2 h2 x3 x4 x5 h3 h4 h5 h6 x6 x7 z302 h7 h8 h9 h10 x9 x10 x11 z303 z19 4 z35 y2 h11 h12 h13 h14 y3 x14 h15 x15 x16 x17 x18 h16 h17 h18 h19 h20 h21 h22 h23 h24 h25 h26 x19 x20 x21 x22 x23 x24 x25 y4 x26 h27 h28 y5 y6 x27 h29 x28 h30 h31 h32 h33 x29 x30 x31 x32 h34 h35 x33 x34 h36 fn0 i_x2 i_x3 i_x5 ⟨i310a, i310b⟩ i_x9 (iv_eq ⟨p6, p7⟩ tz19) (by decide) ⟨by omega, by omega⟩ i_y2 i_x14 i_x15 i_x16 i_x17 i_x18 i_x20 i_x21 i_x22 i_x23 i_x24 i_x26 i_x27 i_x28 i_x29 i_x30 i_x31 i_x32 i_x33 i_x34 sz) gX12_index_X12_number rfl ⟨rfl, rfl⟩ 1 (by decide) ⟨Nat.le_of_ble_eq_true rfl, Nat.le_of_ble_eq_true rfl⟩ 0 rfl rfl [0, 1] [] rfl rfl (by decide) (by decide) (by decide) rfl rfl (Nat.le_of_ble_eq_true rfl) ⟨Nat.le_of_ble_eq_true rfl, Nat.le_of_ble_eq_true rfl⟩ (fun r335 u337 w336 => ?_)
                    obtain ⟨z333, z334⟩ := u337
                    refine r_ws [(h0, .inr (11, [.ref h1, .int x2, .ref h2, .int x3, .int x4, .int x5, .ref h3, .ref h4, .ref h5, .ref h6, .int x6, .int x7, .int z333, .ref h7, .ref h8, .ref h9, .ref h10, .int x9, .int x10, .int x11, .long z334, .int z19, .int 4, .long z35, .long y2, .ref h11, .ref h12, .ref h13, .ref h14, .long y3, .int x14, .ref h15, .int x15, .int x16, .int x17, .int x18, .ref h16, .ref h17, .ref h18, .ref h19, .ref h20, .ref h21, .ref h22, .ref h23, .ref h24, .ref h25, .ref h26, .int x19, .int x20, .int x21, .int x22, .int x23, .int x24, .int x25, .long y4, .int x26, .ref h27, .ref h28, .long y5, .long y6, .int x27, .ref h29, .int x28, .ref h30, .ref h31, .ref h32, .ref h33, .int x29, .int x30, .int x31, .int x32, .ref h34, .ref h35, .int x33, .int x34, .ref h36])), (h1, .inl (gB g, 1500, .inl fn0))] rfl ?_
                    have gz334 := fb_rngL z334
                    have p338 : 0 ≤ (Int64.toInt r335) := w336.1
                    have p339 : (Int64.toInt r335) ≤ 4294967295 := w336.2.1
                    have p340 : 0 ≤ (Int32.toInt z333) := w336.2.2.1
                    have p341 : (Int32.toInt z333) ≤ 3 := w336.2.2.2.1
                    have p342 : ((1 ≤ (Int32.toInt z333)) ∨ ((Int32.toInt z302) = 0 ∧ (Int32.toInt z333) = 0 ∧ 0 ≤ (Int64.toInt z303) ∧ (Int64.toInt z303) + 4 ≤ (Int32.toInt x2) ∧ (Int64.toInt z334) = (Int64.toInt z303) + 4 ∧ (Int64.toInt r335) = ((B8 fn0 ((Int64.toInt z303)) * 256 + B8 fn0 ((Int64.toInt z303) + 1)) * 256 + B8 fn0 ((Int64.toInt z303) + 2)) * 256 + B8 fn0 ((Int64.toInt z303) + 3))) := w336.2.2.2.2
                    rcases p342 with k343 | p342
                    · skip
                      refine r_lstore 121 C dX12_index_121 [(6, .long r335), (5, .int z300), (3, .long z301), (0, .ref h0), (1, .int x0), (2, .int x1)] (by decide) rfl ?_
                      refine r_aload_n 123 3 C dX12_index_123 rfl ?_
                      refine r_get 124 C dX12_index_124 (k := 12) 0 rfl rfl hiX12 (by decide) rfl (mg 2 rfl) (Or.inl rfl) rfl ?_
                      refine r_if_le_f 127 132 C dX12_index_127 (by decide) (fun h_9 => by have h_8 : (Int32.toInt z333) ≤ 0 := (fa_le z333 0).mp h_9; omega) ?_
                      refine r_iconst 130 0 C dX12_index_130 (by decide) ?_
                      exact r_zret 131 Rt dX12_index_131 (by decide) (z333, z334, z19, 4, z35, y2) (show 0 ≤ (Int32.toInt 0) ∧ (Int32.toInt 0) ≤ 1 ∧ 0 ≤ (Int32.toInt z333) ∧ (Int32.toInt z333) ≤ 3 ∧ 0 ≤ (Int32.toInt z19) ∧ (Int32.toInt z19) ≤ 65535 ∧ 0 ≤ (Int32.toInt 4) ∧ (Int32.toInt 4) ≤ 255 ∧ 0 ≤ (Int64.toInt z35) ∧ (Int64.toInt z35) ≤ 1500 ∧ 0 ≤ (Int64.toInt y2) ∧ (Int64.toInt y2) ≤ 1500 ∧ (0 = 0 ∨ (Int32.toInt z19) = 0 ∨ IX fn0 (Int64.toInt z35) 4 (Int32.toInt z19) (Int64.toInt y2) (Int32.toInt x2)) ∧ ((0 = 0 ∧ 1 ≤ (Int32.toInt z333)) ∨ (0 = 1 ∧ (Int32.toInt z333) = (Int32.toInt x8) ∧ 0 ≤ (Int32.toInt z19) ∧ (Int32.toInt z19) ≤ 1500 ∧ (Int32.toInt x0) ≤ (Int32.toInt z19) ∧ (Int32.toInt z19) ≤ (Int32.toInt x1))) from ⟨(by decide), (by decide), (show _ ∧ _ from ⟨p340, p341⟩).1, (show _ ∧ _ from ⟨p340, p341⟩).2, (iv_eq ⟨p6, p7⟩ tz19).1, (iv_eq ⟨p6, p7⟩ tz19).2, (by decide), (by decide), (by first | omega | ((repeat' apply And.intro) <;> first | trivial | rfl | assumption | omega | decide | exact Or.inl rfl | exact Or.inr (Or.inl rfl) | exact Or.inr (Or.inr rfl) | exact Or.inr (Or.inr (by assumption)))), (by first | omega | ((repeat' apply And.intro) <;> first | trivial | rfl | assumption | omega | decide | exact Or.inl rfl | exact Or.inr (Or.inl rfl) | exact Or.inr (Or.inr rfl) | exact Or.inr (Or.inr (by assumption)))), i_y2.1, i_y2.2, (by first | omega | ((repeat' apply And.intro) <;> first | trivial | rfl | assumption | omega | decide | exact Or.inl rfl | exact Or.inr (Or.inl rfl) | exact Or.inr (Or.inr rfl) | exact Or.inr (Or.inr (by assumption)))), (by first | omega | ((repeat' apply And.intro) <;> first | trivial | rfl | assumption | omega | decide | exact Or.inl rfl | exact Or.inr (Or.inl rfl) | exact Or.inr (Or.inr rfl) | exact Or.inr (Or.inr (by assumption))))⟩) [0, 1] (by decide) rfl (Nat.le_of_ble_eq_true rfl) (Nat.le_of_ble_eq_true rfl)
                    obtain ⟨k344, k345, k346, k347, k348, k349⟩ := p342
                    refine r_lstore 121 C dX12_index_121 [(6, .long r335), (5, .int z300), (3, .long z301), (0, .ref h0), (1, .int x0), (2, .int x1)] (by decide) rfl ?_
                    refine r_aload_n 123 3 C dX12_index_123 rfl ?_
                    refine r_get 124 C dX12_index_124 (k := 12) 0 rfl rfl hiX12 (by decide) rfl (mg 2 rfl) (Or.inl rfl) rfl ?_
                    refine r_if_le_t 127 132 C dX12_index_127 (by decide) ((fa_le z333 0).mpr (by show (Int32.toInt z333) ≤ 0; omega)) ?_
                    have o350 : OFF fn0 (Int64.toInt z35) 4 (Int32.toInt z300) = (Int64.toInt r335) := offk_4 (t := (Int64.toInt z303)) (by omega) (by omega)
                    refine r_iload 132 1 C dX12_index_132 rfl ?_
                    refine r_if_ne 134 147 C dX12_index_134 (by decide) (fun c351 => ?_) (fun c351 => ?_)
                    · skip
                      have k352 : ¬ ((Int32.toInt z300) = 0) := fun h_9 => c351 ((fa_eq z300 0).mpr h_9)
                      refine r_lload 147 0 C dX12_index_147 rfl ?_
                      refine r_lload_n 149 2 C dX12_index_149 rfl ?_
                      obtain ⟨z353, ez353⟩ : ∃ z_9, lg_cmp r335 z301 = z_9 := ⟨_, rfl⟩
                      have l1z353 : (Int32.toInt z353) < 0 ↔ (Int64.toInt r335) < (Int64.toInt z301) := by rw [← ez353]; exact lgI1 r335 z301
                      have l2z353 : 0 < (Int32.toInt z353) ↔ (Int64.toInt z301) < (Int64.toInt r335) := by rw [← ez353]; exact lgI2 r335 z301
                      refine r_lcmp 150 z353 C dX12_index_150 ez353 ?_
                      refine r_if_ge 151 160 C dX12_index_151 (by decide) (fun c354 => ?_) (fun c354 => ?_)
                      · skip
                        have k355 : 0 ≤ (Int32.toInt z353) := (fa_le 0 z353).mp c354
                        refine r_lload 160 0 C dX12_index_160 rfl ?_
                        refine r_lstore_n 162 C dX12_index_162 [(3, .long r335), (6, .long r335), (5, .int z300), (0, .ref h0), (1, .int x0), (2, .int x1)] (by decide) rfl ?_
                        obtain ⟨z356, ez356⟩ : ∃ z_9, z300 + Int32.ofInt 1 = z_9 := ⟨_, rfl⟩
                        have tz356 : (Int32.toInt z356) = (Int32.toInt z300) + 1 := by rw [← ez356]; exact fb_addIv (a := 0) (b := 65536) (c := 1) (d := 1) ⟨i308a, i308b⟩ ⟨by decide, by decide⟩ (by decide) (by decide)
                        refine r_iinc 163 2 z356 C dX12_index_163 rfl ez356 [(5, .int z356), (3, .long r335), (6, .long r335), (0, .ref h0), (1, .int x0), (2, .int x1)] (by decide) rfl ?_
                        refine r_goto 166 104 C dX12_index_166 (by decide) ?_
                        refine r_lv [(5, .int z356), (3, .long r335), (0, .ref h0), (1, .int x0), (2, .int x1)] [0, 1, 3, 4, 5] rfl ?_
                        exact ih306 z356 r335 z333 z334 ⟨by omega, by omega⟩ ⟨p338, p339⟩ ⟨p340, p341⟩ ⟨by omega, by omega⟩ (by have a_1 : OFF fn0 (Int64.toInt z35) 4 ((Int32.toInt z356) - 1) = OFF fn0 (Int64.toInt z35) 4 (Int32.toInt z300) := (by rw [show (Int32.toInt z356) - 1 = (Int32.toInt z300) from by omega]); have a_2 : (Int32.toInt z300) = 0 → OFF fn0 (Int64.toInt z35) 4 (Int32.toInt z300) = OFF fn0 (Int64.toInt z35) 4 0 := (fun h_9 => by rw [h_9]); show (Int32.toInt z333) = 0 ∧ (Int64.toInt z334) = (Int64.toInt z35) + 4 * (Int32.toInt z356) ∧ (Int32.toInt z356) ≤ (Int32.toInt z19) + 1 ∧ (Int64.toInt z334) ≤ (Int32.toInt x2) ∧ (((Int32.toInt z356) = 0 ∧ (Int64.toInt r335) = 1) ∨ (1 ≤ (Int32.toInt z356) ∧ OFF fn0 (Int64.toInt z35) 4 0 = 1 ∧ (Int64.toInt r335) = OFF fn0 (Int64.toInt z35) 4 ((Int32.toInt z356) - 1))); omega) (mon_step (k := (Int32.toInt z300)) (by assumption) (by show (Int32.toInt z356) = (Int32.toInt z300) + 1; omega) (by show (Int32.toInt z300) = 0 ∨ OFF fn0 (Int64.toInt z35) 4 ((Int32.toInt z300) - 1) ≤ OFF fn0 (Int64.toInt z35) 4 (Int32.toInt z300); omega)) (by omega)
                      · skip
                        have k357 : ¬ (0 ≤ (Int32.toInt z353)) := fun h_9 => c354 ((fa_le 0 z353).mpr h_9)
                        refine r_aload_n 154 3 C dX12_index_154 rfl ?_
                        refine r_iconst 155 2 C dX12_index_155 (by decide) ?_
                        refine r_callVi 156 C dX12_index_156 [] [(h0, .inr (11, [.ref h1, .int x2, .ref h2, .int x3, .int x4, .int x5, .ref h3, .ref h4, .ref h5, .ref h6, .int x6, .int x7, .int z333, .ref h7, .ref h8, .ref h9, .ref h10, .int x9, .int x10, .int x11, .long z334, .int z19, .int 4, .long z35, .long y2, .ref h11, .ref h12, .ref h13, .ref h14, .long y3, .int x14, .ref h15, .int x15, .int x16, .int x17, .int x18, .ref h16, .ref h17, .ref h18, .ref h19, .ref h20, .ref h21, .ref h22, .ref h23, .ref h24, .ref h25, .ref h26, .int x19, .int x20, .int x21, .int x22, .int x23, .int x24, .int x25, .long y4, .int x26, .ref h27, .ref h28, .long y5, .long y6, .int x27, .ref h29, .int x28, .ref h30, .ref h31, .ref h32, .ref h33, .int x29, .int x30, .int x31, .int x32, .ref h34, .ref h35, .int x33, .int x34, .ref h36]))] [(h1, .inl (gB g, 1500, .inl fn0))] (fun sz => c17_X12_fails l g h0 2 h1 x2 h2 x3 x4 x5 h3 h4 h5 h6 x6 x7 z333 h7 h8 h9 h10 x9 x10 x11 z334 z19 4 z35 y2 h11 h12 h13 h14 y3 x14 h15 x15 x16 x17 x18 h16 h17 h18 h19 h20 h21 h22 h23 h24 h25 h26 x19 x20 x21 x22 x23 x24 x25 y4 x26 h27 h28 y5 y6 x27 h29 x28 h30 h31 h32 h33 x29 x30 x31 x32 h34 h35 x33 x34 h36 (by decide) i_x2 i_x3 i_x5 ⟨p340, p341⟩ i_x9 (iv_eq ⟨p6, p7⟩ tz19) (by decide) ⟨by omega, by omega⟩ i_y2 i_x14 i_x15 i_x16 i_x17 i_x18 i_x20 i_x21 i_x22 i_x23 i_x24 i_x26 i_x27 i_x28 i_x29 i_x30 i_x31 i_x32 i_x33 i_x34 sz) gX12_index_X12_fails rfl ⟨rfl, rfl⟩ 1 (by decide) ⟨Nat.le_of_ble_eq_true rfl, Nat.le_of_ble_eq_true rfl⟩ 0 rfl rfl [0] [1] rfl rfl (by decide) (by decide) (by decide) rfl rfl (Nat.le_of_ble_eq_true rfl) ⟨Nat.le_of_ble_eq_true rfl, Nat.le_of_ble_eq_true rfl⟩ (fun r359 z358 w360 => ?_)
                        refine r_ws [(h1, .inl (gB g, 1500, .inl fn0)), (h0, .inr (11, [.ref h1, .int x2, .ref h2, .int x3, .int x4, .int x5, .ref h3, .ref h4, .ref h5, .ref h6, .int x6, .int x7, .int z358, .ref h7, .ref h8, .ref h9, .ref h10, .int x9, .int x10, .int x11, .long z334, .int z19, .int 4, .long z35, .long y2, .ref h11, .ref h12, .ref h13, .ref h14, .long y3, .int x14, .ref h15, .int x15, .int x16, .int x17, .int x18, .ref h16, .ref h17, .ref h18, .ref h19, .ref h20, .ref h21, .ref h22, .ref h23, .ref h24, .ref h25, .ref h26, .int x19, .int x20, .int x21, .int x22, .int x23, .int x24, .int x25, .long y4, .int x26, .ref h27, .ref h28, .long y5, .long y6, .int x27, .ref h29, .int x28, .ref h30, .ref h31, .ref h32, .ref h33, .int x29, .int x30, .int x31, .int x32, .ref h34, .ref h35, .int x33, .int x34, .ref h36]))] rfl ?_
                        have p361 : 0 = r359 := (w360.1).symm
                        subst p361
                        have p362 : 0 ≤ (Int32.toInt z358) := w360.2.1
                        have p363 : (Int32.toInt z358) ≤ 3 := w360.2.2.1
                        have p364 : (1 ≤ (Int32.toInt z358)) := w360.2.2.2
                        exact r_zret 159 Rt dX12_index_159 (by decide) (z358, z334, z19, 4, z35, y2) (show 0 ≤ (Int32.toInt 0) ∧ (Int32.toInt 0) ≤ 1 ∧ 0 ≤ (Int32.toInt z358) ∧ (Int32.toInt z358) ≤ 3 ∧ 0 ≤ (Int32.toInt z19) ∧ (Int32.toInt z19) ≤ 65535 ∧ 0 ≤ (Int32.toInt 4) ∧ (Int32.toInt 4) ≤ 255 ∧ 0 ≤ (Int64.toInt z35) ∧ (Int64.toInt z35) ≤ 1500 ∧ 0 ≤ (Int64.toInt y2) ∧ (Int64.toInt y2) ≤ 1500 ∧ (0 = 0 ∨ (Int32.toInt z19) = 0 ∨ IX fn0 (Int64.toInt z35) 4 (Int32.toInt z19) (Int64.toInt y2) (Int32.toInt x2)) ∧ ((0 = 0 ∧ 1 ≤ (Int32.toInt z358)) ∨ (0 = 1 ∧ (Int32.toInt z358) = (Int32.toInt x8) ∧ 0 ≤ (Int32.toInt z19) ∧ (Int32.toInt z19) ≤ 1500 ∧ (Int32.toInt x0) ≤ (Int32.toInt z19) ∧ (Int32.toInt z19) ≤ (Int32.toInt x1))) from ⟨(by decide), (by decide), (show _ ∧ _ from ⟨p362, p363⟩).1, (show _ ∧ _ from ⟨p362, p363⟩).2, (iv_eq ⟨p6, p7⟩ tz19).1, (iv_eq ⟨p6, p7⟩ tz19).2, (by decide), (by decide), (by first | omega | ((repeat' apply And.intro) <;> first | trivial | rfl | assumption | omega | decide | exact Or.inl rfl | exact Or.inr (Or.inl rfl) | exact Or.inr (Or.inr rfl) | exact Or.inr (Or.inr (by assumption)))), (by first | omega | ((repeat' apply And.intro) <;> first | trivial | rfl | assumption | omega | decide | exact Or.inl rfl | exact Or.inr (Or.inl rfl) | exact Or.inr (Or.inr rfl) | exact Or.inr (Or.inr (by assumption)))), i_y2.1, i_y2.2, (by first | omega | ((repeat' apply And.intro) <;> first | trivial | rfl | assumption | omega | decide | exact Or.inl rfl | exact Or.inr (Or.inl rfl) | exact Or.inr (Or.inr rfl) | exact Or.inr (Or.inr (by assumption)))), (by first | omega | ((repeat' apply And.intro) <;> first | trivial | rfl | assumption | omega | decide | exact Or.inl rfl | exact Or.inr (Or.inl rfl) | exact Or.inr (Or.inr rfl) | exact Or.inr (Or.inr (by assumption))))⟩) [1, 0] (by decide) rfl (Nat.le_of_ble_eq_true rfl) (Nat.le_of_ble_eq_true rfl)
                    · skip
                      have k365 : (Int32.toInt z300) = 0 := (fa_eq z300 0).mp c351
                      refine r_lload 137 0 C dX12_index_137 rfl ?_
                      refine r_lconst 139 1 C dX12_index_139 (by decide) ?_
                      obtain ⟨z366, ez366⟩ : ∃ z_9, lg_cmp r335 1 = z_9 := ⟨_, rfl⟩
                      have l1z366 : (Int32.toInt z366) < 0 ↔ (Int64.toInt r335) < 1 := by rw [← ez366]; exact lgI1 r335 1
                      have l2z366 : 0 < (Int32.toInt z366) ↔ 1 < (Int64.toInt r335) := by rw [← ez366]; exact lgI2 r335 1
                      refine r_lcmp 140 z366 C dX12_index_140 ez366 ?_
                      refine r_if_eq 141 160 C dX12_index_141 (by decide) (fun c367 => ?_) (fun c367 => ?_)
                      · skip
                        have k368 : (Int32.toInt z366) = 0 := (fa_eq z366 0).mp c367
                        refine r_lload 160 0 C dX12_index_160 rfl ?_
                        refine r_lstore_n 162 C dX12_index_162 [(3, .long r335), (6, .long r335), (5, .int z300), (0, .ref h0), (1, .int x0), (2, .int x1)] (by decide) rfl ?_
                        obtain ⟨z369, ez369⟩ : ∃ z_9, z300 + Int32.ofInt 1 = z_9 := ⟨_, rfl⟩
                        have tz369 : (Int32.toInt z369) = (Int32.toInt z300) + 1 := by rw [← ez369]; exact fb_addIv (a := 0) (b := 65536) (c := 1) (d := 1) ⟨i308a, i308b⟩ ⟨by decide, by decide⟩ (by decide) (by decide)
                        refine r_iinc 163 2 z369 C dX12_index_163 rfl ez369 [(5, .int z369), (3, .long r335), (6, .long r335), (0, .ref h0), (1, .int x0), (2, .int x1)] (by decide) rfl ?_
                        refine r_goto 166 104 C dX12_index_166 (by decide) ?_
                        refine r_lv [(5, .int z369), (3, .long r335), (0, .ref h0), (1, .int x0), (2, .int x1)] [0, 1, 3, 4, 5] rfl ?_
                        exact ih306 z369 r335 z333 z334 ⟨by omega, by omega⟩ ⟨p338, p339⟩ ⟨p340, p341⟩ ⟨by omega, by omega⟩ (by have a_1 : OFF fn0 (Int64.toInt z35) 4 ((Int32.toInt z369) - 1) = OFF fn0 (Int64.toInt z35) 4 (Int32.toInt z300) := (by rw [show (Int32.toInt z369) - 1 = (Int32.toInt z300) from by omega]); have a_2 : (Int32.toInt z300) = 0 → OFF fn0 (Int64.toInt z35) 4 (Int32.toInt z300) = OFF fn0 (Int64.toInt z35) 4 0 := (fun h_9 => by rw [h_9]); show (Int32.toInt z333) = 0 ∧ (Int64.toInt z334) = (Int64.toInt z35) + 4 * (Int32.toInt z369) ∧ (Int32.toInt z369) ≤ (Int32.toInt z19) + 1 ∧ (Int64.toInt z334) ≤ (Int32.toInt x2) ∧ (((Int32.toInt z369) = 0 ∧ (Int64.toInt r335) = 1) ∨ (1 ≤ (Int32.toInt z369) ∧ OFF fn0 (Int64.toInt z35) 4 0 = 1 ∧ (Int64.toInt r335) = OFF fn0 (Int64.toInt z35) 4 ((Int32.toInt z369) - 1))); omega) (mon_step (k := (Int32.toInt z300)) (by assumption) (by show (Int32.toInt z369) = (Int32.toInt z300) + 1; omega) (by show (Int32.toInt z300) = 0 ∨ OFF fn0 (Int64.toInt z35) 4 ((Int32.toInt z300) - 1) ≤ OFF fn0 (Int64.toInt z35) 4 (Int32.toInt z300); omega)) (by omega)
                      · skip
                        have k370 : ¬ ((Int32.toInt z366) = 0) := fun h_9 => c367 ((fa_eq z366 0).mpr h_9)
                        refine r_goto 144 154 C dX12_index_144 (by decide) ?_
                        refine r_aload_n 154 3 C dX12_index_154 rfl ?_
                        refine r_iconst 155 2 C dX12_index_155 (by decide) ?_
                        refine r_callVi 156 C dX12_index_156 [] [(h0, .inr (11, [.ref h1, .int x2, .ref h2, .int x3, .int x4, .int x5, .ref h3, .ref h4, .ref h5, .ref h6, .int x6, .int x7, .int z333, .ref h7, .ref h8, .ref h9, .ref h10, .int x9, .int x10, .int x11, .long z334, .int z19, .int 4, .long z35, .long y2, .ref h11, .ref h12, .ref h13, .ref h14, .long y3, .int x14, .ref h15, .int x15, .int x16, .int x17, .int x18, .ref h16, .ref h17, .ref h18, .ref h19, .ref h20, .ref h21, .ref h22, .ref h23, .ref h24, .ref h25, .ref h26, .int x19, .int x20, .int x21, .int x22, .int x23, .int x24, .int x25, .long y4, .int x26, .ref h27, .ref h28, .long y5, .long y6, .int x27, .ref h29, .int x28, .ref h30, .ref h31, .ref h32, .ref h33, .int x29, .int x30, .int x31, .int x32, .ref h34, .ref h35, .int x33, .int x34, .ref h36]))] [(h1, .inl (gB g, 1500, .inl fn0))] (fun sz => c17_X12_fails l g h0 2 h1 x2 h2 x3 x4 x5 h3 h4 h5 h6 x6 x7 z333 h7 h8 h9 h10 x9 x10 x11 z334 z19 4 z35 y2 h11 h12 h13 h14 y3 x14 h15 x15 x16 x17 x18 h16 h17 h18 h19 h20 h21 h22 h23 h24 h25 h26 x19 x20 x21 x22 x23 x24 x25 y4 x26 h27 h28 y5 y6 x27 h29 x28 h30 h31 h32 h33 x29 x30 x31 x32 h34 h35 x33 x34 h36 (by decide) i_x2 i_x3 i_x5 ⟨p340, p341⟩ i_x9 (iv_eq ⟨p6, p7⟩ tz19) (by decide) ⟨by omega, by omega⟩ i_y2 i_x14 i_x15 i_x16 i_x17 i_x18 i_x20 i_x21 i_x22 i_x23 i_x24 i_x26 i_x27 i_x28 i_x29 i_x30 i_x31 i_x32 i_x33 i_x34 sz) gX12_index_X12_fails rfl ⟨rfl, rfl⟩ 1 (by decide) ⟨Nat.le_of_ble_eq_true rfl, Nat.le_of_ble_eq_true rfl⟩ 0 rfl rfl [0] [1] rfl rfl (by decide) (by decide) (by decide) rfl rfl (Nat.le_of_ble_eq_true rfl) ⟨Nat.le_of_ble_eq_true rfl, Nat.le_of_ble_eq_true rfl⟩ (fun r372 z371 w373 => ?_)
                        refine r_ws [(h1, .inl (gB g, 1500, .inl fn0)), (h0, .inr (11, [.ref h1, .int x2, .ref h2, .int x3, .int x4, .int x5, .ref h3, .ref h4, .ref h5, .ref h6, .int x6, .int x7, .int z371, .ref h7, .ref h8, .ref h9, .ref h10, .int x9, .int x10, .int x11, .long z334, .int z19, .int 4, .long z35, .long y2, .ref h11, .ref h12, .ref h13, .ref h14, .long y3, .int x14, .ref h15, .int x15, .int x16, .int x17, .int x18, .ref h16, .ref h17, .ref h18, .ref h19, .ref h20, .ref h21, .ref h22, .ref h23, .ref h24, .ref h25, .ref h26, .int x19, .int x20, .int x21, .int x22, .int x23, .int x24, .int x25, .long y4, .int x26, .ref h27, .ref h28, .long y5, .long y6, .int x27, .ref h29, .int x28, .ref h30, .ref h31, .ref h32, .ref h33, .int x29, .int x30, .int x31, .int x32, .ref h34, .ref h35, .int x33, .int x34, .ref h36]))] rfl ?_
                        have p374 : 0 = r372 := (w373.1).symm
                        subst p374
                        have p375 : 0 ≤ (Int32.toInt z371) := w373.2.1
                        have p376 : (Int32.toInt z371) ≤ 3 := w373.2.2.1
                        have p377 : (1 ≤ (Int32.toInt z371)) := w373.2.2.2
                        exact r_zret 159 Rt dX12_index_159 (by decide) (z371, z334, z19, 4, z35, y2) (show 0 ≤ (Int32.toInt 0) ∧ (Int32.toInt 0) ≤ 1 ∧ 0 ≤ (Int32.toInt z371) ∧ (Int32.toInt z371) ≤ 3 ∧ 0 ≤ (Int32.toInt z19) ∧ (Int32.toInt z19) ≤ 65535 ∧ 0 ≤ (Int32.toInt 4) ∧ (Int32.toInt 4) ≤ 255 ∧ 0 ≤ (Int64.toInt z35) ∧ (Int64.toInt z35) ≤ 1500 ∧ 0 ≤ (Int64.toInt y2) ∧ (Int64.toInt y2) ≤ 1500 ∧ (0 = 0 ∨ (Int32.toInt z19) = 0 ∨ IX fn0 (Int64.toInt z35) 4 (Int32.toInt z19) (Int64.toInt y2) (Int32.toInt x2)) ∧ ((0 = 0 ∧ 1 ≤ (Int32.toInt z371)) ∨ (0 = 1 ∧ (Int32.toInt z371) = (Int32.toInt x8) ∧ 0 ≤ (Int32.toInt z19) ∧ (Int32.toInt z19) ≤ 1500 ∧ (Int32.toInt x0) ≤ (Int32.toInt z19) ∧ (Int32.toInt z19) ≤ (Int32.toInt x1))) from ⟨(by decide), (by decide), (show _ ∧ _ from ⟨p375, p376⟩).1, (show _ ∧ _ from ⟨p375, p376⟩).2, (iv_eq ⟨p6, p7⟩ tz19).1, (iv_eq ⟨p6, p7⟩ tz19).2, (by decide), (by decide), (by first | omega | ((repeat' apply And.intro) <;> first | trivial | rfl | assumption | omega | decide | exact Or.inl rfl | exact Or.inr (Or.inl rfl) | exact Or.inr (Or.inr rfl) | exact Or.inr (Or.inr (by assumption)))), (by first | omega | ((repeat' apply And.intro) <;> first | trivial | rfl | assumption | omega | decide | exact Or.inl rfl | exact Or.inr (Or.inl rfl) | exact Or.inr (Or.inr rfl) | exact Or.inr (Or.inr (by assumption)))), i_y2.1, i_y2.2, (by first | omega | ((repeat' apply And.intro) <;> first | trivial | rfl | assumption | omega | decide | exact Or.inl rfl | exact Or.inr (Or.inl rfl) | exact Or.inr (Or.inr rfl) | exact Or.inr (Or.inr (by assumption)))), (by first | omega | ((repeat' apply And.intro) <;> first | trivial | rfl | assumption | omega | decide | exact Or.inl rfl | exact Or.inr (Or.inl rfl) | exact Or.inr (Or.inr rfl) | exact Or.inr (Or.inr (by assumption))))⟩) [1, 0] (by decide) rfl (Nat.le_of_ble_eq_true rfl) (Nat.le_of_ble_eq_true rfl)
              exact lp305 _ 0 1 z34 z35 (by decide) (by decide) ⟨p41, p42⟩ ⟨by omega, by omega⟩ (by show (Int32.toInt z34) = 0 ∧ (Int64.toInt z35) = (Int64.toInt z35) + 4 * (0 : Int) ∧ (0 : Int) ≤ (Int32.toInt z19) + 1 ∧ (Int64.toInt z35) ≤ (Int32.toInt x2) ∧ (((0 : Int) = 0 ∧ (1 : Int) = 1) ∨ (1 ≤ (0 : Int) ∧ OFF fn0 (Int64.toInt z35) 4 0 = 1 ∧ (1 : Int) = OFF fn0 (Int64.toInt z35) 4 ((0 : Int) - 1))); omega) (mon_0 (k := 0) (by decide)) (Nat.lt_succ_self _)
          · skip
            have k378 : ¬ ((Int32.toInt z52) ≤ 4) := fun h_9 => c63 ((fa_le z52 4).mpr h_9)
            refine r_aload_n 85 0 C dX12_index_85 rfl ?_
            refine r_iconst 86 2 C dX12_index_86 (by decide) ?_
            refine r_callVi 87 C dX12_index_87 [] [(h0, .inr (11, [.ref h1, .int x2, .ref h2, .int x3, .int x4, .int x5, .ref h3, .ref h4, .ref h5, .ref h6, .int x6, .int x7, .int z34, .ref h7, .ref h8, .ref h9, .ref h10, .int x9, .int x10, .int x11, .long z35, .int z19, .int z52, .long y1, .long y2, .ref h11, .ref h12, .ref h13, .ref h14, .long y3, .int x14, .ref h15, .int x15, .int x16, .int x17, .int x18, .ref h16, .ref h17, .ref h18, .ref h19, .ref h20, .ref h21, .ref h22, .ref h23, .ref h24, .ref h25, .ref h26, .int x19, .int x20, .int x21, .int x22, .int x23, .int x24, .int x25, .long y4, .int x26, .ref h27, .ref h28, .long y5, .long y6, .int x27, .ref h29, .int x28, .ref h30, .ref h31, .ref h32, .ref h33, .int x29, .int x30, .int x31, .int x32, .ref h34, .ref h35, .int x33, .int x34, .ref h36]))] [(h1, .inl (gB g, 1500, .inl fn0))] (fun sz => c17_X12_fails l g h0 2 h1 x2 h2 x3 x4 x5 h3 h4 h5 h6 x6 x7 z34 h7 h8 h9 h10 x9 x10 x11 z35 z19 z52 y1 y2 h11 h12 h13 h14 y3 x14 h15 x15 x16 x17 x18 h16 h17 h18 h19 h20 h21 h22 h23 h24 h25 h26 x19 x20 x21 x22 x23 x24 x25 y4 x26 h27 h28 y5 y6 x27 h29 x28 h30 h31 h32 h33 x29 x30 x31 x32 h34 h35 x33 x34 h36 (by decide) i_x2 i_x3 i_x5 ⟨p41, p42⟩ i_x9 (iv_eq ⟨p6, p7⟩ tz19) (iv_eq ⟨p39, p40⟩ tz52) i_y1 i_y2 i_x14 i_x15 i_x16 i_x17 i_x18 i_x20 i_x21 i_x22 i_x23 i_x24 i_x26 i_x27 i_x28 i_x29 i_x30 i_x31 i_x32 i_x33 i_x34 sz) gX12_index_X12_fails rfl ⟨rfl, rfl⟩ 1 (by decide) ⟨Nat.le_of_ble_eq_true rfl, Nat.le_of_ble_eq_true rfl⟩ 0 rfl rfl [0] [1] rfl rfl (by decide) (by decide) (by decide) rfl rfl (Nat.le_of_ble_eq_true rfl) ⟨Nat.le_of_ble_eq_true rfl, Nat.le_of_ble_eq_true rfl⟩ (fun r380 z379 w381 => ?_)
            refine r_ws [(h1, .inl (gB g, 1500, .inl fn0)), (h0, .inr (11, [.ref h1, .int x2, .ref h2, .int x3, .int x4, .int x5, .ref h3, .ref h4, .ref h5, .ref h6, .int x6, .int x7, .int z379, .ref h7, .ref h8, .ref h9, .ref h10, .int x9, .int x10, .int x11, .long z35, .int z19, .int z52, .long y1, .long y2, .ref h11, .ref h12, .ref h13, .ref h14, .long y3, .int x14, .ref h15, .int x15, .int x16, .int x17, .int x18, .ref h16, .ref h17, .ref h18, .ref h19, .ref h20, .ref h21, .ref h22, .ref h23, .ref h24, .ref h25, .ref h26, .int x19, .int x20, .int x21, .int x22, .int x23, .int x24, .int x25, .long y4, .int x26, .ref h27, .ref h28, .long y5, .long y6, .int x27, .ref h29, .int x28, .ref h30, .ref h31, .ref h32, .ref h33, .int x29, .int x30, .int x31, .int x32, .ref h34, .ref h35, .int x33, .int x34, .ref h36]))] rfl ?_
            have p382 : 0 = r380 := (w381.1).symm
            subst p382
            have p383 : 0 ≤ (Int32.toInt z379) := w381.2.1
            have p384 : (Int32.toInt z379) ≤ 3 := w381.2.2.1
            have p385 : (1 ≤ (Int32.toInt z379)) := w381.2.2.2
            exact r_zret 90 Rt dX12_index_90 (by decide) (z379, z35, z19, z52, y1, y2) (show 0 ≤ (Int32.toInt 0) ∧ (Int32.toInt 0) ≤ 1 ∧ 0 ≤ (Int32.toInt z379) ∧ (Int32.toInt z379) ≤ 3 ∧ 0 ≤ (Int32.toInt z19) ∧ (Int32.toInt z19) ≤ 65535 ∧ 0 ≤ (Int32.toInt z52) ∧ (Int32.toInt z52) ≤ 255 ∧ 0 ≤ (Int64.toInt y1) ∧ (Int64.toInt y1) ≤ 1500 ∧ 0 ≤ (Int64.toInt y2) ∧ (Int64.toInt y2) ≤ 1500 ∧ (0 = 0 ∨ (Int32.toInt z19) = 0 ∨ IX fn0 (Int64.toInt y1) (Int32.toInt z52) (Int32.toInt z19) (Int64.toInt y2) (Int32.toInt x2)) ∧ ((0 = 0 ∧ 1 ≤ (Int32.toInt z379)) ∨ (0 = 1 ∧ (Int32.toInt z379) = (Int32.toInt x8) ∧ 0 ≤ (Int32.toInt z19) ∧ (Int32.toInt z19) ≤ 1500 ∧ (Int32.toInt x0) ≤ (Int32.toInt z19) ∧ (Int32.toInt z19) ≤ (Int32.toInt x1))) from ⟨(by decide), (by decide), (show _ ∧ _ from ⟨p383, p384⟩).1, (show _ ∧ _ from ⟨p383, p384⟩).2, (iv_eq ⟨p6, p7⟩ tz19).1, (iv_eq ⟨p6, p7⟩ tz19).2, (iv_eq ⟨p39, p40⟩ tz52).1, (iv_eq ⟨p39, p40⟩ tz52).2, i_y1.1, i_y1.2, i_y2.1, i_y2.2, (by first | omega | ((repeat' apply And.intro) <;> first | trivial | rfl | assumption | omega | decide | exact Or.inl rfl | exact Or.inr (Or.inl rfl) | exact Or.inr (Or.inr rfl) | exact Or.inr (Or.inr (by assumption)))), (by first | omega | ((repeat' apply And.intro) <;> first | trivial | rfl | assumption | omega | decide | exact Or.inl rfl | exact Or.inr (Or.inl rfl) | exact Or.inr (Or.inr rfl) | exact Or.inr (Or.inr (by assumption))))⟩) [1, 0] (by decide) rfl (Nat.le_of_ble_eq_true rfl) (Nat.le_of_ble_eq_true rfl)
      · skip
        have k386 : (Int32.toInt z19) = 0 := (fa_eq z19 0).mp c32
        refine r_iconst 48 1 C dX12_index_48 (by decide) ?_
        exact r_zret 49 Rt dX12_index_49 (by decide) (z1, z2, z19, x13, y1, y2) (show 0 ≤ (Int32.toInt 1) ∧ (Int32.toInt 1) ≤ 1 ∧ 0 ≤ (Int32.toInt z1) ∧ (Int32.toInt z1) ≤ 3 ∧ 0 ≤ (Int32.toInt z19) ∧ (Int32.toInt z19) ≤ 65535 ∧ 0 ≤ (Int32.toInt x13) ∧ (Int32.toInt x13) ≤ 255 ∧ 0 ≤ (Int64.toInt y1) ∧ (Int64.toInt y1) ≤ 1500 ∧ 0 ≤ (Int64.toInt y2) ∧ (Int64.toInt y2) ≤ 1500 ∧ (1 = 0 ∨ (Int32.toInt z19) = 0 ∨ IX fn0 (Int64.toInt y1) (Int32.toInt x13) (Int32.toInt z19) (Int64.toInt y2) (Int32.toInt x2)) ∧ ((1 = 0 ∧ 1 ≤ (Int32.toInt z1)) ∨ (1 = 1 ∧ (Int32.toInt z1) = (Int32.toInt x8) ∧ 0 ≤ (Int32.toInt z19) ∧ (Int32.toInt z19) ≤ 1500 ∧ (Int32.toInt x0) ≤ (Int32.toInt z19) ∧ (Int32.toInt z19) ≤ (Int32.toInt x1))) from ⟨(by decide), (by decide), (show _ ∧ _ from ⟨p8, p9⟩).1, (show _ ∧ _ from ⟨p8, p9⟩).2, (iv_eq ⟨p6, p7⟩ tz19).1, (iv_eq ⟨p6, p7⟩ tz19).2, i_x13.1, i_x13.2, i_y1.1, i_y1.2, i_y2.1, i_y2.2, (by first | omega | ((repeat' apply And.intro) <;> first | trivial | rfl | assumption | omega | decide | exact Or.inl rfl | exact Or.inr (Or.inl rfl) | exact Or.inr (Or.inr rfl) | exact Or.inr (Or.inr (by assumption)))), (by first | omega | ((repeat' apply And.intro) <;> first | trivial | rfl | assumption | omega | decide | exact Or.inl rfl | exact Or.inr (Or.inl rfl) | exact Or.inr (Or.inr rfl) | exact Or.inr (Or.inr (by assumption))))⟩) [0, 1] (by decide) rfl (Nat.le_of_ble_eq_true rfl) (Nat.le_of_ble_eq_true rfl)
    · skip
      have k387 : ¬ ((Int32.toInt z19) ≤ (Int32.toInt x1)) := fun h_9 => c30 ((fa_le z19 x1).mpr h_9)
      refine r_aload_n 35 0 C dX12_index_35 rfl ?_
      refine r_iconst 36 2 C dX12_index_36 (by decide) ?_
      refine r_callVi 37 C dX12_index_37 [] [(h0, .inr (11, [.ref h1, .int x2, .ref h2, .int x3, .int x4, .int x5, .ref h3, .ref h4, .ref h5, .ref h6, .int x6, .int x7, .int z1, .ref h7, .ref h8, .ref h9, .ref h10, .int x9, .int x10, .int x11, .long z2, .int z19, .int x13, .long y1, .long y2, .ref h11, .ref h12, .ref h13, .ref h14, .long y3, .int x14, .ref h15, .int x15, .int x16, .int x17, .int x18, .ref h16, .ref h17, .ref h18, .ref h19, .ref h20, .ref h21, .ref h22, .ref h23, .ref h24, .ref h25, .ref h26, .int x19, .int x20, .int x21, .int x22, .int x23, .int x24, .int x25, .long y4, .int x26, .ref h27, .ref h28, .long y5, .long y6, .int x27, .ref h29, .int x28, .ref h30, .ref h31, .ref h32, .ref h33, .int x29, .int x30, .int x31, .int x32, .ref h34, .ref h35, .int x33, .int x34, .ref h36]))] [(h1, .inl (gB g, 1500, .inl fn0))] (fun sz => c17_X12_fails l g h0 2 h1 x2 h2 x3 x4 x5 h3 h4 h5 h6 x6 x7 z1 h7 h8 h9 h10 x9 x10 x11 z2 z19 x13 y1 y2 h11 h12 h13 h14 y3 x14 h15 x15 x16 x17 x18 h16 h17 h18 h19 h20 h21 h22 h23 h24 h25 h26 x19 x20 x21 x22 x23 x24 x25 y4 x26 h27 h28 y5 y6 x27 h29 x28 h30 h31 h32 h33 x29 x30 x31 x32 h34 h35 x33 x34 h36 (by decide) i_x2 i_x3 i_x5 ⟨p8, p9⟩ i_x9 (iv_eq ⟨p6, p7⟩ tz19) i_x13 i_y1 i_y2 i_x14 i_x15 i_x16 i_x17 i_x18 i_x20 i_x21 i_x22 i_x23 i_x24 i_x26 i_x27 i_x28 i_x29 i_x30 i_x31 i_x32 i_x33 i_x34 sz) gX12_index_X12_fails rfl ⟨rfl, rfl⟩ 1 (by decide) ⟨Nat.le_of_ble_eq_true rfl, Nat.le_of_ble_eq_true rfl⟩ 0 rfl rfl [0] [1] rfl rfl (by decide) (by decide) (by decide) rfl rfl (Nat.le_of_ble_eq_true rfl) ⟨Nat.le_of_ble_eq_true rfl, Nat.le_of_ble_eq_true rfl⟩ (fun r389 z388 w390 => ?_)
      refine r_ws [(h1, .inl (gB g, 1500, .inl fn0)), (h0, .inr (11, [.ref h1, .int x2, .ref h2, .int x3, .int x4, .int x5, .ref h3, .ref h4, .ref h5, .ref h6, .int x6, .int x7, .int z388, .ref h7, .ref h8, .ref h9, .ref h10, .int x9, .int x10, .int x11, .long z2, .int z19, .int x13, .long y1, .long y2, .ref h11, .ref h12, .ref h13, .ref h14, .long y3, .int x14, .ref h15, .int x15, .int x16, .int x17, .int x18, .ref h16, .ref h17, .ref h18, .ref h19, .ref h20, .ref h21, .ref h22, .ref h23, .ref h24, .ref h25, .ref h26, .int x19, .int x20, .int x21, .int x22, .int x23, .int x24, .int x25, .long y4, .int x26, .ref h27, .ref h28, .long y5, .long y6, .int x27, .ref h29, .int x28, .ref h30, .ref h31, .ref h32, .ref h33, .int x29, .int x30, .int x31, .int x32, .ref h34, .ref h35, .int x33, .int x34, .ref h36]))] rfl ?_
      have p391 : 0 = r389 := (w390.1).symm
      subst p391
      have p392 : 0 ≤ (Int32.toInt z388) := w390.2.1
      have p393 : (Int32.toInt z388) ≤ 3 := w390.2.2.1
      have p394 : (1 ≤ (Int32.toInt z388)) := w390.2.2.2
      exact r_zret 40 Rt dX12_index_40 (by decide) (z388, z2, z19, x13, y1, y2) (show 0 ≤ (Int32.toInt 0) ∧ (Int32.toInt 0) ≤ 1 ∧ 0 ≤ (Int32.toInt z388) ∧ (Int32.toInt z388) ≤ 3 ∧ 0 ≤ (Int32.toInt z19) ∧ (Int32.toInt z19) ≤ 65535 ∧ 0 ≤ (Int32.toInt x13) ∧ (Int32.toInt x13) ≤ 255 ∧ 0 ≤ (Int64.toInt y1) ∧ (Int64.toInt y1) ≤ 1500 ∧ 0 ≤ (Int64.toInt y2) ∧ (Int64.toInt y2) ≤ 1500 ∧ (0 = 0 ∨ (Int32.toInt z19) = 0 ∨ IX fn0 (Int64.toInt y1) (Int32.toInt x13) (Int32.toInt z19) (Int64.toInt y2) (Int32.toInt x2)) ∧ ((0 = 0 ∧ 1 ≤ (Int32.toInt z388)) ∨ (0 = 1 ∧ (Int32.toInt z388) = (Int32.toInt x8) ∧ 0 ≤ (Int32.toInt z19) ∧ (Int32.toInt z19) ≤ 1500 ∧ (Int32.toInt x0) ≤ (Int32.toInt z19) ∧ (Int32.toInt z19) ≤ (Int32.toInt x1))) from ⟨(by decide), (by decide), (show _ ∧ _ from ⟨p392, p393⟩).1, (show _ ∧ _ from ⟨p392, p393⟩).2, (iv_eq ⟨p6, p7⟩ tz19).1, (iv_eq ⟨p6, p7⟩ tz19).2, i_x13.1, i_x13.2, i_y1.1, i_y1.2, i_y2.1, i_y2.2, (by first | omega | ((repeat' apply And.intro) <;> first | trivial | rfl | assumption | omega | decide | exact Or.inl rfl | exact Or.inr (Or.inl rfl) | exact Or.inr (Or.inr rfl) | exact Or.inr (Or.inr (by assumption)))), (by first | omega | ((repeat' apply And.intro) <;> first | trivial | rfl | assumption | omega | decide | exact Or.inl rfl | exact Or.inr (Or.inl rfl) | exact Or.inr (Or.inr rfl) | exact Or.inr (Or.inr (by assumption))))⟩) [1, 0] (by decide) rfl (Nat.le_of_ble_eq_true rfl) (Nat.le_of_ble_eq_true rfl)
set_option maxHeartbeats 4000000 in
set_option maxRecDepth 100000 in
theorem c48_X12_offset (l : Launch) (g : GD) (h0 : Nat) (h1 : Nat) (x0 : Int32) (x1 : Int32) (h2 : Nat) (x2 : Int32) (x3 : Int32) (x4 : Int32) (h3 : Nat) (h4 : Nat) (h5 : Nat) (h6 : Nat) (x5 : Int32) (x6 : Int32) (x7 : Int32) (h7 : Nat) (h8 : Nat) (h9 : Nat) (h10 : Nat) (x8 : Int32) (x9 : Int32) (x10 : Int32) (y0 : Int64) (x11 : Int32) (x12 : Int32) (y1 : Int64) (y2 : Int64) (h11 : Nat) (h12 : Nat) (h13 : Nat) (h14 : Nat) (y3 : Int64) (x13 : Int32) (h15 : Nat) (x14 : Int32) (x15 : Int32) (x16 : Int32) (x17 : Int32) (h16 : Nat) (h17 : Nat) (h18 : Nat) (h19 : Nat) (h20 : Nat) (h21 : Nat) (h22 : Nat) (h23 : Nat) (h24 : Nat) (h25 : Nat) (h26 : Nat) (x18 : Int32) (x19 : Int32) (x20 : Int32) (x21 : Int32) (x22 : Int32) (x23 : Int32) (x24 : Int32) (y4 : Int64) (x25 : Int32) (h27 : Nat) (h28 : Nat) (y5 : Int64) (y6 : Int64) (x26 : Int32) (h29 : Nat) (x27 : Int32) (h30 : Nat) (h31 : Nat) (h32 : Nat) (h33 : Nat) (x28 : Int32) (x29 : Int32) (x30 : Int32) (x31 : Int32) (h34 : Nat) (h35 : Nat) (x32 : Int32) (x33 : Int32) (h36 : Nat) (fn0 : Nat → Int32) (i_x0 : (0 ≤ (Int32.toInt x0) ∧ (Int32.toInt x0) ≤ 1500)) (i_x1 : (0 ≤ (Int32.toInt x1) ∧ (Int32.toInt x1) ≤ 1500)) (i_x2 : (0 ≤ (Int32.toInt x2) ∧ (Int32.toInt x2) ≤ 1508)) (i_x4 : (-1 ≤ (Int32.toInt x4) ∧ (Int32.toInt x4) ≤ 1)) (i_x7 : (0 ≤ (Int32.toInt x7) ∧ (Int32.toInt x7) ≤ 3)) (i_x8 : (0 ≤ (Int32.toInt x8) ∧ (Int32.toInt x8) ≤ 4500)) (i_x11 : (0 ≤ (Int32.toInt x11) ∧ (Int32.toInt x11) ≤ 65535)) (i_x12 : (0 ≤ (Int32.toInt x12) ∧ (Int32.toInt x12) ≤ 255)) (i_y1 : (0 ≤ (Int64.toInt y1) ∧ (Int64.toInt y1) ≤ 1500)) (i_y2 : (0 ≤ (Int64.toInt y2) ∧ (Int64.toInt y2) ≤ 1500)) (i_x13 : (0 ≤ (Int32.toInt x13) ∧ (Int32.toInt x13) ≤ 1)) (i_x14 : (0 ≤ (Int32.toInt x14) ∧ (Int32.toInt x14) ≤ 1500)) (i_x15 : (0 ≤ (Int32.toInt x15) ∧ (Int32.toInt x15) ≤ 1501)) (i_x16 : (0 ≤ (Int32.toInt x16) ∧ (Int32.toInt x16) ≤ 1500)) (i_x17 : (0 ≤ (Int32.toInt x17) ∧ (Int32.toInt x17) ≤ 1500)) (i_x19 : (0 ≤ (Int32.toInt x19) ∧ (Int32.toInt x19) ≤ 1)) (i_x20 : (0 ≤ (Int32.toInt x20) ∧ (Int32.toInt x20) ≤ 9)) (i_x21 : (0 ≤ (Int32.toInt x21) ∧ (Int32.toInt x21) ≤ 400)) (i_x22 : (0 ≤ (Int32.toInt x22) ∧ (Int32.toInt x22) ≤ 400)) (i_x23 : (0 ≤ (Int32.toInt x23) ∧ (Int32.toInt x23) ≤ 3000)) (i_x25 : (0 ≤ (Int32.toInt x25) ∧ (Int32.toInt x25) ≤ 1)) (i_x26 : (0 ≤ (Int32.toInt x26) ∧ (Int32.toInt x26) ≤ 1)) (i_x27 : (0 ≤ (Int32.toInt x27) ∧ (Int32.toInt x27) ≤ 48)) (i_x28 : (0 ≤ (Int32.toInt x28) ∧ (Int32.toInt x28) ≤ 10)) (i_x29 : (0 ≤ (Int32.toInt x29) ∧ (Int32.toInt x29) ≤ 1)) (i_x30 : (0 ≤ (Int32.toInt x30) ∧ (Int32.toInt x30) ≤ 1)) (i_x31 : (0 ≤ (Int32.toInt x31) ∧ (Int32.toInt x31) ≤ 7)) (i_x32 : (0 ≤ (Int32.toInt x32) ∧ (Int32.toInt x32) ≤ 24)) (i_x33 : (0 ≤ (Int32.toInt x33) ∧ (Int32.toInt x33) ≤ 1)) (pre0 : (IX fn0 (Int64.toInt y1) (Int32.toInt x12) (Int32.toInt x11) (Int64.toInt y2) (Int32.toInt x1))) (pre1 : ((Int32.toInt x0) ≤ (Int32.toInt x11))) (sz : Nat) : Met l yX12_offset wsX12_offset ({ frames := 0, cells := 0, slots := 0, locals := 0 }) (va_Pc [.ref h0, .int x0] (PW g [(h0, .inr (11, [.ref h1, .int x1, .ref h2, .int x2, .int x3, .int x4, .ref h3, .ref h4, .ref h5, .ref h6, .int x5, .int x6, .int x7, .ref h7, .ref h8, .ref h9, .ref h10, .int x8, .int x9, .int x10, .long y0, .int x11, .int x12, .long y1, .long y2, .ref h11, .ref h12, .ref h13, .ref h14, .long y3, .int x13, .ref h15, .int x14, .int x15, .int x16, .int x17, .ref h16, .ref h17, .ref h18, .ref h19, .ref h20, .ref h21, .ref h22, .ref h23, .ref h24, .ref h25, .ref h26, .int x18, .int x19, .int x20, .int x21, .int x22, .int x23, .int x24, .long y4, .int x25, .ref h27, .ref h28, .long y5, .long y6, .int x26, .ref h29, .int x27, .ref h30, .ref h31, .ref h32, .ref h33, .int x28, .int x29, .int x30, .int x31, .ref h34, .ref h35, .int x32, .int x33, .ref h36])), (h1, .inl (gB g, 1500, .inl fn0))] sz)) (va_Ql (fun (r : Int64) (_ : Unit) => 0 ≤ (Int64.toInt r) ∧ (Int64.toInt r) ≤ 4294967295 ∧ ((Int64.toInt r) = OFF fn0 (Int64.toInt y1) (Int32.toInt x12) (Int32.toInt x0))) (BW g (va_A [(h0, .inr (11, [.ref h1, .int x1, .ref h2, .int x2, .int x3, .int x4, .ref h3, .ref h4, .ref h5, .ref h6, .int x5, .int x6, .int x7, .ref h7, .ref h8, .ref h9, .ref h10, .int x8, .int x9, .int x10, .long y0, .int x11, .int x12, .long y1, .long y2, .ref h11, .ref h12, .ref h13, .ref h14, .long y3, .int x13, .ref h15, .int x14, .int x15, .int x16, .int x17, .ref h16, .ref h17, .ref h18, .ref h19, .ref h20, .ref h21, .ref h22, .ref h23, .ref h24, .ref h25, .ref h26, .int x18, .int x19, .int x20, .int x21, .int x22, .int x23, .int x24, .long y4, .int x25, .ref h27, .ref h28, .long y5, .long y6, .int x26, .ref h29, .int x27, .ref h30, .ref h31, .ref h32, .ref h33, .int x28, .int x29, .int x30, .int x31, .ref h34, .ref h35, .int x32, .int x33, .ref h36])), (h1, .inl (gB g, 1500, .inl fn0))] sz) (fun _ : Unit => [(h0, .inr (11, [.ref h1, .int x1, .ref h2, .int x2, .int x3, .int x4, .ref h3, .ref h4, .ref h5, .ref h6, .int x5, .int x6, .int x7, .ref h7, .ref h8, .ref h9, .ref h10, .int x8, .int x9, .int x10, .long y0, .int x11, .int x12, .long y1, .long y2, .ref h11, .ref h12, .ref h13, .ref h14, .long y3, .int x13, .ref h15, .int x14, .int x15, .int x16, .int x17, .ref h16, .ref h17, .ref h18, .ref h19, .ref h20, .ref h21, .ref h22, .ref h23, .ref h24, .ref h25, .ref h26, .int x18, .int x19, .int x20, .int x21, .int x22, .int x23, .int x24, .long y4, .int x25, .ref h27, .ref h28, .long y5, .long y6, .int x26, .ref h29, .int x27, .ref h30, .ref h31, .ref h32, .ref h33, .int x28, .int x29, .int x30, .int x31, .ref h34, .ref h35, .int x32, .int x33, .ref h36])), (h1, .inl (gB g, 1500, .inl fn0))])) (va_A [(h0, .inr (11, [.ref h1, .int x1, .ref h2, .int x2, .int x3, .int x4, .ref h3, .ref h4, .ref h5, .ref h6, .int x5, .int x6, .int x7, .ref h7, .ref h8, .ref h9, .ref h10, .int x8, .int x9, .int x10, .long y0, .int x11, .int x12, .long y1, .long y2, .ref h11, .ref h12, .ref h13, .ref h14, .long y3, .int x13, .ref h15, .int x14, .int x15, .int x16, .int x17, .ref h16, .ref h17, .ref h18, .ref h19, .ref h20, .ref h21, .ref h22, .ref h23, .ref h24, .ref h25, .ref h26, .int x18, .int x19, .int x20, .int x21, .int x22, .int x23, .int x24, .long y4, .int x25, .ref h27, .ref h28, .long y5, .long y6, .int x26, .ref h29, .int x27, .ref h30, .ref h31, .ref h32, .ref h33, .int x28, .int x29, .int x30, .int x31, .ref h34, .ref h35, .int x32, .int x33, .ref h36])), (h1, .inl (gB g, 1500, .inl fn0))] sz)) 0 0 (va_A [(h0, .inr (11, [.ref h1, .int x1, .ref h2, .int x2, .int x3, .int x4, .ref h3, .ref h4, .ref h5, .ref h6, .int x5, .int x6, .int x7, .ref h7, .ref h8, .ref h9, .ref h10, .int x8, .int x9, .int x10, .long y0, .int x11, .int x12, .long y1, .long y2, .ref h11, .ref h12, .ref h13, .ref h14, .long y3, .int x13, .ref h15, .int x14, .int x15, .int x16, .int x17, .ref h16, .ref h17, .ref h18, .ref h19, .ref h20, .ref h21, .ref h22, .ref h23, .ref h24, .ref h25, .ref h26, .int x18, .int x19, .int x20, .int x21, .int x22, .int x23, .int x24, .long y4, .int x25, .ref h27, .ref h28, .long y5, .long y6, .int x26, .ref h29, .int x27, .ref h30, .ref h31, .ref h32, .ref h33, .int x28, .int x29, .int x30, .int x31, .ref h34, .ref h35, .int x32, .int x33, .ref h36])), (h1, .inl (gB g, 1500, .inl fn0))] sz) := by
  refine met_l RX12 (by decide) rfl rfl (Nat.le_of_ble_eq_true rfl) [(0, .ref h0), (1, .int x0)] rfl ?_
  intro p e s m args below meth c A Q C hnm Rt
  have hiX12 : ∀ w ∈ wsX120, w ∈ wsX12_offset := fun w h => List.mem_cons_of_mem _ (List.mem_append_right _ (h))
  obtain ⟨i4, i5, i6, i7, i8, i9, i10, _⟩ := id pre0
  rcases (show (Int32.toInt x12) = 1 ∨ (Int32.toInt x12) = 2 ∨ (Int32.toInt x12) = 3 ∨ (Int32.toInt x12) = 4 by omega) with hq1 | hq1 | hq1 | hq1
  · skip
    have hq2 : x12 = 1 := Int32.toInt_inj.mp (by show (Int32.toInt x12) = 1; omega)
    rw [hq1] at i8
    have hq3 := off_1 (f := fn0) (a := (Int64.toInt y1)) (k := (Int32.toInt x0)) hq1
    refine r_ws [(h0, .inr (11, [.ref h1, .int x1, .ref h2, .int x2, .int x3, .int x4, .ref h3, .ref h4, .ref h5, .ref h6, .int x5, .int x6, .int x7, .ref h7, .ref h8, .ref h9, .ref h10, .int x8, .int x9, .int x10, .long y0, .int x11, .int 1, .long y1, .long y2, .ref h11, .ref h12, .ref h13, .ref h14, .long y3, .int x13, .ref h15, .int x14, .int x15, .int x16, .int x17, .ref h16, .ref h17, .ref h18, .ref h19, .ref h20, .ref h21, .ref h22, .ref h23, .ref h24, .ref h25, .ref h26, .int x18, .int x19, .int x20, .int x21, .int x22, .int x23, .int x24, .long y4, .int x25, .ref h27, .ref h28, .long y5, .long y6, .int x26, .ref h29, .int x27, .ref h30, .ref h31, .ref h32, .ref h33, .int x28, .int x29, .int x30, .int x31, .ref h34, .ref h35, .int x32, .int x33, .ref h36])), (h1, .inl (gB g, 1500, .inl fn0))] (by rw [hq2]) ?_
    refine r_lconst 0 0 C dX12_offset_0 (by decide) ?_
    refine r_lstore_n 1 C dX12_offset_1 [(2, .long 0), (0, .ref h0), (1, .int x0)] (by decide) rfl ?_
    refine r_iconst 2 0 C dX12_offset_2 (by decide) ?_
    refine r_istore 3 C dX12_offset_3 [(4, .int 0), (2, .long 0), (0, .ref h0), (1, .int x0)] (by decide) rfl ?_
    refine r_iload 5 0 C dX12_offset_5 rfl ?_
    refine r_aload_n 7 2 C dX12_offset_7 rfl ?_
    refine r_get 8 C dX12_offset_8 (k := 22) 0 rfl rfl hiX12 (by decide) rfl (mg 1 rfl) (Or.inl rfl) rfl ?_
    refine r_icmp_ge_f 11 51 C dX12_offset_11 (by decide) (by decide) ?_
    refine r_lload_n 14 1 C dX12_offset_14 rfl ?_
    refine r_bipush 15 8 C dX12_offset_15 (by decide) ?_
    refine r_lshl 17 0 C dX12_offset_17 (by decide) ?_
    refine r_aload_n 18 2 C dX12_offset_18 rfl ?_
    refine r_get 19 C dX12_offset_19 (k := 0) 0 rfl rfl hiX12 (by decide) rfl (mg 2 rfl) (Or.inl rfl) rfl ?_
    refine r_aload_n 22 2 C dX12_offset_22 rfl ?_
    refine r_get 23 C dX12_offset_23 (k := 23) 0 rfl rfl hiX12 (by decide) rfl (mg 3 rfl) (Or.inl rfl) rfl ?_
    obtain ⟨z11, ez11⟩ : ∃ z_9, Int64.toInt32 y1 = z_9 := ⟨_, rfl⟩
    have tz11 : (Int32.toInt z11) = (Int64.toInt y1) := by rw [← ez11]; exact l2i_in (by omega) (by omega)
    refine r_l2i 26 z11 C dX12_offset_26 ez11 ?_
    refine r_aload_n 27 2 C dX12_offset_27 rfl ?_
    refine r_get 28 C dX12_offset_28 (k := 22) 0 rfl rfl hiX12 (by decide) rfl (mg 1 rfl) (Or.inl rfl) rfl ?_
    refine r_iload_n 31 3 C dX12_offset_31 rfl ?_
    obtain ⟨z12, ez12⟩ : ∃ z_9, 1 * x0 = z_9 := ⟨_, rfl⟩
    have tz12 : (Int32.toInt z12) = 1 * (Int32.toInt x0) := by rw [← ez12]; exact fb_mulIvr (a := 0) (b := 1500) (c := 1) i_x0 (by decide) (by decide) (by decide) (by decide)
    refine r_imul 32 z12 C dX12_offset_32 ez12 ?_
    obtain ⟨z13, ez13⟩ : ∃ z_9, z11 + z12 = z_9 := ⟨_, rfl⟩
    have tz13 : (Int32.toInt z13) = (Int32.toInt z11) + (Int32.toInt z12) := by rw [← ez13]; exact fb_addIv (a := 0) (b := 1500) (c := 0) (d := 1500) (iv_eq i_y1 tz11) (iv_mulr (a := 0) (b := 1500) (c := 1) i_x0 (by decide) tz12) (by decide) (by decide)
    refine r_iadd 33 z13 C dX12_offset_33 ez13 ?_
    refine r_iload 34 0 C dX12_offset_34 rfl ?_
    refine r_iadd 36 z13 C dX12_offset_36 (Int32.add_zero _) ?_
    obtain ⟨z14, ez14⟩ : ∃ z_9, fn0 (Int32.toNatClampNeg z13) = z_9 := ⟨_, rfl⟩
    refine r_bald 37 z14 C dX12_offset_37 1 rfl (vinI (by omega) (by omega)) ez14 ?_
    have gz14 := fb_rng z14
    obtain ⟨z15, ez15⟩ : ∃ z_9, Int32.toInt64 z14 = z_9 := ⟨_, rfl⟩
    have tz15 : (Int64.toInt z15) = (Int32.toInt z14) := by rw [← ez15]; exact Int32.toInt_toInt64 _
    refine r_i2l 38 z15 C dX12_offset_38 ez15 ?_
    refine r_ldc2 39 255 C dX12_offset_39 (mg 4 rfl) ?_
    obtain ⟨z16, ez16⟩ : ∃ z_9, z15 &&& 255 = z_9 := ⟨_, rfl⟩
    have tz16 : 0 ≤ (Int64.toInt z16) ∧ (Int64.toInt z16) ≤ 255 := by rw [← ez16]; exact and_255L z15
    have bz16 : B8 fn0 ((Int64.toInt y1) + 1 * (Int32.toInt x0)) = (Int64.toInt z16) := b8_of ez14 ez15 ez16 (by omega)
    refine r_land 42 z16 C dX12_offset_42 ez16 ?_
    obtain ⟨z17, ez17⟩ : ∃ z_9, 0 ||| z16 = z_9 := ⟨_, rfl⟩
    have tz17 : (Int64.toInt z17) = (0 : Int) + (Int64.toInt z16) := by rw [← ez17]; exact or_8L (by show 0 ≤ (0 : Int); omega) (by show (0 : Int) % 256 = 0; omega) (by show 0 ≤ (Int64.toInt z16); omega) (by show (Int64.toInt z16) < 256; omega)
    refine r_lor 43 z17 C dX12_offset_43 ez17 ?_
    refine r_lstore_n 44 C dX12_offset_44 [(2, .long z17), (4, .int 0), (0, .ref h0), (1, .int x0)] (by decide) rfl ?_
    refine r_iinc 45 1 1 C dX12_offset_45 rfl (by decide) [(4, .int 1), (2, .long z17), (0, .ref h0), (1, .int x0)] (by decide) rfl ?_
    refine r_goto 48 5 C dX12_offset_48 (by decide) ?_
    refine r_iload 5 0 C dX12_offset_5 rfl ?_
    refine r_aload_n 7 2 C dX12_offset_7 rfl ?_
    refine r_get 8 C dX12_offset_8 (k := 22) 0 rfl rfl hiX12 (by decide) rfl (mg 1 rfl) (Or.inl rfl) rfl ?_
    refine r_icmp_ge_t 11 51 C dX12_offset_11 (by decide) (by decide) ?_
    refine r_lload_n 51 1 C dX12_offset_51 rfl ?_
    refine r_ws [(h0, .inr (11, [.ref h1, .int x1, .ref h2, .int x2, .int x3, .int x4, .ref h3, .ref h4, .ref h5, .ref h6, .int x5, .int x6, .int x7, .ref h7, .ref h8, .ref h9, .ref h10, .int x8, .int x9, .int x10, .long y0, .int x11, .int x12, .long y1, .long y2, .ref h11, .ref h12, .ref h13, .ref h14, .long y3, .int x13, .ref h15, .int x14, .int x15, .int x16, .int x17, .ref h16, .ref h17, .ref h18, .ref h19, .ref h20, .ref h21, .ref h22, .ref h23, .ref h24, .ref h25, .ref h26, .int x18, .int x19, .int x20, .int x21, .int x22, .int x23, .int x24, .long y4, .int x25, .ref h27, .ref h28, .long y5, .long y6, .int x26, .ref h29, .int x27, .ref h30, .ref h31, .ref h32, .ref h33, .int x28, .int x29, .int x30, .int x31, .ref h34, .ref h35, .int x32, .int x33, .ref h36])), (h1, .inl (gB g, 1500, .inl fn0))] (by rw [hq2]) ?_
    exact r_lret 52 Rt dX12_offset_52 () (show 0 ≤ (Int64.toInt z17) ∧ (Int64.toInt z17) ≤ 4294967295 ∧ ((Int64.toInt z17) = OFF fn0 (Int64.toInt y1) (Int32.toInt x12) (Int32.toInt x0)) from ⟨(by first | omega | ((repeat' apply And.intro) <;> first | trivial | rfl | assumption | omega | decide | exact Or.inl rfl | exact Or.inr (Or.inl rfl) | exact Or.inr (Or.inr rfl) | exact Or.inr (Or.inr (by assumption)))), (by first | omega | ((repeat' apply And.intro) <;> first | trivial | rfl | assumption | omega | decide | exact Or.inl rfl | exact Or.inr (Or.inl rfl) | exact Or.inr (Or.inr rfl) | exact Or.inr (Or.inr (by assumption)))), (by first | omega | ((repeat' apply And.intro) <;> first | trivial | rfl | assumption | omega | decide | exact Or.inl rfl | exact Or.inr (Or.inl rfl) | exact Or.inr (Or.inr rfl) | exact Or.inr (Or.inr (by assumption))))⟩) [0, 1] (by decide) rfl (Nat.le_of_ble_eq_true rfl) (Nat.le_of_ble_eq_true rfl)
  · skip
    have hq2 : x12 = 2 := Int32.toInt_inj.mp (by show (Int32.toInt x12) = 2; omega)
    rw [hq1] at i8
    have hq3 := off_2 (f := fn0) (a := (Int64.toInt y1)) (k := (Int32.toInt x0)) hq1
    refine r_ws [(h0, .inr (11, [.ref h1, .int x1, .ref h2, .int x2, .int x3, .int x4, .ref h3, .ref h4, .ref h5, .ref h6, .int x5, .int x6, .int x7, .ref h7, .ref h8, .ref h9, .ref h10, .int x8, .int x9, .int x10, .long y0, .int x11, .int 2, .long y1, .long y2, .ref h11, .ref h12, .ref h13, .ref h14, .long y3, .int x13, .ref h15, .int x14, .int x15, .int x16, .int x17, .ref h16, .ref h17, .ref h18, .ref h19, .ref h20, .ref h21, .ref h22, .ref h23, .ref h24, .ref h25, .ref h26, .int x18, .int x19, .int x20, .int x21, .int x22, .int x23, .int x24, .long y4, .int x25, .ref h27, .ref h28, .long y5, .long y6, .int x26, .ref h29, .int x27, .ref h30, .ref h31, .ref h32, .ref h33, .int x28, .int x29, .int x30, .int x31, .ref h34, .ref h35, .int x32, .int x33, .ref h36])), (h1, .inl (gB g, 1500, .inl fn0))] (by rw [hq2]) ?_
    refine r_lconst 0 0 C dX12_offset_0 (by decide) ?_
    refine r_lstore_n 1 C dX12_offset_1 [(2, .long 0), (0, .ref h0), (1, .int x0)] (by decide) rfl ?_
    refine r_iconst 2 0 C dX12_offset_2 (by decide) ?_
    refine r_istore 3 C dX12_offset_3 [(4, .int 0), (2, .long 0), (0, .ref h0), (1, .int x0)] (by decide) rfl ?_
    refine r_iload 5 0 C dX12_offset_5 rfl ?_
    refine r_aload_n 7 2 C dX12_offset_7 rfl ?_
    refine r_get 8 C dX12_offset_8 (k := 22) 0 rfl rfl hiX12 (by decide) rfl (mg 1 rfl) (Or.inl rfl) rfl ?_
    refine r_icmp_ge_f 11 51 C dX12_offset_11 (by decide) (by decide) ?_
    refine r_lload_n 14 1 C dX12_offset_14 rfl ?_
    refine r_bipush 15 8 C dX12_offset_15 (by decide) ?_
    refine r_lshl 17 0 C dX12_offset_17 (by decide) ?_
    refine r_aload_n 18 2 C dX12_offset_18 rfl ?_
    refine r_get 19 C dX12_offset_19 (k := 0) 0 rfl rfl hiX12 (by decide) rfl (mg 2 rfl) (Or.inl rfl) rfl ?_
    refine r_aload_n 22 2 C dX12_offset_22 rfl ?_
    refine r_get 23 C dX12_offset_23 (k := 23) 0 rfl rfl hiX12 (by decide) rfl (mg 3 rfl) (Or.inl rfl) rfl ?_
    obtain ⟨z18, ez18⟩ : ∃ z_9, Int64.toInt32 y1 = z_9 := ⟨_, rfl⟩
    have tz18 : (Int32.toInt z18) = (Int64.toInt y1) := by rw [← ez18]; exact l2i_in (by omega) (by omega)
    refine r_l2i 26 z18 C dX12_offset_26 ez18 ?_
    refine r_aload_n 27 2 C dX12_offset_27 rfl ?_
    refine r_get 28 C dX12_offset_28 (k := 22) 0 rfl rfl hiX12 (by decide) rfl (mg 1 rfl) (Or.inl rfl) rfl ?_
    refine r_iload_n 31 3 C dX12_offset_31 rfl ?_
    obtain ⟨z19, ez19⟩ : ∃ z_9, 2 * x0 = z_9 := ⟨_, rfl⟩
    have tz19 : (Int32.toInt z19) = 2 * (Int32.toInt x0) := by rw [← ez19]; exact fb_mulIvr (a := 0) (b := 1500) (c := 2) i_x0 (by decide) (by decide) (by decide) (by decide)
    refine r_imul 32 z19 C dX12_offset_32 ez19 ?_
    obtain ⟨z20, ez20⟩ : ∃ z_9, z18 + z19 = z_9 := ⟨_, rfl⟩
    have tz20 : (Int32.toInt z20) = (Int32.toInt z18) + (Int32.toInt z19) := by rw [← ez20]; exact fb_addIv (a := 0) (b := 1500) (c := 0) (d := 3000) (iv_eq i_y1 tz18) (iv_mulr (a := 0) (b := 1500) (c := 2) i_x0 (by decide) tz19) (by decide) (by decide)
    refine r_iadd 33 z20 C dX12_offset_33 ez20 ?_
    refine r_iload 34 0 C dX12_offset_34 rfl ?_
    refine r_iadd 36 z20 C dX12_offset_36 (Int32.add_zero _) ?_
    obtain ⟨z21, ez21⟩ : ∃ z_9, fn0 (Int32.toNatClampNeg z20) = z_9 := ⟨_, rfl⟩
    refine r_bald 37 z21 C dX12_offset_37 1 rfl (vinI (by omega) (by omega)) ez21 ?_
    have gz21 := fb_rng z21
    obtain ⟨z22, ez22⟩ : ∃ z_9, Int32.toInt64 z21 = z_9 := ⟨_, rfl⟩
    have tz22 : (Int64.toInt z22) = (Int32.toInt z21) := by rw [← ez22]; exact Int32.toInt_toInt64 _
    refine r_i2l 38 z22 C dX12_offset_38 ez22 ?_
    refine r_ldc2 39 255 C dX12_offset_39 (mg 4 rfl) ?_
    obtain ⟨z23, ez23⟩ : ∃ z_9, z22 &&& 255 = z_9 := ⟨_, rfl⟩
    have tz23 : 0 ≤ (Int64.toInt z23) ∧ (Int64.toInt z23) ≤ 255 := by rw [← ez23]; exact and_255L z22
    have bz23 : B8 fn0 ((Int64.toInt y1) + 2 * (Int32.toInt x0)) = (Int64.toInt z23) := b8_of ez21 ez22 ez23 (by omega)
    refine r_land 42 z23 C dX12_offset_42 ez23 ?_
    obtain ⟨z24, ez24⟩ : ∃ z_9, 0 ||| z23 = z_9 := ⟨_, rfl⟩
    have tz24 : (Int64.toInt z24) = (0 : Int) + (Int64.toInt z23) := by rw [← ez24]; exact or_8L (by show 0 ≤ (0 : Int); omega) (by show (0 : Int) % 256 = 0; omega) (by show 0 ≤ (Int64.toInt z23); omega) (by show (Int64.toInt z23) < 256; omega)
    refine r_lor 43 z24 C dX12_offset_43 ez24 ?_
    refine r_lstore_n 44 C dX12_offset_44 [(2, .long z24), (4, .int 0), (0, .ref h0), (1, .int x0)] (by decide) rfl ?_
    refine r_iinc 45 1 1 C dX12_offset_45 rfl (by decide) [(4, .int 1), (2, .long z24), (0, .ref h0), (1, .int x0)] (by decide) rfl ?_
    refine r_goto 48 5 C dX12_offset_48 (by decide) ?_
    refine r_iload 5 0 C dX12_offset_5 rfl ?_
    refine r_aload_n 7 2 C dX12_offset_7 rfl ?_
    refine r_get 8 C dX12_offset_8 (k := 22) 0 rfl rfl hiX12 (by decide) rfl (mg 1 rfl) (Or.inl rfl) rfl ?_
    refine r_icmp_ge_f 11 51 C dX12_offset_11 (by decide) (by decide) ?_
    refine r_lload_n 14 1 C dX12_offset_14 rfl ?_
    refine r_bipush 15 8 C dX12_offset_15 (by decide) ?_
    obtain ⟨z25, ez25⟩ : ∃ z_9, z24 <<< (Int32.toInt64 8 &&& 63) = z_9 := ⟨_, rfl⟩
    have tz25 : (Int64.toInt z25) = (Int64.toInt z24) * 256 := by rw [← ez25]; exact shl_8L (by omega) (by omega)
    refine r_lshl 17 z25 C dX12_offset_17 ez25 ?_
    refine r_aload_n 18 2 C dX12_offset_18 rfl ?_
    refine r_get 19 C dX12_offset_19 (k := 0) 0 rfl rfl hiX12 (by decide) rfl (mg 2 rfl) (Or.inl rfl) rfl ?_
    refine r_aload_n 22 2 C dX12_offset_22 rfl ?_
    refine r_get 23 C dX12_offset_23 (k := 23) 0 rfl rfl hiX12 (by decide) rfl (mg 3 rfl) (Or.inl rfl) rfl ?_
    refine r_l2i 26 z18 C dX12_offset_26 ez18 ?_
    refine r_aload_n 27 2 C dX12_offset_27 rfl ?_
    refine r_get 28 C dX12_offset_28 (k := 22) 0 rfl rfl hiX12 (by decide) rfl (mg 1 rfl) (Or.inl rfl) rfl ?_
    refine r_iload_n 31 3 C dX12_offset_31 rfl ?_
    refine r_imul 32 z19 C dX12_offset_32 ez19 ?_
    refine r_iadd 33 z20 C dX12_offset_33 ez20 ?_
    refine r_iload 34 0 C dX12_offset_34 rfl ?_
    obtain ⟨z26, ez26⟩ : ∃ z_9, z20 + 1 = z_9 := ⟨_, rfl⟩
    have tz26 : (Int32.toInt z26) = (Int32.toInt z20) + 1 := by rw [← ez26]; exact fb_addIv (a := 0) (b := 4500) (c := 1) (d := 1) (iv_add (a := 0) (b := 1500) (c := 0) (d := 3000) (iv_eq i_y1 tz18) (iv_mulr (a := 0) (b := 1500) (c := 2) i_x0 (by decide) tz19) tz20) ⟨by decide, by decide⟩ (by decide) (by decide)
    refine r_iadd 36 z26 C dX12_offset_36 ez26 ?_
    obtain ⟨z27, ez27⟩ : ∃ z_9, fn0 (Int32.toNatClampNeg z26) = z_9 := ⟨_, rfl⟩
    refine r_bald 37 z27 C dX12_offset_37 1 rfl (vinI (by omega) (by omega)) ez27 ?_
    have gz27 := fb_rng z27
    obtain ⟨z28, ez28⟩ : ∃ z_9, Int32.toInt64 z27 = z_9 := ⟨_, rfl⟩
    have tz28 : (Int64.toInt z28) = (Int32.toInt z27) := by rw [← ez28]; exact Int32.toInt_toInt64 _
    refine r_i2l 38 z28 C dX12_offset_38 ez28 ?_
    refine r_ldc2 39 255 C dX12_offset_39 (mg 4 rfl) ?_
    obtain ⟨z29, ez29⟩ : ∃ z_9, z28 &&& 255 = z_9 := ⟨_, rfl⟩
    have tz29 : 0 ≤ (Int64.toInt z29) ∧ (Int64.toInt z29) ≤ 255 := by rw [← ez29]; exact and_255L z28
    have bz29 : B8 fn0 ((Int64.toInt y1) + 2 * (Int32.toInt x0) + 1) = (Int64.toInt z29) := b8_of ez27 ez28 ez29 (by omega)
    refine r_land 42 z29 C dX12_offset_42 ez29 ?_
    obtain ⟨z30, ez30⟩ : ∃ z_9, z25 ||| z29 = z_9 := ⟨_, rfl⟩
    have tz30 : (Int64.toInt z30) = (Int64.toInt z25) + (Int64.toInt z29) := by rw [← ez30]; exact or_8L (by show 0 ≤ (Int64.toInt z25); omega) (by show (Int64.toInt z25) % 256 = 0; omega) (by show 0 ≤ (Int64.toInt z29); omega) (by show (Int64.toInt z29) < 256; omega)
    refine r_lor 43 z30 C dX12_offset_43 ez30 ?_
    refine r_lstore_n 44 C dX12_offset_44 [(2, .long z30), (4, .int 1), (0, .ref h0), (1, .int x0)] (by decide) rfl ?_
    refine r_iinc 45 1 2 C dX12_offset_45 rfl (by decide) [(4, .int 2), (2, .long z30), (0, .ref h0), (1, .int x0)] (by decide) rfl ?_
    refine r_goto 48 5 C dX12_offset_48 (by decide) ?_
    refine r_iload 5 0 C dX12_offset_5 rfl ?_
    refine r_aload_n 7 2 C dX12_offset_7 rfl ?_
    refine r_get 8 C dX12_offset_8 (k := 22) 0 rfl rfl hiX12 (by decide) rfl (mg 1 rfl) (Or.inl rfl) rfl ?_
    refine r_icmp_ge_t 11 51 C dX12_offset_11 (by decide) (by decide) ?_
    refine r_lload_n 51 1 C dX12_offset_51 rfl ?_
    refine r_ws [(h0, .inr (11, [.ref h1, .int x1, .ref h2, .int x2, .int x3, .int x4, .ref h3, .ref h4, .ref h5, .ref h6, .int x5, .int x6, .int x7, .ref h7, .ref h8, .ref h9, .ref h10, .int x8, .int x9, .int x10, .long y0, .int x11, .int x12, .long y1, .long y2, .ref h11, .ref h12, .ref h13, .ref h14, .long y3, .int x13, .ref h15, .int x14, .int x15, .int x16, .int x17, .ref h16, .ref h17, .ref h18, .ref h19, .ref h20, .ref h21, .ref h22, .ref h23, .ref h24, .ref h25, .ref h26, .int x18, .int x19, .int x20, .int x21, .int x22, .int x23, .int x24, .long y4, .int x25, .ref h27, .ref h28, .long y5, .long y6, .int x26, .ref h29, .int x27, .ref h30, .ref h31, .ref h32, .ref h33, .int x28, .int x29, .int x30, .int x31, .ref h34, .ref h35, .int x32, .int x33, .ref h36])), (h1, .inl (gB g, 1500, .inl fn0))] (by rw [hq2]) ?_
    exact r_lret 52 Rt dX12_offset_52 () (show 0 ≤ (Int64.toInt z30) ∧ (Int64.toInt z30) ≤ 4294967295 ∧ ((Int64.toInt z30) = OFF fn0 (Int64.toInt y1) (Int32.toInt x12) (Int32.toInt x0)) from ⟨(by first | omega | ((repeat' apply And.intro) <;> first | trivial | rfl | assumption | omega | decide | exact Or.inl rfl | exact Or.inr (Or.inl rfl) | exact Or.inr (Or.inr rfl) | exact Or.inr (Or.inr (by assumption)))), (by first | omega | ((repeat' apply And.intro) <;> first | trivial | rfl | assumption | omega | decide | exact Or.inl rfl | exact Or.inr (Or.inl rfl) | exact Or.inr (Or.inr rfl) | exact Or.inr (Or.inr (by assumption)))), (by first | omega | ((repeat' apply And.intro) <;> first | trivial | rfl | assumption | omega | decide | exact Or.inl rfl | exact Or.inr (Or.inl rfl) | exact Or.inr (Or.inr rfl) | exact Or.inr (Or.inr (by assumption))))⟩) [0, 1] (by decide) rfl (Nat.le_of_ble_eq_true rfl) (Nat.le_of_ble_eq_true rfl)
  · skip
    have hq2 : x12 = 3 := Int32.toInt_inj.mp (by show (Int32.toInt x12) = 3; omega)
    rw [hq1] at i8
    have hq3 := off_3 (f := fn0) (a := (Int64.toInt y1)) (k := (Int32.toInt x0)) hq1
    refine r_ws [(h0, .inr (11, [.ref h1, .int x1, .ref h2, .int x2, .int x3, .int x4, .ref h3, .ref h4, .ref h5, .ref h6, .int x5, .int x6, .int x7, .ref h7, .ref h8, .ref h9, .ref h10, .int x8, .int x9, .int x10, .long y0, .int x11, .int 3, .long y1, .long y2, .ref h11, .ref h12, .ref h13, .ref h14, .long y3, .int x13, .ref h15, .int x14, .int x15, .int x16, .int x17, .ref h16, .ref h17, .ref h18, .ref h19, .ref h20, .ref h21, .ref h22, .ref h23, .ref h24, .ref h25, .ref h26, .int x18, .int x19, .int x20, .int x21, .int x22, .int x23, .int x24, .long y4, .int x25, .ref h27, .ref h28, .long y5, .long y6, .int x26, .ref h29, .int x27, .ref h30, .ref h31, .ref h32, .ref h33, .int x28, .int x29, .int x30, .int x31, .ref h34, .ref h35, .int x32, .int x33, .ref h36])), (h1, .inl (gB g, 1500, .inl fn0))] (by rw [hq2]) ?_
    refine r_lconst 0 0 C dX12_offset_0 (by decide) ?_
    refine r_lstore_n 1 C dX12_offset_1 [(2, .long 0), (0, .ref h0), (1, .int x0)] (by decide) rfl ?_
    refine r_iconst 2 0 C dX12_offset_2 (by decide) ?_
    refine r_istore 3 C dX12_offset_3 [(4, .int 0), (2, .long 0), (0, .ref h0), (1, .int x0)] (by decide) rfl ?_
    refine r_iload 5 0 C dX12_offset_5 rfl ?_
    refine r_aload_n 7 2 C dX12_offset_7 rfl ?_
    refine r_get 8 C dX12_offset_8 (k := 22) 0 rfl rfl hiX12 (by decide) rfl (mg 1 rfl) (Or.inl rfl) rfl ?_
    refine r_icmp_ge_f 11 51 C dX12_offset_11 (by decide) (by decide) ?_
    refine r_lload_n 14 1 C dX12_offset_14 rfl ?_
    refine r_bipush 15 8 C dX12_offset_15 (by decide) ?_
    refine r_lshl 17 0 C dX12_offset_17 (by decide) ?_
    refine r_aload_n 18 2 C dX12_offset_18 rfl ?_
    refine r_get 19 C dX12_offset_19 (k := 0) 0 rfl rfl hiX12 (by decide) rfl (mg 2 rfl) (Or.inl rfl) rfl ?_
    refine r_aload_n 22 2 C dX12_offset_22 rfl ?_
    refine r_get 23 C dX12_offset_23 (k := 23) 0 rfl rfl hiX12 (by decide) rfl (mg 3 rfl) (Or.inl rfl) rfl ?_
    obtain ⟨z31, ez31⟩ : ∃ z_9, Int64.toInt32 y1 = z_9 := ⟨_, rfl⟩
    have tz31 : (Int32.toInt z31) = (Int64.toInt y1) := by rw [← ez31]; exact l2i_in (by omega) (by omega)
    refine r_l2i 26 z31 C dX12_offset_26 ez31 ?_
    refine r_aload_n 27 2 C dX12_offset_27 rfl ?_
    refine r_get 28 C dX12_offset_28 (k := 22) 0 rfl rfl hiX12 (by decide) rfl (mg 1 rfl) (Or.inl rfl) rfl ?_
    refine r_iload_n 31 3 C dX12_offset_31 rfl ?_
    obtain ⟨z32, ez32⟩ : ∃ z_9, 3 * x0 = z_9 := ⟨_, rfl⟩
    have tz32 : (Int32.toInt z32) = 3 * (Int32.toInt x0) := by rw [← ez32]; exact fb_mulIvr (a := 0) (b := 1500) (c := 3) i_x0 (by decide) (by decide) (by decide) (by decide)
    refine r_imul 32 z32 C dX12_offset_32 ez32 ?_
    obtain ⟨z33, ez33⟩ : ∃ z_9, z31 + z32 = z_9 := ⟨_, rfl⟩
    have tz33 : (Int32.toInt z33) = (Int32.toInt z31) + (Int32.toInt z32) := by rw [← ez33]; exact fb_addIv (a := 0) (b := 1500) (c := 0) (d := 4500) (iv_eq i_y1 tz31) (iv_mulr (a := 0) (b := 1500) (c := 3) i_x0 (by decide) tz32) (by decide) (by decide)
    refine r_iadd 33 z33 C dX12_offset_33 ez33 ?_
    refine r_iload 34 0 C dX12_offset_34 rfl ?_
    refine r_iadd 36 z33 C dX12_offset_36 (Int32.add_zero _) ?_
    obtain ⟨z34, ez34⟩ : ∃ z_9, fn0 (Int32.toNatClampNeg z33) = z_9 := ⟨_, rfl⟩
    refine r_bald 37 z34 C dX12_offset_37 1 rfl (vinI (by omega) (by omega)) ez34 ?_
    have gz34 := fb_rng z34
    obtain ⟨z35, ez35⟩ : ∃ z_9, Int32.toInt64 z34 = z_9 := ⟨_, rfl⟩
    have tz35 : (Int64.toInt z35) = (Int32.toInt z34) := by rw [← ez35]; exact Int32.toInt_toInt64 _
    refine r_i2l 38 z35 C dX12_offset_38 ez35 ?_
    refine r_ldc2 39 255 C dX12_offset_39 (mg 4 rfl) ?_
    obtain ⟨z36, ez36⟩ : ∃ z_9, z35 &&& 255 = z_9 := ⟨_, rfl⟩
    have tz36 : 0 ≤ (Int64.toInt z36) ∧ (Int64.toInt z36) ≤ 255 := by rw [← ez36]; exact and_255L z35
    have bz36 : B8 fn0 ((Int64.toInt y1) + 3 * (Int32.toInt x0)) = (Int64.toInt z36) := b8_of ez34 ez35 ez36 (by omega)
    refine r_land 42 z36 C dX12_offset_42 ez36 ?_
    obtain ⟨z37, ez37⟩ : ∃ z_9, 0 ||| z36 = z_9 := ⟨_, rfl⟩
    have tz37 : (Int64.toInt z37) = (0 : Int) + (Int64.toInt z36) := by rw [← ez37]; exact or_8L (by show 0 ≤ (0 : Int); omega) (by show (0 : Int) % 256 = 0; omega) (by show 0 ≤ (Int64.toInt z36); omega) (by show (Int64.toInt z36) < 256; omega)
    refine r_lor 43 z37 C dX12_offset_43 ez37 ?_
    refine r_lstore_n 44 C dX12_offset_44 [(2, .long z37), (4, .int 0), (0, .ref h0), (1, .int x0)] (by decide) rfl ?_
    refine r_iinc 45 1 1 C dX12_offset_45 rfl (by decide) [(4, .int 1), (2, .long z37), (0, .ref h0), (1, .int x0)] (by decide) rfl ?_
    refine r_goto 48 5 C dX12_offset_48 (by decide) ?_
    refine r_iload 5 0 C dX12_offset_5 rfl ?_
    refine r_aload_n 7 2 C dX12_offset_7 rfl ?_
    refine r_get 8 C dX12_offset_8 (k := 22) 0 rfl rfl hiX12 (by decide) rfl (mg 1 rfl) (Or.inl rfl) rfl ?_
    refine r_icmp_ge_f 11 51 C dX12_offset_11 (by decide) (by decide) ?_
    refine r_lload_n 14 1 C dX12_offset_14 rfl ?_
    refine r_bipush 15 8 C dX12_offset_15 (by decide) ?_
    obtain ⟨z38, ez38⟩ : ∃ z_9, z37 <<< (Int32.toInt64 8 &&& 63) = z_9 := ⟨_, rfl⟩
    have tz38 : (Int64.toInt z38) = (Int64.toInt z37) * 256 := by rw [← ez38]; exact shl_8L (by omega) (by omega)
    refine r_lshl 17 z38 C dX12_offset_17 ez38 ?_
    refine r_aload_n 18 2 C dX12_offset_18 rfl ?_
    refine r_get 19 C dX12_offset_19 (k := 0) 0 rfl rfl hiX12 (by decide) rfl (mg 2 rfl) (Or.inl rfl) rfl ?_
    refine r_aload_n 22 2 C dX12_offset_22 rfl ?_
    refine r_get 23 C dX12_offset_23 (k := 23) 0 rfl rfl hiX12 (by decide) rfl (mg 3 rfl) (Or.inl rfl) rfl ?_
    refine r_l2i 26 z31 C dX12_offset_26 ez31 ?_
    refine r_aload_n 27 2 C dX12_offset_27 rfl ?_
    refine r_get 28 C dX12_offset_28 (k := 22) 0 rfl rfl hiX12 (by decide) rfl (mg 1 rfl) (Or.inl rfl) rfl ?_
    refine r_iload_n 31 3 C dX12_offset_31 rfl ?_
    refine r_imul 32 z32 C dX12_offset_32 ez32 ?_
    refine r_iadd 33 z33 C dX12_offset_33 ez33 ?_
    refine r_iload 34 0 C dX12_offset_34 rfl ?_
    obtain ⟨z39, ez39⟩ : ∃ z_9, z33 + 1 = z_9 := ⟨_, rfl⟩
    have tz39 : (Int32.toInt z39) = (Int32.toInt z33) + 1 := by rw [← ez39]; exact fb_addIv (a := 0) (b := 6000) (c := 1) (d := 1) (iv_add (a := 0) (b := 1500) (c := 0) (d := 4500) (iv_eq i_y1 tz31) (iv_mulr (a := 0) (b := 1500) (c := 3) i_x0 (by decide) tz32) tz33) ⟨by decide, by decide⟩ (by decide) (by decide)
    refine r_iadd 36 z39 C dX12_offset_36 ez39 ?_
    obtain ⟨z40, ez40⟩ : ∃ z_9, fn0 (Int32.toNatClampNeg z39) = z_9 := ⟨_, rfl⟩
    refine r_bald 37 z40 C dX12_offset_37 1 rfl (vinI (by omega) (by omega)) ez40 ?_
    have gz40 := fb_rng z40
    obtain ⟨z41, ez41⟩ : ∃ z_9, Int32.toInt64 z40 = z_9 := ⟨_, rfl⟩
    have tz41 : (Int64.toInt z41) = (Int32.toInt z40) := by rw [← ez41]; exact Int32.toInt_toInt64 _
    refine r_i2l 38 z41 C dX12_offset_38 ez41 ?_
    refine r_ldc2 39 255 C dX12_offset_39 (mg 4 rfl) ?_
    obtain ⟨z42, ez42⟩ : ∃ z_9, z41 &&& 255 = z_9 := ⟨_, rfl⟩
    have tz42 : 0 ≤ (Int64.toInt z42) ∧ (Int64.toInt z42) ≤ 255 := by rw [← ez42]; exact and_255L z41
    have bz42 : B8 fn0 ((Int64.toInt y1) + 3 * (Int32.toInt x0) + 1) = (Int64.toInt z42) := b8_of ez40 ez41 ez42 (by omega)
    refine r_land 42 z42 C dX12_offset_42 ez42 ?_
    obtain ⟨z43, ez43⟩ : ∃ z_9, z38 ||| z42 = z_9 := ⟨_, rfl⟩
    have tz43 : (Int64.toInt z43) = (Int64.toInt z38) + (Int64.toInt z42) := by rw [← ez43]; exact or_8L (by show 0 ≤ (Int64.toInt z38); omega) (by show (Int64.toInt z38) % 256 = 0; omega) (by show 0 ≤ (Int64.toInt z42); omega) (by show (Int64.toInt z42) < 256; omega)
    refine r_lor 43 z43 C dX12_offset_43 ez43 ?_
    refine r_lstore_n 44 C dX12_offset_44 [(2, .long z43), (4, .int 1), (0, .ref h0), (1, .int x0)] (by decide) rfl ?_
    refine r_iinc 45 1 2 C dX12_offset_45 rfl (by decide) [(4, .int 2), (2, .long z43), (0, .ref h0), (1, .int x0)] (by decide) rfl ?_
    refine r_goto 48 5 C dX12_offset_48 (by decide) ?_
    refine r_iload 5 0 C dX12_offset_5 rfl ?_
    refine r_aload_n 7 2 C dX12_offset_7 rfl ?_
    refine r_get 8 C dX12_offset_8 (k := 22) 0 rfl rfl hiX12 (by decide) rfl (mg 1 rfl) (Or.inl rfl) rfl ?_
    refine r_icmp_ge_f 11 51 C dX12_offset_11 (by decide) (by decide) ?_
    refine r_lload_n 14 1 C dX12_offset_14 rfl ?_
    refine r_bipush 15 8 C dX12_offset_15 (by decide) ?_
    obtain ⟨z44, ez44⟩ : ∃ z_9, z43 <<< (Int32.toInt64 8 &&& 63) = z_9 := ⟨_, rfl⟩
    have tz44 : (Int64.toInt z44) = (Int64.toInt z43) * 256 := by rw [← ez44]; exact shl_8L (by omega) (by omega)
    refine r_lshl 17 z44 C dX12_offset_17 ez44 ?_
    refine r_aload_n 18 2 C dX12_offset_18 rfl ?_
    refine r_get 19 C dX12_offset_19 (k := 0) 0 rfl rfl hiX12 (by decide) rfl (mg 2 rfl) (Or.inl rfl) rfl ?_
    refine r_aload_n 22 2 C dX12_offset_22 rfl ?_
    refine r_get 23 C dX12_offset_23 (k := 23) 0 rfl rfl hiX12 (by decide) rfl (mg 3 rfl) (Or.inl rfl) rfl ?_
    refine r_l2i 26 z31 C dX12_offset_26 ez31 ?_
    refine r_aload_n 27 2 C dX12_offset_27 rfl ?_
    refine r_get 28 C dX12_offset_28 (k := 22) 0 rfl rfl hiX12 (by decide) rfl (mg 1 rfl) (Or.inl rfl) rfl ?_
    refine r_iload_n 31 3 C dX12_offset_31 rfl ?_
    refine r_imul 32 z32 C dX12_offset_32 ez32 ?_
    refine r_iadd 33 z33 C dX12_offset_33 ez33 ?_
    refine r_iload 34 0 C dX12_offset_34 rfl ?_
    obtain ⟨z45, ez45⟩ : ∃ z_9, z33 + 2 = z_9 := ⟨_, rfl⟩
    have tz45 : (Int32.toInt z45) = (Int32.toInt z33) + 2 := by rw [← ez45]; exact fb_addIv (a := 0) (b := 6000) (c := 2) (d := 2) (iv_add (a := 0) (b := 1500) (c := 0) (d := 4500) (iv_eq i_y1 tz31) (iv_mulr (a := 0) (b := 1500) (c := 3) i_x0 (by decide) tz32) tz33) ⟨by decide, by decide⟩ (by decide) (by decide)
    refine r_iadd 36 z45 C dX12_offset_36 ez45 ?_
    obtain ⟨z46, ez46⟩ : ∃ z_9, fn0 (Int32.toNatClampNeg z45) = z_9 := ⟨_, rfl⟩
    refine r_bald 37 z46 C dX12_offset_37 1 rfl (vinI (by omega) (by omega)) ez46 ?_
    have gz46 := fb_rng z46
    obtain ⟨z47, ez47⟩ : ∃ z_9, Int32.toInt64 z46 = z_9 := ⟨_, rfl⟩
    have tz47 : (Int64.toInt z47) = (Int32.toInt z46) := by rw [← ez47]; exact Int32.toInt_toInt64 _
    refine r_i2l 38 z47 C dX12_offset_38 ez47 ?_
    refine r_ldc2 39 255 C dX12_offset_39 (mg 4 rfl) ?_
    obtain ⟨z48, ez48⟩ : ∃ z_9, z47 &&& 255 = z_9 := ⟨_, rfl⟩
    have tz48 : 0 ≤ (Int64.toInt z48) ∧ (Int64.toInt z48) ≤ 255 := by rw [← ez48]; exact and_255L z47
    have bz48 : B8 fn0 ((Int64.toInt y1) + 3 * (Int32.toInt x0) + 2) = (Int64.toInt z48) := b8_of ez46 ez47 ez48 (by omega)
    refine r_land 42 z48 C dX12_offset_42 ez48 ?_
    obtain ⟨z49, ez49⟩ : ∃ z_9, z44 ||| z48 = z_9 := ⟨_, rfl⟩
    have tz49 : (Int64.toInt z49) = (Int64.toInt z44) + (Int64.toInt z48) := by rw [← ez49]; exact or_8L (by show 0 ≤ (Int64.toInt z44); omega) (by show (Int64.toInt z44) % 256 = 0; omega) (by show 0 ≤ (Int64.toInt z48); omega) (by show (Int64.toInt z48) < 256; omega)
    refine r_lor 43 z49 C dX12_offset_43 ez49 ?_
    refine r_lstore_n 44 C dX12_offset_44 [(2, .long z49), (4, .int 2), (0, .ref h0), (1, .int x0)] (by decide) rfl ?_
    refine r_iinc 45 1 3 C dX12_offset_45 rfl (by decide) [(4, .int 3), (2, .long z49), (0, .ref h0), (1, .int x0)] (by decide) rfl ?_
    refine r_goto 48 5 C dX12_offset_48 (by decide) ?_
    refine r_iload 5 0 C dX12_offset_5 rfl ?_
    refine r_aload_n 7 2 C dX12_offset_7 rfl ?_
    refine r_get 8 C dX12_offset_8 (k := 22) 0 rfl rfl hiX12 (by decide) rfl (mg 1 rfl) (Or.inl rfl) rfl ?_
    refine r_icmp_ge_t 11 51 C dX12_offset_11 (by decide) (by decide) ?_
    refine r_lload_n 51 1 C dX12_offset_51 rfl ?_
    refine r_ws [(h0, .inr (11, [.ref h1, .int x1, .ref h2, .int x2, .int x3, .int x4, .ref h3, .ref h4, .ref h5, .ref h6, .int x5, .int x6, .int x7, .ref h7, .ref h8, .ref h9, .ref h10, .int x8, .int x9, .int x10, .long y0, .int x11, .int x12, .long y1, .long y2, .ref h11, .ref h12, .ref h13, .ref h14, .long y3, .int x13, .ref h15, .int x14, .int x15, .int x16, .int x17, .ref h16, .ref h17, .ref h18, .ref h19, .ref h20, .ref h21, .ref h22, .ref h23, .ref h24, .ref h25, .ref h26, .int x18, .int x19, .int x20, .int x21, .int x22, .int x23, .int x24, .long y4, .int x25, .ref h27, .ref h28, .long y5, .long y6, .int x26, .ref h29, .int x27, .ref h30, .ref h31, .ref h32, .ref h33, .int x28, .int x29, .int x30, .int x31, .ref h34, .ref h35, .int x32, .int x33, .ref h36])), (h1, .inl (gB g, 1500, .inl fn0))] (by rw [hq2]) ?_
    exact r_lret 52 Rt dX12_offset_52 () (show 0 ≤ (Int64.toInt z49) ∧ (Int64.toInt z49) ≤ 4294967295 ∧ ((Int64.toInt z49) = OFF fn0 (Int64.toInt y1) (Int32.toInt x12) (Int32.toInt x0)) from ⟨(by first | omega | ((repeat' apply And.intro) <;> first | trivial | rfl | assumption | omega | decide | exact Or.inl rfl | exact Or.inr (Or.inl rfl) | exact Or.inr (Or.inr rfl) | exact Or.inr (Or.inr (by assumption)))), (by first | omega | ((repeat' apply And.intro) <;> first | trivial | rfl | assumption | omega | decide | exact Or.inl rfl | exact Or.inr (Or.inl rfl) | exact Or.inr (Or.inr rfl) | exact Or.inr (Or.inr (by assumption)))), (by first | omega | ((repeat' apply And.intro) <;> first | trivial | rfl | assumption | omega | decide | exact Or.inl rfl | exact Or.inr (Or.inl rfl) | exact Or.inr (Or.inr rfl) | exact Or.inr (Or.inr (by assumption))))⟩) [0, 1] (by decide) rfl (Nat.le_of_ble_eq_true rfl) (Nat.le_of_ble_eq_true rfl)
  · skip
    have hq2 : x12 = 4 := Int32.toInt_inj.mp (by show (Int32.toInt x12) = 4; omega)
    rw [hq1] at i8
    have hq3 := off_4 (f := fn0) (a := (Int64.toInt y1)) (k := (Int32.toInt x0)) hq1
    refine r_ws [(h0, .inr (11, [.ref h1, .int x1, .ref h2, .int x2, .int x3, .int x4, .ref h3, .ref h4, .ref h5, .ref h6, .int x5, .int x6, .int x7, .ref h7, .ref h8, .ref h9, .ref h10, .int x8, .int x9, .int x10, .long y0, .int x11, .int 4, .long y1, .long y2, .ref h11, .ref h12, .ref h13, .ref h14, .long y3, .int x13, .ref h15, .int x14, .int x15, .int x16, .int x17, .ref h16, .ref h17, .ref h18, .ref h19, .ref h20, .ref h21, .ref h22, .ref h23, .ref h24, .ref h25, .ref h26, .int x18, .int x19, .int x20, .int x21, .int x22, .int x23, .int x24, .long y4, .int x25, .ref h27, .ref h28, .long y5, .long y6, .int x26, .ref h29, .int x27, .ref h30, .ref h31, .ref h32, .ref h33, .int x28, .int x29, .int x30, .int x31, .ref h34, .ref h35, .int x32, .int x33, .ref h36])), (h1, .inl (gB g, 1500, .inl fn0))] (by rw [hq2]) ?_
    refine r_lconst 0 0 C dX12_offset_0 (by decide) ?_
    refine r_lstore_n 1 C dX12_offset_1 [(2, .long 0), (0, .ref h0), (1, .int x0)] (by decide) rfl ?_
    refine r_iconst 2 0 C dX12_offset_2 (by decide) ?_
    refine r_istore 3 C dX12_offset_3 [(4, .int 0), (2, .long 0), (0, .ref h0), (1, .int x0)] (by decide) rfl ?_
    refine r_iload 5 0 C dX12_offset_5 rfl ?_
    refine r_aload_n 7 2 C dX12_offset_7 rfl ?_
    refine r_get 8 C dX12_offset_8 (k := 22) 0 rfl rfl hiX12 (by decide) rfl (mg 1 rfl) (Or.inl rfl) rfl ?_
    refine r_icmp_ge_f 11 51 C dX12_offset_11 (by decide) (by decide) ?_
    refine r_lload_n 14 1 C dX12_offset_14 rfl ?_
    refine r_bipush 15 8 C dX12_offset_15 (by decide) ?_
    refine r_lshl 17 0 C dX12_offset_17 (by decide) ?_
    refine r_aload_n 18 2 C dX12_offset_18 rfl ?_
    refine r_get 19 C dX12_offset_19 (k := 0) 0 rfl rfl hiX12 (by decide) rfl (mg 2 rfl) (Or.inl rfl) rfl ?_
    refine r_aload_n 22 2 C dX12_offset_22 rfl ?_
    refine r_get 23 C dX12_offset_23 (k := 23) 0 rfl rfl hiX12 (by decide) rfl (mg 3 rfl) (Or.inl rfl) rfl ?_
    obtain ⟨z50, ez50⟩ : ∃ z_9, Int64.toInt32 y1 = z_9 := ⟨_, rfl⟩
    have tz50 : (Int32.toInt z50) = (Int64.toInt y1) := by rw [← ez50]; exact l2i_in (by omega) (by omega)
    refine r_l2i 26 z50 C dX12_offset_26 ez50 ?_
    refine r_aload_n 27 2 C dX12_offset_27 rfl ?_
    refine r_get 28 C dX12_offset_28 (k := 22) 0 rfl rfl hiX12 (by decide) rfl (mg 1 rfl) (Or.inl rfl) rfl ?_
    refine r_iload_n 31 3 C dX12_offset_31 rfl ?_
    obtain ⟨z51, ez51⟩ : ∃ z_9, 4 * x0 = z_9 := ⟨_, rfl⟩
    have tz51 : (Int32.toInt z51) = 4 * (Int32.toInt x0) := by rw [← ez51]; exact fb_mulIvr (a := 0) (b := 1500) (c := 4) i_x0 (by decide) (by decide) (by decide) (by decide)
    refine r_imul 32 z51 C dX12_offset_32 ez51 ?_
    obtain ⟨z52, ez52⟩ : ∃ z_9, z50 + z51 = z_9 := ⟨_, rfl⟩
    have tz52 : (Int32.toInt z52) = (Int32.toInt z50) + (Int32.toInt z51) := by rw [← ez52]; exact fb_addIv (a := 0) (b := 1500) (c := 0) (d := 6000) (iv_eq i_y1 tz50) (iv_mulr (a := 0) (b := 1500) (c := 4) i_x0 (by decide) tz51) (by decide) (by decide)
    refine r_iadd 33 z52 C dX12_offset_33 ez52 ?_
    refine r_iload 34 0 C dX12_offset_34 rfl ?_
    refine r_iadd 36 z52 C dX12_offset_36 (Int32.add_zero _) ?_
    obtain ⟨z53, ez53⟩ : ∃ z_9, fn0 (Int32.toNatClampNeg z52) = z_9 := ⟨_, rfl⟩
    refine r_bald 37 z53 C dX12_offset_37 1 rfl (vinI (by omega) (by omega)) ez53 ?_
    have gz53 := fb_rng z53
    obtain ⟨z54, ez54⟩ : ∃ z_9, Int32.toInt64 z53 = z_9 := ⟨_, rfl⟩
    have tz54 : (Int64.toInt z54) = (Int32.toInt z53) := by rw [← ez54]; exact Int32.toInt_toInt64 _
    refine r_i2l 38 z54 C dX12_offset_38 ez54 ?_
    refine r_ldc2 39 255 C dX12_offset_39 (mg 4 rfl) ?_
    obtain ⟨z55, ez55⟩ : ∃ z_9, z54 &&& 255 = z_9 := ⟨_, rfl⟩
    have tz55 : 0 ≤ (Int64.toInt z55) ∧ (Int64.toInt z55) ≤ 255 := by rw [← ez55]; exact and_255L z54
    have bz55 : B8 fn0 ((Int64.toInt y1) + 4 * (Int32.toInt x0)) = (Int64.toInt z55) := b8_of ez53 ez54 ez55 (by omega)
    refine r_land 42 z55 C dX12_offset_42 ez55 ?_
    obtain ⟨z56, ez56⟩ : ∃ z_9, 0 ||| z55 = z_9 := ⟨_, rfl⟩
    have tz56 : (Int64.toInt z56) = (0 : Int) + (Int64.toInt z55) := by rw [← ez56]; exact or_8L (by show 0 ≤ (0 : Int); omega) (by show (0 : Int) % 256 = 0; omega) (by show 0 ≤ (Int64.toInt z55); omega) (by show (Int64.toInt z55) < 256; omega)
    refine r_lor 43 z56 C dX12_offset_43 ez56 ?_
    refine r_lstore_n 44 C dX12_offset_44 [(2, .long z56), (4, .int 0), (0, .ref h0), (1, .int x0)] (by decide) rfl ?_
    refine r_iinc 45 1 1 C dX12_offset_45 rfl (by decide) [(4, .int 1), (2, .long z56), (0, .ref h0), (1, .int x0)] (by decide) rfl ?_
    refine r_goto 48 5 C dX12_offset_48 (by decide) ?_
    refine r_iload 5 0 C dX12_offset_5 rfl ?_
    refine r_aload_n 7 2 C dX12_offset_7 rfl ?_
    refine r_get 8 C dX12_offset_8 (k := 22) 0 rfl rfl hiX12 (by decide) rfl (mg 1 rfl) (Or.inl rfl) rfl ?_
    refine r_icmp_ge_f 11 51 C dX12_offset_11 (by decide) (by decide) ?_
    refine r_lload_n 14 1 C dX12_offset_14 rfl ?_
    refine r_bipush 15 8 C dX12_offset_15 (by decide) ?_
    obtain ⟨z57, ez57⟩ : ∃ z_9, z56 <<< (Int32.toInt64 8 &&& 63) = z_9 := ⟨_, rfl⟩
    have tz57 : (Int64.toInt z57) = (Int64.toInt z56) * 256 := by rw [← ez57]; exact shl_8L (by omega) (by omega)
    refine r_lshl 17 z57 C dX12_offset_17 ez57 ?_
    refine r_aload_n 18 2 C dX12_offset_18 rfl ?_
    refine r_get 19 C dX12_offset_19 (k := 0) 0 rfl rfl hiX12 (by decide) rfl (mg 2 rfl) (Or.inl rfl) rfl ?_
    refine r_aload_n 22 2 C dX12_offset_22 rfl ?_
    refine r_get 23 C dX12_offset_23 (k := 23) 0 rfl rfl hiX12 (by decide) rfl (mg 3 rfl) (Or.inl rfl) rfl ?_
    refine r_l2i 26 z50 C dX12_offset_26 ez50 ?_
    refine r_aload_n 27 2 C dX12_offset_27 rfl ?_
    refine r_get 28 C dX12_offset_28 (k := 22) 0 rfl rfl hiX12 (by decide) rfl (mg 1 rfl) (Or.inl rfl) rfl ?_
    refine r_iload_n 31 3 C dX12_offset_31 rfl ?_
    refine r_imul 32 z51 C dX12_offset_32 ez51 ?_
    refine r_iadd 33 z52 C dX12_offset_33 ez52 ?_
    refine r_iload 34 0 C dX12_offset_34 rfl ?_
    obtain ⟨z58, ez58⟩ : ∃ z_9, z52 + 1 = z_9 := ⟨_, rfl⟩
    have tz58 : (Int32.toInt z58) = (Int32.toInt z52) + 1 := by rw [← ez58]; exact fb_addIv (a := 0) (b := 7500) (c := 1) (d := 1) (iv_add (a := 0) (b := 1500) (c := 0) (d := 6000) (iv_eq i_y1 tz50) (iv_mulr (a := 0) (b := 1500) (c := 4) i_x0 (by decide) tz51) tz52) ⟨by decide, by decide⟩ (by decide) (by decide)
    refine r_iadd 36 z58 C dX12_offset_36 ez58 ?_
    obtain ⟨z59, ez59⟩ : ∃ z_9, fn0 (Int32.toNatClampNeg z58) = z_9 := ⟨_, rfl⟩
    refine r_bald 37 z59 C dX12_offset_37 1 rfl (vinI (by omega) (by omega)) ez59 ?_
    have gz59 := fb_rng z59
    obtain ⟨z60, ez60⟩ : ∃ z_9, Int32.toInt64 z59 = z_9 := ⟨_, rfl⟩
    have tz60 : (Int64.toInt z60) = (Int32.toInt z59) := by rw [← ez60]; exact Int32.toInt_toInt64 _
    refine r_i2l 38 z60 C dX12_offset_38 ez60 ?_
    refine r_ldc2 39 255 C dX12_offset_39 (mg 4 rfl) ?_
    obtain ⟨z61, ez61⟩ : ∃ z_9, z60 &&& 255 = z_9 := ⟨_, rfl⟩
    have tz61 : 0 ≤ (Int64.toInt z61) ∧ (Int64.toInt z61) ≤ 255 := by rw [← ez61]; exact and_255L z60
    have bz61 : B8 fn0 ((Int64.toInt y1) + 4 * (Int32.toInt x0) + 1) = (Int64.toInt z61) := b8_of ez59 ez60 ez61 (by omega)
    refine r_land 42 z61 C dX12_offset_42 ez61 ?_
    obtain ⟨z62, ez62⟩ : ∃ z_9, z57 ||| z61 = z_9 := ⟨_, rfl⟩
    have tz62 : (Int64.toInt z62) = (Int64.toInt z57) + (Int64.toInt z61) := by rw [← ez62]; exact or_8L (by show 0 ≤ (Int64.toInt z57); omega) (by show (Int64.toInt z57) % 256 = 0; omega) (by show 0 ≤ (Int64.toInt z61); omega) (by show (Int64.toInt z61) < 256; omega)
    refine r_lor 43 z62 C dX12_offset_43 ez62 ?_
    refine r_lstore_n 44 C dX12_offset_44 [(2, .long z62), (4, .int 1), (0, .ref h0), (1, .int x0)] (by decide) rfl ?_
    refine r_iinc 45 1 2 C dX12_offset_45 rfl (by decide) [(4, .int 2), (2, .long z62), (0, .ref h0), (1, .int x0)] (by decide) rfl ?_
    refine r_goto 48 5 C dX12_offset_48 (by decide) ?_
    refine r_iload 5 0 C dX12_offset_5 rfl ?_
    refine r_aload_n 7 2 C dX12_offset_7 rfl ?_
    refine r_get 8 C dX12_offset_8 (k := 22) 0 rfl rfl hiX12 (by decide) rfl (mg 1 rfl) (Or.inl rfl) rfl ?_
    refine r_icmp_ge_f 11 51 C dX12_offset_11 (by decide) (by decide) ?_
    refine r_lload_n 14 1 C dX12_offset_14 rfl ?_
    refine r_bipush 15 8 C dX12_offset_15 (by decide) ?_
    obtain ⟨z63, ez63⟩ : ∃ z_9, z62 <<< (Int32.toInt64 8 &&& 63) = z_9 := ⟨_, rfl⟩
    have tz63 : (Int64.toInt z63) = (Int64.toInt z62) * 256 := by rw [← ez63]; exact shl_8L (by omega) (by omega)
    refine r_lshl 17 z63 C dX12_offset_17 ez63 ?_
    refine r_aload_n 18 2 C dX12_offset_18 rfl ?_
    refine r_get 19 C dX12_offset_19 (k := 0) 0 rfl rfl hiX12 (by decide) rfl (mg 2 rfl) (Or.inl rfl) rfl ?_
    refine r_aload_n 22 2 C dX12_offset_22 rfl ?_
    refine r_get 23 C dX12_offset_23 (k := 23) 0 rfl rfl hiX12 (by decide) rfl (mg 3 rfl) (Or.inl rfl) rfl ?_
    refine r_l2i 26 z50 C dX12_offset_26 ez50 ?_
    refine r_aload_n 27 2 C dX12_offset_27 rfl ?_
    refine r_get 28 C dX12_offset_28 (k := 22) 0 rfl rfl hiX12 (by decide) rfl (mg 1 rfl) (Or.inl rfl) rfl ?_
    refine r_iload_n 31 3 C dX12_offset_31 rfl ?_
    refine r_imul 32 z51 C dX12_offset_32 ez51 ?_
    refine r_iadd 33 z52 C dX12_offset_33 ez52 ?_
    refine r_iload 34 0 C dX12_offset_34 rfl ?_
    obtain ⟨z64, ez64⟩ : ∃ z_9, z52 + 2 = z_9 := ⟨_, rfl⟩
    have tz64 : (Int32.toInt z64) = (Int32.toInt z52) + 2 := by rw [← ez64]; exact fb_addIv (a := 0) (b := 7500) (c := 2) (d := 2) (iv_add (a := 0) (b := 1500) (c := 0) (d := 6000) (iv_eq i_y1 tz50) (iv_mulr (a := 0) (b := 1500) (c := 4) i_x0 (by decide) tz51) tz52) ⟨by decide, by decide⟩ (by decide) (by decide)
    refine r_iadd 36 z64 C dX12_offset_36 ez64 ?_
    obtain ⟨z65, ez65⟩ : ∃ z_9, fn0 (Int32.toNatClampNeg z64) = z_9 := ⟨_, rfl⟩
    refine r_bald 37 z65 C dX12_offset_37 1 rfl (vinI (by omega) (by omega)) ez65 ?_
    have gz65 := fb_rng z65
    obtain ⟨z66, ez66⟩ : ∃ z_9, Int32.toInt64 z65 = z_9 := ⟨_, rfl⟩
    have tz66 : (Int64.toInt z66) = (Int32.toInt z65) := by rw [← ez66]; exact Int32.toInt_toInt64 _
    refine r_i2l 38 z66 C dX12_offset_38 ez66 ?_
    refine r_ldc2 39 255 C dX12_offset_39 (mg 4 rfl) ?_
    obtain ⟨z67, ez67⟩ : ∃ z_9, z66 &&& 255 = z_9 := ⟨_, rfl⟩
    have tz67 : 0 ≤ (Int64.toInt z67) ∧ (Int64.toInt z67) ≤ 255 := by rw [← ez67]; exact and_255L z66
    have bz67 : B8 fn0 ((Int64.toInt y1) + 4 * (Int32.toInt x0) + 2) = (Int64.toInt z67) := b8_of ez65 ez66 ez67 (by omega)
    refine r_land 42 z67 C dX12_offset_42 ez67 ?_
    obtain ⟨z68, ez68⟩ : ∃ z_9, z63 ||| z67 = z_9 := ⟨_, rfl⟩
    have tz68 : (Int64.toInt z68) = (Int64.toInt z63) + (Int64.toInt z67) := by rw [← ez68]; exact or_8L (by show 0 ≤ (Int64.toInt z63); omega) (by show (Int64.toInt z63) % 256 = 0; omega) (by show 0 ≤ (Int64.toInt z67); omega) (by show (Int64.toInt z67) < 256; omega)
    refine r_lor 43 z68 C dX12_offset_43 ez68 ?_
    refine r_lstore_n 44 C dX12_offset_44 [(2, .long z68), (4, .int 2), (0, .ref h0), (1, .int x0)] (by decide) rfl ?_
    refine r_iinc 45 1 3 C dX12_offset_45 rfl (by decide) [(4, .int 3), (2, .long z68), (0, .ref h0), (1, .int x0)] (by decide) rfl ?_
    refine r_goto 48 5 C dX12_offset_48 (by decide) ?_
    refine r_iload 5 0 C dX12_offset_5 rfl ?_
    refine r_aload_n 7 2 C dX12_offset_7 rfl ?_
    refine r_get 8 C dX12_offset_8 (k := 22) 0 rfl rfl hiX12 (by decide) rfl (mg 1 rfl) (Or.inl rfl) rfl ?_
    refine r_icmp_ge_f 11 51 C dX12_offset_11 (by decide) (by decide) ?_
    refine r_lload_n 14 1 C dX12_offset_14 rfl ?_
    refine r_bipush 15 8 C dX12_offset_15 (by decide) ?_
    obtain ⟨z69, ez69⟩ : ∃ z_9, z68 <<< (Int32.toInt64 8 &&& 63) = z_9 := ⟨_, rfl⟩
    have tz69 : (Int64.toInt z69) = (Int64.toInt z68) * 256 := by rw [← ez69]; exact shl_8L (by omega) (by omega)
    refine r_lshl 17 z69 C dX12_offset_17 ez69 ?_
    refine r_aload_n 18 2 C dX12_offset_18 rfl ?_
    refine r_get 19 C dX12_offset_19 (k := 0) 0 rfl rfl hiX12 (by decide) rfl (mg 2 rfl) (Or.inl rfl) rfl ?_
    refine r_aload_n 22 2 C dX12_offset_22 rfl ?_
    refine r_get 23 C dX12_offset_23 (k := 23) 0 rfl rfl hiX12 (by decide) rfl (mg 3 rfl) (Or.inl rfl) rfl ?_
    refine r_l2i 26 z50 C dX12_offset_26 ez50 ?_
    refine r_aload_n 27 2 C dX12_offset_27 rfl ?_
    refine r_get 28 C dX12_offset_28 (k := 22) 0 rfl rfl hiX12 (by decide) rfl (mg 1 rfl) (Or.inl rfl) rfl ?_
    refine r_iload_n 31 3 C dX12_offset_31 rfl ?_
    refine r_imul 32 z51 C dX12_offset_32 ez51 ?_
    refine r_iadd 33 z52 C dX12_offset_33 ez52 ?_
    refine r_iload 34 0 C dX12_offset_34 rfl ?_
    obtain ⟨z70, ez70⟩ : ∃ z_9, z52 + 3 = z_9 := ⟨_, rfl⟩
    have tz70 : (Int32.toInt z70) = (Int32.toInt z52) + 3 := by rw [← ez70]; exact fb_addIv (a := 0) (b := 7500) (c := 3) (d := 3) (iv_add (a := 0) (b := 1500) (c := 0) (d := 6000) (iv_eq i_y1 tz50) (iv_mulr (a := 0) (b := 1500) (c := 4) i_x0 (by decide) tz51) tz52) ⟨by decide, by decide⟩ (by decide) (by decide)
    refine r_iadd 36 z70 C dX12_offset_36 ez70 ?_
    obtain ⟨z71, ez71⟩ : ∃ z_9, fn0 (Int32.toNatClampNeg z70) = z_9 := ⟨_, rfl⟩
    refine r_bald 37 z71 C dX12_offset_37 1 rfl (vinI (by omega) (by omega)) ez71 ?_
    have gz71 := fb_rng z71
    obtain ⟨z72, ez72⟩ : ∃ z_9, Int32.toInt64 z71 = z_9 := ⟨_, rfl⟩
    have tz72 : (Int64.toInt z72) = (Int32.toInt z71) := by rw [← ez72]; exact Int32.toInt_toInt64 _
    refine r_i2l 38 z72 C dX12_offset_38 ez72 ?_
    refine r_ldc2 39 255 C dX12_offset_39 (mg 4 rfl) ?_
    obtain ⟨z73, ez73⟩ : ∃ z_9, z72 &&& 255 = z_9 := ⟨_, rfl⟩
    have tz73 : 0 ≤ (Int64.toInt z73) ∧ (Int64.toInt z73) ≤ 255 := by rw [← ez73]; exact and_255L z72
    have bz73 : B8 fn0 ((Int64.toInt y1) + 4 * (Int32.toInt x0) + 3) = (Int64.toInt z73) := b8_of ez71 ez72 ez73 (by omega)
    refine r_land 42 z73 C dX12_offset_42 ez73 ?_
    obtain ⟨z74, ez74⟩ : ∃ z_9, z69 ||| z73 = z_9 := ⟨_, rfl⟩
    have tz74 : (Int64.toInt z74) = (Int64.toInt z69) + (Int64.toInt z73) := by rw [← ez74]; exact or_8L (by show 0 ≤ (Int64.toInt z69); omega) (by show (Int64.toInt z69) % 256 = 0; omega) (by show 0 ≤ (Int64.toInt z73); omega) (by show (Int64.toInt z73) < 256; omega)
    refine r_lor 43 z74 C dX12_offset_43 ez74 ?_
    refine r_lstore_n 44 C dX12_offset_44 [(2, .long z74), (4, .int 3), (0, .ref h0), (1, .int x0)] (by decide) rfl ?_
    refine r_iinc 45 1 4 C dX12_offset_45 rfl (by decide) [(4, .int 4), (2, .long z74), (0, .ref h0), (1, .int x0)] (by decide) rfl ?_
    refine r_goto 48 5 C dX12_offset_48 (by decide) ?_
    refine r_iload 5 0 C dX12_offset_5 rfl ?_
    refine r_aload_n 7 2 C dX12_offset_7 rfl ?_
    refine r_get 8 C dX12_offset_8 (k := 22) 0 rfl rfl hiX12 (by decide) rfl (mg 1 rfl) (Or.inl rfl) rfl ?_
    refine r_icmp_ge_t 11 51 C dX12_offset_11 (by decide) (by decide) ?_
    refine r_lload_n 51 1 C dX12_offset_51 rfl ?_
    refine r_ws [(h0, .inr (11, [.ref h1, .int x1, .ref h2, .int x2, .int x3, .int x4, .ref h3, .ref h4, .ref h5, .ref h6, .int x5, .int x6, .int x7, .ref h7, .ref h8, .ref h9, .ref h10, .int x8, .int x9, .int x10, .long y0, .int x11, .int x12, .long y1, .long y2, .ref h11, .ref h12, .ref h13, .ref h14, .long y3, .int x13, .ref h15, .int x14, .int x15, .int x16, .int x17, .ref h16, .ref h17, .ref h18, .ref h19, .ref h20, .ref h21, .ref h22, .ref h23, .ref h24, .ref h25, .ref h26, .int x18, .int x19, .int x20, .int x21, .int x22, .int x23, .int x24, .long y4, .int x25, .ref h27, .ref h28, .long y5, .long y6, .int x26, .ref h29, .int x27, .ref h30, .ref h31, .ref h32, .ref h33, .int x28, .int x29, .int x30, .int x31, .ref h34, .ref h35, .int x32, .int x33, .ref h36])), (h1, .inl (gB g, 1500, .inl fn0))] (by rw [hq2]) ?_
    exact r_lret 52 Rt dX12_offset_52 () (show 0 ≤ (Int64.toInt z74) ∧ (Int64.toInt z74) ≤ 4294967295 ∧ ((Int64.toInt z74) = OFF fn0 (Int64.toInt y1) (Int32.toInt x12) (Int32.toInt x0)) from ⟨(by first | omega | ((repeat' apply And.intro) <;> first | trivial | rfl | assumption | omega | decide | exact Or.inl rfl | exact Or.inr (Or.inl rfl) | exact Or.inr (Or.inr rfl) | exact Or.inr (Or.inr (by assumption)))), (by first | omega | ((repeat' apply And.intro) <;> first | trivial | rfl | assumption | omega | decide | exact Or.inl rfl | exact Or.inr (Or.inl rfl) | exact Or.inr (Or.inr rfl) | exact Or.inr (Or.inr (by assumption)))), (by first | omega | ((repeat' apply And.intro) <;> first | trivial | rfl | assumption | omega | decide | exact Or.inl rfl | exact Or.inr (Or.inl rfl) | exact Or.inr (Or.inr rfl) | exact Or.inr (Or.inr (by assumption))))⟩) [0, 1] (by decide) rfl (Nat.le_of_ble_eq_true rfl) (Nat.le_of_ble_eq_true rfl)
set_option maxHeartbeats 4000000 in
set_option maxRecDepth 100000 in
theorem c49_X12_programs (l : Launch) (g : GD) (h0 : Nat) (h1 : Nat) (h2 : Nat) (h3 : Nat) (h4 : Nat) (h5 : Nat) (x0 : Int32) (h6 : Nat) (x1 : Int32) (x2 : Int32) (x3 : Int32) (h7 : Nat) (h8 : Nat) (h9 : Nat) (h10 : Nat) (x4 : Int32) (x5 : Int32) (x6 : Int32) (x7 : Int32) (x8 : Int32) (x9 : Int32) (y0 : Int64) (x10 : Int32) (x11 : Int32) (y1 : Int64) (y2 : Int64) (h11 : Nat) (h12 : Nat) (h13 : Nat) (h14 : Nat) (y3 : Int64) (x12 : Int32) (h15 : Nat) (x13 : Int32) (x14 : Int32) (x15 : Int32) (x16 : Int32) (h16 : Nat) (h17 : Nat) (h18 : Nat) (h19 : Nat) (h20 : Nat) (h21 : Nat) (h22 : Nat) (h23 : Nat) (h24 : Nat) (h25 : Nat) (h26 : Nat) (x17 : Int32) (x18 : Int32) (x19 : Int32) (x20 : Int32) (x21 : Int32) (x22 : Int32) (x23 : Int32) (y4 : Int64) (x24 : Int32) (h27 : Nat) (h28 : Nat) (y5 : Int64) (y6 : Int64) (x25 : Int32) (h29 : Nat) (x26 : Int32) (h30 : Nat) (h31 : Nat) (h32 : Nat) (h33 : Nat) (x27 : Int32) (x28 : Int32) (x29 : Int32) (x30 : Int32) (h34 : Nat) (h35 : Nat) (x31 : Int32) (x32 : Int32) (h36 : Nat) (fn0 : Nat → Int32) (fn1 : Nat → Int32) (fn2 : Nat → Int32) (fn3 : Nat → Int32) (fn4 : Nat → Int32) (i_x0 : (0 ≤ (Int32.toInt x0) ∧ (Int32.toInt x0) ≤ 1500)) (i_x1 : (0 ≤ (Int32.toInt x1) ∧ (Int32.toInt x1) ≤ 1508)) (i_x3 : (-1 ≤ (Int32.toInt x3) ∧ (Int32.toInt x3) ≤ 1)) (i_x6 : (0 ≤ (Int32.toInt x6) ∧ (Int32.toInt x6) ≤ 3)) (i_x7 : (0 ≤ (Int32.toInt x7) ∧ (Int32.toInt x7) ≤ 3000)) (i_x10 : (0 ≤ (Int32.toInt x10) ∧ (Int32.toInt x10) ≤ 1500)) (i_x11 : (0 ≤ (Int32.toInt x11) ∧ (Int32.toInt x11) ≤ 255)) (i_y1 : (0 ≤ (Int64.toInt y1) ∧ (Int64.toInt y1) ≤ 1500)) (i_y2 : (0 ≤ (Int64.toInt y2) ∧ (Int64.toInt y2) ≤ 1500)) (i_x12 : (0 ≤ (Int32.toInt x12) ∧ (Int32.toInt x12) ≤ 1)) (i_x13 : (0 ≤ (Int32.toInt x13) ∧ (Int32.toInt x13) ≤ 1500)) (i_x14 : (0 ≤ (Int32.toInt x14) ∧ (Int32.toInt x14) ≤ 1501)) (i_x15 : (0 ≤ (Int32.toInt x15) ∧ (Int32.toInt x15) ≤ 1500)) (i_x16 : (0 ≤ (Int32.toInt x16) ∧ (Int32.toInt x16) ≤ 1500)) (i_x18 : (0 ≤ (Int32.toInt x18) ∧ (Int32.toInt x18) ≤ 1)) (i_x19 : (0 ≤ (Int32.toInt x19) ∧ (Int32.toInt x19) ≤ 9)) (i_x20 : (0 ≤ (Int32.toInt x20) ∧ (Int32.toInt x20) ≤ 400)) (i_x21 : (0 ≤ (Int32.toInt x21) ∧ (Int32.toInt x21) ≤ 400)) (i_x22 : (0 ≤ (Int32.toInt x22) ∧ (Int32.toInt x22) ≤ 3000)) (i_x24 : (0 ≤ (Int32.toInt x24) ∧ (Int32.toInt x24) ≤ 1)) (i_x25 : (0 ≤ (Int32.toInt x25) ∧ (Int32.toInt x25) ≤ 1)) (i_x26 : (0 ≤ (Int32.toInt x26) ∧ (Int32.toInt x26) ≤ 48)) (i_x27 : (0 ≤ (Int32.toInt x27) ∧ (Int32.toInt x27) ≤ 10)) (i_x28 : (0 ≤ (Int32.toInt x28) ∧ (Int32.toInt x28) ≤ 1)) (i_x29 : (0 ≤ (Int32.toInt x29) ∧ (Int32.toInt x29) ≤ 1)) (i_x30 : (0 ≤ (Int32.toInt x30) ∧ (Int32.toInt x30) ≤ 7)) (i_x31 : (0 ≤ (Int32.toInt x31) ∧ (Int32.toInt x31) ≤ 24)) (i_x32 : (0 ≤ (Int32.toInt x32) ∧ (Int32.toInt x32) ≤ 1)) (ci_fn1 : (∀ j_9 : Nat, 0 ≤ Int32.toInt (fn1 j_9) ∧ Int32.toInt (fn1 j_9) ≤ 1600)) (ci_fn2 : (∀ j_9 : Nat, 0 ≤ Int32.toInt (fn2 j_9) ∧ Int32.toInt (fn2 j_9) ≤ 4500)) (ci_fn3 : (∀ j_9 : Nat, -1 ≤ Int32.toInt (fn3 j_9) ∧ Int32.toInt (fn3 j_9) ≤ 1500)) (pre0 : ((Int32.toInt x10) = 0 ∨ IX fn0 (Int64.toInt y1) (Int32.toInt x11) (Int32.toInt x10) (Int64.toInt y2) (Int32.toInt x0))) (sz : Nat) : Met l yX12_programs wsX12_programs ({ frames := 1, cells := 0, slots := 0, locals := 24 }) (va_Pc [.ref h0, .int 2] (PW g [(h0, .inr (11, [.ref h1, .int x0, .ref h6, .int x1, .int x2, .int x3, .ref h7, .ref h8, .ref h9, .ref h10, .int x4, .int x5, .int x6, .ref h2, .ref h3, .ref h4, .ref h5, .int x7, .int x8, .int x9, .long y0, .int x10, .int x11, .long y1, .long y2, .ref h11, .ref h12, .ref h13, .ref h14, .long y3, .int x12, .ref h15, .int x13, .int x14, .int x15, .int x16, .ref h16, .ref h17, .ref h18, .ref h19, .ref h20, .ref h21, .ref h22, .ref h23, .ref h24, .ref h25, .ref h26, .int x17, .int x18, .int x19, .int x20, .int x21, .int x22, .int x23, .long y4, .int x24, .ref h27, .ref h28, .long y5, .long y6, .int x25, .ref h29, .int x26, .ref h30, .ref h31, .ref h32, .ref h33, .int x27, .int x28, .int x29, .int x30, .ref h34, .ref h35, .int x31, .int x32, .ref h36])), (h1, .inl (gB g, 1500, .inl fn0)), (h2, .inl (gI g, 3, .inl fn1)), (h3, .inl (gI g, 4800, .inl fn2)), (h4, .inl (gI g, 4800, .inl fn3)), (h5, .inl (gB g, 6000, .inl fn4))] sz)) (va_Qv (fun (u : (Int32) × (Nat → Int32) × (Nat → Int32) × (Nat → Int32) × (Nat → Int32)) => 0 ≤ (Int32.toInt (u.1)) ∧ (Int32.toInt (u.1)) ≤ 4500 ∧ (∀ j_9 : Nat, 0 ≤ Int32.toInt ((u.2.1) j_9) ∧ Int32.toInt ((u.2.1) j_9) ≤ 1600) ∧ (∀ j_9 : Nat, 0 ≤ Int32.toInt ((u.2.2.1) j_9) ∧ Int32.toInt ((u.2.2.1) j_9) ≤ 4500) ∧ (∀ j_9 : Nat, -1 ≤ Int32.toInt ((u.2.2.2.1) j_9) ∧ Int32.toInt ((u.2.2.2.1) j_9) ≤ 1500) ∧ ((Int32.toInt (u.1)) ≤ (Int32.toInt x7) + 1500)) (BW g (va_A [(h0, .inr (11, [.ref h1, .int x0, .ref h6, .int x1, .int x2, .int x3, .ref h7, .ref h8, .ref h9, .ref h10, .int x4, .int x5, .int x6, .ref h2, .ref h3, .ref h4, .ref h5, .int x7, .int x8, .int x9, .long y0, .int x10, .int x11, .long y1, .long y2, .ref h11, .ref h12, .ref h13, .ref h14, .long y3, .int x12, .ref h15, .int x13, .int x14, .int x15, .int x16, .ref h16, .ref h17, .ref h18, .ref h19, .ref h20, .ref h21, .ref h22, .ref h23, .ref h24, .ref h25, .ref h26, .int x17, .int x18, .int x19, .int x20, .int x21, .int x22, .int x23, .long y4, .int x24, .ref h27, .ref h28, .long y5, .long y6, .int x25, .ref h29, .int x26, .ref h30, .ref h31, .ref h32, .ref h33, .int x27, .int x28, .int x29, .int x30, .ref h34, .ref h35, .int x31, .int x32, .ref h36])), (h1, .inl (gB g, 1500, .inl fn0)), (h2, .inl (gI g, 3, .inl fn1)), (h3, .inl (gI g, 4800, .inl fn2)), (h4, .inl (gI g, 4800, .inl fn3)), (h5, .inl (gB g, 6000, .inl fn4))] sz) (fun u : (Int32) × (Nat → Int32) × (Nat → Int32) × (Nat → Int32) × (Nat → Int32) => [(h0, .inr (11, [.ref h1, .int x0, .ref h6, .int x1, .int x2, .int x3, .ref h7, .ref h8, .ref h9, .ref h10, .int x4, .int x5, .int x6, .ref h2, .ref h3, .ref h4, .ref h5, .int u.1, .int x8, .int x9, .long y0, .int x10, .int x11, .long y1, .long y2, .ref h11, .ref h12, .ref h13, .ref h14, .long y3, .int x12, .ref h15, .int x13, .int x14, .int x15, .int x16, .ref h16, .ref h17, .ref h18, .ref h19, .ref h20, .ref h21, .ref h22, .ref h23, .ref h24, .ref h25, .ref h26, .int x17, .int x18, .int x19, .int x20, .int x21, .int x22, .int x23, .long y4, .int x24, .ref h27, .ref h28, .long y5, .long y6, .int x25, .ref h29, .int x26, .ref h30, .ref h31, .ref h32, .ref h33, .int x27, .int x28, .int x29, .int x30, .ref h34, .ref h35, .int x31, .int x32, .ref h36])), (h1, .inl (gB g, 1500, .inl fn0)), (h2, .inl (gI g, 3, .inl u.2.1)), (h3, .inl (gI g, 4800, .inl u.2.2.1)), (h4, .inl (gI g, 4800, .inl u.2.2.2.1)), (h5, .inl (gB g, 6000, .inl u.2.2.2.2))])) (va_A [(h0, .inr (11, [.ref h1, .int x0, .ref h6, .int x1, .int x2, .int x3, .ref h7, .ref h8, .ref h9, .ref h10, .int x4, .int x5, .int x6, .ref h2, .ref h3, .ref h4, .ref h5, .int x7, .int x8, .int x9, .long y0, .int x10, .int x11, .long y1, .long y2, .ref h11, .ref h12, .ref h13, .ref h14, .long y3, .int x12, .ref h15, .int x13, .int x14, .int x15, .int x16, .ref h16, .ref h17, .ref h18, .ref h19, .ref h20, .ref h21, .ref h22, .ref h23, .ref h24, .ref h25, .ref h26, .int x17, .int x18, .int x19, .int x20, .int x21, .int x22, .int x23, .long y4, .int x24, .ref h27, .ref h28, .long y5, .long y6, .int x25, .ref h29, .int x26, .ref h30, .ref h31, .ref h32, .ref h33, .int x27, .int x28, .int x29, .int x30, .ref h34, .ref h35, .int x31, .int x32, .ref h36])), (h1, .inl (gB g, 1500, .inl fn0)), (h2, .inl (gI g, 3, .inl fn1)), (h3, .inl (gI g, 4800, .inl fn2)), (h4, .inl (gI g, 4800, .inl fn3)), (h5, .inl (gB g, 6000, .inl fn4))] sz)) 0 0 (va_A [(h0, .inr (11, [.ref h1, .int x0, .ref h6, .int x1, .int x2, .int x3, .ref h7, .ref h8, .ref h9, .ref h10, .int x4, .int x5, .int x6, .ref h2, .ref h3, .ref h4, .ref h5, .int x7, .int x8, .int x9, .long y0, .int x10, .int x11, .long y1, .long y2, .ref h11, .ref h12, .ref h13, .ref h14, .long y3, .int x12, .ref h15, .int x13, .int x14, .int x15, .int x16, .ref h16, .ref h17, .ref h18, .ref h19, .ref h20, .ref h21, .ref h22, .ref h23, .ref h24, .ref h25, .ref h26, .int x17, .int x18, .int x19, .int x20, .int x21, .int x22, .int x23, .long y4, .int x24, .ref h27, .ref h28, .long y5, .long y6, .int x25, .ref h29, .int x26, .ref h30, .ref h31, .ref h32, .ref h33, .int x27, .int x28, .int x29, .int x30, .ref h34, .ref h35, .int x31, .int x32, .ref h36])), (h1, .inl (gB g, 1500, .inl fn0)), (h2, .inl (gI g, 3, .inl fn1)), (h3, .inl (gI g, 4800, .inl fn2)), (h4, .inl (gI g, 4800, .inl fn3)), (h5, .inl (gB g, 6000, .inl fn4))] sz) := by
  refine met_v RX12 (by decide) rfl rfl (Nat.le_of_ble_eq_true rfl) [(0, .ref h0), (1, .int 2)] rfl ?_
  intro p e s m args below meth c A Q C hnm Rt
  have hiX12 : ∀ w ∈ wsX120, w ∈ wsX12_programs := fun w h => List.mem_cons_of_mem _ (List.mem_append_right _ (h))
  have hq1 := pre0.imp id ix_lin
  refine r_aload_n 0 0 C dX12_programs_0 rfl ?_
  refine r_get 1 C dX12_programs_1 (k := 13) 0 rfl rfl hiX12 (by decide) rfl (mg 1 rfl) (Or.inl rfl) rfl ?_
  refine r_iload_n 4 1 C dX12_programs_4 rfl ?_
  refine r_aload_n 5 0 C dX12_programs_5 rfl ?_
  refine r_get 6 C dX12_programs_6 (k := 21) 0 rfl rfl hiX12 (by decide) rfl (mg 2 rfl) (Or.inl rfl) rfl ?_
  obtain ⟨f2, ef2⟩ : ∃ f_9, upd fn1 (Int32.toNatClampNeg 2) x10 = f_9 := ⟨_, rfl⟩
  have ci_f2 : (∀ j_9 : Nat, 0 ≤ Int32.toInt (f2 j_9) ∧ Int32.toInt (f2 j_9) ≤ 1600) := ci_upd ci_fn1 ⟨by omega, by omega⟩ ef2
  refine r_iast 9 C dX12_programs_9 2 rfl (vin (by decide)) f2 ef2 [(h0, .inr (11, [.ref h1, .int x0, .ref h6, .int x1, .int x2, .int x3, .ref h7, .ref h8, .ref h9, .ref h10, .int x4, .int x5, .int x6, .ref h2, .ref h3, .ref h4, .ref h5, .int x7, .int x8, .int x9, .long y0, .int x10, .int x11, .long y1, .long y2, .ref h11, .ref h12, .ref h13, .ref h14, .long y3, .int x12, .ref h15, .int x13, .int x14, .int x15, .int x16, .ref h16, .ref h17, .ref h18, .ref h19, .ref h20, .ref h21, .ref h22, .ref h23, .ref h24, .ref h25, .ref h26, .int x17, .int x18, .int x19, .int x20, .int x21, .int x22, .int x23, .long y4, .int x24, .ref h27, .ref h28, .long y5, .long y6, .int x25, .ref h29, .int x26, .ref h30, .ref h31, .ref h32, .ref h33, .int x27, .int x28, .int x29, .int x30, .ref h34, .ref h35, .int x31, .int x32, .ref h36])), (h1, .inl (gB g, 1500, .inl fn0)), (h2, .inl (gI g, 3, .inl f2)), (h3, .inl (gI g, 4800, .inl fn2)), (h4, .inl (gI g, 4800, .inl fn3)), (h5, .inl (gB g, 6000, .inl fn4))] rfl ?_
  refine r_iconst 10 0 C dX12_programs_10 (by decide) ?_
  refine r_istore_n 11 C dX12_programs_11 [(2, .int 0), (0, .ref h0), (1, .int 2)] (by decide) rfl ?_
  have lp9 : ∀ (n8 : Nat) (z3 : Int32) (z4 : Int32) (f5 : Nat → Int32) (f6 : Nat → Int32) (f7 : Nat → Int32), (0 ≤ (Int32.toInt z3) ∧ (Int32.toInt z3) ≤ 1500) → (0 ≤ (Int32.toInt z4) ∧ (Int32.toInt z4) ≤ 4500) → (∀ j_9 : Nat, 0 ≤ Int32.toInt (f5 j_9) ∧ Int32.toInt (f5 j_9) ≤ 4500) → (∀ j_9 : Nat, -1 ≤ Int32.toInt (f6 j_9) ∧ Int32.toInt (f6 j_9) ≤ 1500) → ((Int32.toInt z3) ≤ (Int32.toInt x10) ∧ (((Int32.toInt x10) = 0 ∧ (Int32.toInt z4) = (Int32.toInt x7)) ∨ (1 ≤ (Int32.toInt x10) ∧ (Int32.toInt z4) = (Int32.toInt x7) + OFF fn0 (Int64.toInt y1) (Int32.toInt x11) (Int32.toInt z3) - 1))) → Int.toNat (1500 - (Int32.toInt z3)) < n8 → WW p l e ({ frames := 1, cells := 0, slots := 0, locals := 24 } : Room) s m args below meth c A Q g 6 0 0 [(h0, .inr (11, [.ref h1, .int x0, .ref h6, .int x1, .int x2, .int x3, .ref h7, .ref h8, .ref h9, .ref h10, .int x4, .int x5, .int x6, .ref h2, .ref h3, .ref h4, .ref h5, .int z4, .int x8, .int x9, .long y0, .int x10, .int x11, .long y1, .long y2, .ref h11, .ref h12, .ref h13, .ref h14, .long y3, .int x12, .ref h15, .int x13, .int x14, .int x15, .int x16, .ref h16, .ref h17, .ref h18, .ref h19, .ref h20, .ref h21, .ref h22, .ref h23, .ref h24, .ref h25, .ref h26, .int x17, .int x18, .int x19, .int x20, .int x21, .int x22, .int x23, .long y4, .int x24, .ref h27, .ref h28, .long y5, .long y6, .int x25, .ref h29, .int x26, .ref h30, .ref h31, .ref h32, .ref h33, .int x27, .int x28, .int x29, .int x30, .ref h34, .ref h35, .int x31, .int x32, .ref h36])), (h1, .inl (gB g, 1500, .inl fn0)), (h2, .inl (gI g, 3, .inl f2)), (h3, .inl (gI g, 4800, .inl f5)), (h4, .inl (gI g, 4800, .inl f6)), (h5, .inl (gB g, 6000, .inl f7))] 12 [(2, .int z3), (0, .ref h0), (1, .int 2)] [] := by
    intro n8
    induction n8 with
    | zero => intro z3 z4 f5 f6 f7 i12 i13 ci_f5 ci_f6 j14 hm11; exact absurd hm11 (Nat.not_lt_zero _)
    | succ n8 ih10 =>
      intro z3 z4 f5 f6 f7 i12 i13 ci_f5 ci_f6 j14 hm11
      obtain ⟨i12a, i12b⟩ := i12
      obtain ⟨i13a, i13b⟩ := i13
      refine r_iload_n 12 0 C dX12_programs_12 rfl ?_
      refine r_aload_n 13 1 C dX12_programs_13 rfl ?_
      refine r_get 14 C dX12_programs_14 (k := 21) 0 rfl rfl hiX12 (by decide) rfl (mg 2 rfl) (Or.inl rfl) rfl ?_
      refine r_icmp_ge 17 132 C dX12_programs_17 (by decide) (fun c15 => ?_) (fun c15 => ?_)
      · skip
        have k16 : (Int32.toInt x10) ≤ (Int32.toInt z3) := (fa_le x10 z3).mp c15
        have hq17 : (Int32.toInt z3) = (Int32.toInt x10) := by omega
        have hq18 : OFF fn0 (Int64.toInt y1) (Int32.toInt x11) (Int32.toInt z3) = OFF fn0 (Int64.toInt y1) (Int32.toInt x11) (Int32.toInt x10) := by rw [hq17]
        have hq19 : ((Int32.toInt x10) = 0 ∨ (Int64.toInt y2) + OFF fn0 (Int64.toInt y1) (Int32.toInt x11) (Int32.toInt x10) ≤ (Int32.toInt x0)) := pre0.imp id (fun h_9 => h_9.2.2.2.2.2.2.2.2)
        exact r_vret 132 Rt dX12_programs_132 (z4, f2, f5, f6, f7) (show 0 ≤ (Int32.toInt z4) ∧ (Int32.toInt z4) ≤ 4500 ∧ (∀ j_9 : Nat, 0 ≤ Int32.toInt (f2 j_9) ∧ Int32.toInt (f2 j_9) ≤ 1600) ∧ (∀ j_9 : Nat, 0 ≤ Int32.toInt (f5 j_9) ∧ Int32.toInt (f5 j_9) ≤ 4500) ∧ (∀ j_9 : Nat, -1 ≤ Int32.toInt (f6 j_9) ∧ Int32.toInt (f6 j_9) ≤ 1500) ∧ ((Int32.toInt z4) ≤ (Int32.toInt x7) + 1500) from ⟨(show _ ∧ _ from ⟨i13a, i13b⟩).1, (show _ ∧ _ from ⟨i13a, i13b⟩).2, ci_f2, ci_f5, ci_f6, (by first | omega | ((repeat' apply And.intro) <;> first | trivial | rfl | assumption | omega | decide | exact Or.inl rfl | exact Or.inr (Or.inl rfl) | exact Or.inr (Or.inr rfl) | exact Or.inr (Or.inr (by assumption))))⟩) [0, 1, 2, 3, 4, 5] (by decide) rfl (Nat.le_of_ble_eq_true rfl) (Nat.le_of_ble_eq_true rfl)
      · skip
        have k20 : ¬ ((Int32.toInt x10) ≤ (Int32.toInt z3)) := fun h_9 => c15 ((fa_le x10 z3).mpr h_9)
        have hq21 := pre0.resolve_left (by omega)
        have hq22 := ix_at hq21 (k := (Int32.toInt z3)) (by omega) (by omega)
        refine r_aload_n 20 1 C dX12_programs_20 rfl ?_
        refine r_get 21 C dX12_programs_21 (k := 24) 0 rfl rfl hiX12 (by decide) rfl (mg 3 rfl) (Or.inl rfl) rfl ?_
        refine r_aload_n 24 1 C dX12_programs_24 rfl ?_
        refine r_iload_n 25 0 C dX12_programs_25 rfl ?_
        refine r_callVl 26 C dX12_programs_26 [.long y2] [(h0, .inr (11, [.ref h1, .int x0, .ref h6, .int x1, .int x2, .int x3, .ref h7, .ref h8, .ref h9, .ref h10, .int x4, .int x5, .int x6, .ref h2, .ref h3, .ref h4, .ref h5, .int z4, .int x8, .int x9, .long y0, .int x10, .int x11, .long y1, .long y2, .ref h11, .ref h12, .ref h13, .ref h14, .long y3, .int x12, .ref h15, .int x13, .int x14, .int x15, .int x16, .ref h16, .ref h17, .ref h18, .ref h19, .ref h20, .ref h21, .ref h22, .ref h23, .ref h24, .ref h25, .ref h26, .int x17, .int x18, .int x19, .int x20, .int x21, .int x22, .int x23, .long y4, .int x24, .ref h27, .ref h28, .long y5, .long y6, .int x25, .ref h29, .int x26, .ref h30, .ref h31, .ref h32, .ref h33, .int x27, .int x28, .int x29, .int x30, .ref h34, .ref h35, .int x31, .int x32, .ref h36])), (h1, .inl (gB g, 1500, .inl fn0))] [(h2, .inl (gI g, 3, .inl f2)), (h3, .inl (gI g, 4800, .inl f5)), (h4, .inl (gI g, 4800, .inl f6)), (h5, .inl (gB g, 6000, .inl f7))] (fun sz => c48_X12_offset l g h0 h1 z3 x0 h6 x1 x2 x3 h7 h8 h9 h10 x4 x5 x6 h2 h3 h4 h5 z4 x8 x9 y0 x10 x11 y1 y2 h11 h12 h13 h14 y3 x12 h15 x13 x14 x15 x16 h16 h17 h18 h19 h20 h21 h22 h23 h24 h25 h26 x17 x18 x19 x20 x21 x22 x23 y4 x24 h27 h28 y5 y6 x25 h29 x26 h30 h31 h32 h33 x27 x28 x29 x30 h34 h35 x31 x32 h36 fn0 ⟨i12a, i12b⟩ i_x0 i_x1 i_x3 i_x6 ⟨i13a, i13b⟩ (iv_wide (c := 0) (d := 65535) i_x10 (by decide) (by decide)) i_x11 i_y1 i_y2 i_x12 i_x13 i_x14 i_x15 i_x16 i_x18 i_x19 i_x20 i_x21 i_x22 i_x24 i_x25 i_x26 i_x27 i_x28 i_x29 i_x30 i_x31 i_x32 (by show (IX fn0 (Int64.toInt y1) (Int32.toInt x11) (Int32.toInt x10) (Int64.toInt y2) (Int32.toInt x0)); first | assumption | omega) (by show ((Int32.toInt z3) ≤ (Int32.toInt x10)); first | assumption | omega) sz) gX12_programs_X12_offset rfl ⟨rfl, rfl⟩ 1 (by decide) ⟨Nat.le_of_ble_eq_true rfl, Nat.le_of_ble_eq_true rfl⟩ 0 rfl rfl [0, 1] [2, 3, 4, 5] rfl rfl (by decide) (by decide) (by decide) rfl rfl (Nat.le_of_ble_eq_true rfl) ⟨Nat.le_of_ble_eq_true rfl, Nat.le_of_ble_eq_true rfl⟩ (fun r23 _ w24 => ?_)
        refine r_ws [(h2, .inl (gI g, 3, .inl f2)), (h3, .inl (gI g, 4800, .inl f5)), (h4, .inl (gI g, 4800, .inl f6)), (h5, .inl (gB g, 6000, .inl f7)), (h0, .inr (11, [.ref h1, .int x0, .ref h6, .int x1, .int x2, .int x3, .ref h7, .ref h8, .ref h9, .ref h10, .int x4, .int x5, .int x6, .ref h2, .ref h3, .ref h4, .ref h5, .int z4, .int x8, .int x9, .long y0, .int x10, .int x11, .long y1, .long y2, .ref h11, .ref h12, .ref h13, .ref h14, .long y3, .int x12, .ref h15, .int x13, .int x14, .int x15, .int x16, .ref h16, .ref h17, .ref h18, .ref h19, .ref h20, .ref h21, .ref h22, .ref h23, .ref h24, .ref h25, .ref h26, .int x17, .int x18, .int x19, .int x20, .int x21, .int x22, .int x23, .long y4, .int x24, .ref h27, .ref h28, .long y5, .long y6, .int x25, .ref h29, .int x26, .ref h30, .ref h31, .ref h32, .ref h33, .int x27, .int x28, .int x29, .int x30, .ref h34, .ref h35, .int x31, .int x32, .ref h36])), (h1, .inl (gB g, 1500, .inl fn0))] rfl ?_
        have p25 : 0 ≤ (Int64.toInt r23) := w24.1
        have p26 : (Int64.toInt r23) ≤ 4294967295 := w24.2.1
        have p27 : ((Int64.toInt r23) = OFF fn0 (Int64.toInt y1) (Int32.toInt x11) (Int32.toInt z3)) := w24.2.2
        obtain ⟨z28, ez28⟩ : ∃ z_9, y2 + r23 = z_9 := ⟨_, rfl⟩
        have tz28 : (Int64.toInt z28) = (Int64.toInt y2) + (Int64.toInt r23) := by rw [← ez28]; exact fb_addLv (a := 0) (b := 1500) (c := 0) (d := 4294967295) i_y2 ⟨p25, p26⟩ (by decide) (by decide)
        refine r_ladd 29 z28 C dX12_programs_29 ez28 ?_
        obtain ⟨z29, ez29⟩ : ∃ z_9, Int64.toInt32 z28 = z_9 := ⟨_, rfl⟩
        have tz29 : (Int32.toInt z29) = (Int64.toInt z28) := by rw [← ez29]; exact l2i_in (by omega) (by omega)
        refine r_l2i 30 z29 C dX12_programs_30 ez29 ?_
        refine r_istore_n 31 C dX12_programs_31 [(3, .int z29), (2, .int z3), (0, .ref h0), (1, .int 2)] (by decide) rfl ?_
        refine r_aload_n 32 2 C dX12_programs_32 rfl ?_
        refine r_iload_n 33 1 C dX12_programs_33 rfl ?_
        refine r_iconst 34 1 C dX12_programs_34 (by decide) ?_
        obtain ⟨z30, ez30⟩ : ∃ z_9, z3 + 1 = z_9 := ⟨_, rfl⟩
        have tz30 : (Int32.toInt z30) = (Int32.toInt z3) + 1 := by rw [← ez30]; exact fb_addIv (a := 0) (b := 1500) (c := 1) (d := 1) ⟨i12a, i12b⟩ ⟨by decide, by decide⟩ (by decide) (by decide)
        refine r_iadd 35 z30 C dX12_programs_35 ez30 ?_
        have hq31 : OFF fn0 (Int64.toInt y1) (Int32.toInt x11) (Int32.toInt z30) = OFF fn0 (Int64.toInt y1) (Int32.toInt x11) ((Int32.toInt z3) + 1) := by rw [show (Int32.toInt z30) = (Int32.toInt z3) + 1 from by omega]
        refine r_callVl 36 C dX12_programs_36 [] [(h0, .inr (11, [.ref h1, .int x0, .ref h6, .int x1, .int x2, .int x3, .ref h7, .ref h8, .ref h9, .ref h10, .int x4, .int x5, .int x6, .ref h2, .ref h3, .ref h4, .ref h5, .int z4, .int x8, .int x9, .long y0, .int x10, .int x11, .long y1, .long y2, .ref h11, .ref h12, .ref h13, .ref h14, .long y3, .int x12, .ref h15, .int x13, .int x14, .int x15, .int x16, .ref h16, .ref h17, .ref h18, .ref h19, .ref h20, .ref h21, .ref h22, .ref h23, .ref h24, .ref h25, .ref h26, .int x17, .int x18, .int x19, .int x20, .int x21, .int x22, .int x23, .long y4, .int x24, .ref h27, .ref h28, .long y5, .long y6, .int x25, .ref h29, .int x26, .ref h30, .ref h31, .ref h32, .ref h33, .int x27, .int x28, .int x29, .int x30, .ref h34, .ref h35, .int x31, .int x32, .ref h36])), (h1, .inl (gB g, 1500, .inl fn0))] [(h2, .inl (gI g, 3, .inl f2)), (h3, .inl (gI g, 4800, .inl f5)), (h4, .inl (gI g, 4800, .inl f6)), (h5, .inl (gB g, 6000, .inl f7))] (fun sz => c48_X12_offset l g h0 h1 z30 x0 h6 x1 x2 x3 h7 h8 h9 h10 x4 x5 x6 h2 h3 h4 h5 z4 x8 x9 y0 x10 x11 y1 y2 h11 h12 h13 h14 y3 x12 h15 x13 x14 x15 x16 h16 h17 h18 h19 h20 h21 h22 h23 h24 h25 h26 x17 x18 x19 x20 x21 x22 x23 y4 x24 h27 h28 y5 y6 x25 h29 x26 h30 h31 h32 h33 x27 x28 x29 x30 h34 h35 x31 x32 h36 fn0 ⟨by omega, by omega⟩ i_x0 i_x1 i_x3 i_x6 ⟨i13a, i13b⟩ (iv_wide (c := 0) (d := 65535) i_x10 (by decide) (by decide)) i_x11 i_y1 i_y2 i_x12 i_x13 i_x14 i_x15 i_x16 i_x18 i_x19 i_x20 i_x21 i_x22 i_x24 i_x25 i_x26 i_x27 i_x28 i_x29 i_x30 i_x31 i_x32 (by show (IX fn0 (Int64.toInt y1) (Int32.toInt x11) (Int32.toInt x10) (Int64.toInt y2) (Int32.toInt x0)); first | assumption | omega) (by show ((Int32.toInt z30) ≤ (Int32.toInt x10)); first | assumption | omega) sz) gX12_programs_X12_offset rfl ⟨rfl, rfl⟩ 1 (by decide) ⟨Nat.le_of_ble_eq_true rfl, Nat.le_of_ble_eq_true rfl⟩ 4 rfl rfl [4, 5] [0, 1, 2, 3] rfl rfl (by decide) (by decide) (by decide) rfl rfl (Nat.le_of_ble_eq_true rfl) ⟨Nat.le_of_ble_eq_true rfl, Nat.le_of_ble_eq_true rfl⟩ (fun r32 _ w33 => ?_)
        refine r_ws [(h2, .inl (gI g, 3, .inl f2)), (h3, .inl (gI g, 4800, .inl f5)), (h4, .inl (gI g, 4800, .inl f6)), (h5, .inl (gB g, 6000, .inl f7)), (h0, .inr (11, [.ref h1, .int x0, .ref h6, .int x1, .int x2, .int x3, .ref h7, .ref h8, .ref h9, .ref h10, .int x4, .int x5, .int x6, .ref h2, .ref h3, .ref h4, .ref h5, .int z4, .int x8, .int x9, .long y0, .int x10, .int x11, .long y1, .long y2, .ref h11, .ref h12, .ref h13, .ref h14, .long y3, .int x12, .ref h15, .int x13, .int x14, .int x15, .int x16, .ref h16, .ref h17, .ref h18, .ref h19, .ref h20, .ref h21, .ref h22, .ref h23, .ref h24, .ref h25, .ref h26, .int x17, .int x18, .int x19, .int x20, .int x21, .int x22, .int x23, .long y4, .int x24, .ref h27, .ref h28, .long y5, .long y6, .int x25, .ref h29, .int x26, .ref h30, .ref h31, .ref h32, .ref h33, .int x27, .int x28, .int x29, .int x30, .ref h34, .ref h35, .int x31, .int x32, .ref h36])), (h1, .inl (gB g, 1500, .inl fn0))] rfl ?_
        have p34 : 0 ≤ (Int64.toInt r32) := w33.1
        have p35 : (Int64.toInt r32) ≤ 4294967295 := w33.2.1
        have p36 : ((Int64.toInt r32) = OFF fn0 (Int64.toInt y1) (Int32.toInt x11) (Int32.toInt z30)) := w33.2.2
        refine r_aload_n 39 2 C dX12_programs_39 rfl ?_
        refine r_iload_n 40 1 C dX12_programs_40 rfl ?_
        refine r_callVl 41 C dX12_programs_41 [.long r32] [(h0, .inr (11, [.ref h1, .int x0, .ref h6, .int x1, .int x2, .int x3, .ref h7, .ref h8, .ref h9, .ref h10, .int x4, .int x5, .int x6, .ref h2, .ref h3, .ref h4, .ref h5, .int z4, .int x8, .int x9, .long y0, .int x10, .int x11, .long y1, .long y2, .ref h11, .ref h12, .ref h13, .ref h14, .long y3, .int x12, .ref h15, .int x13, .int x14, .int x15, .int x16, .ref h16, .ref h17, .ref h18, .ref h19, .ref h20, .ref h21, .ref h22, .ref h23, .ref h24, .ref h25, .ref h26, .int x17, .int x18, .int x19, .int x20, .int x21, .int x22, .int x23, .long y4, .int x24, .ref h27, .ref h28, .long y5, .long y6, .int x25, .ref h29, .int x26, .ref h30, .ref h31, .ref h32, .ref h33, .int x27, .int x28, .int x29, .int x30, .ref h34, .ref h35, .int x31, .int x32, .ref h36])), (h1, .inl (gB g, 1500, .inl fn0))] [(h2, .inl (gI g, 3, .inl f2)), (h3, .inl (gI g, 4800, .inl f5)), (h4, .inl (gI g, 4800, .inl f6)), (h5, .inl (gB g, 6000, .inl f7))] (fun sz => c48_X12_offset l g h0 h1 z3 x0 h6 x1 x2 x3 h7 h8 h9 h10 x4 x5 x6 h2 h3 h4 h5 z4 x8 x9 y0 x10 x11 y1 y2 h11 h12 h13 h14 y3 x12 h15 x13 x14 x15 x16 h16 h17 h18 h19 h20 h21 h22 h23 h24 h25 h26 x17 x18 x19 x20 x21 x22 x23 y4 x24 h27 h28 y5 y6 x25 h29 x26 h30 h31 h32 h33 x27 x28 x29 x30 h34 h35 x31 x32 h36 fn0 ⟨i12a, i12b⟩ i_x0 i_x1 i_x3 i_x6 ⟨i13a, i13b⟩ (iv_wide (c := 0) (d := 65535) i_x10 (by decide) (by decide)) i_x11 i_y1 i_y2 i_x12 i_x13 i_x14 i_x15 i_x16 i_x18 i_x19 i_x20 i_x21 i_x22 i_x24 i_x25 i_x26 i_x27 i_x28 i_x29 i_x30 i_x31 i_x32 (by show (IX fn0 (Int64.toInt y1) (Int32.toInt x11) (Int32.toInt x10) (Int64.toInt y2) (Int32.toInt x0)); first | assumption | omega) (by show ((Int32.toInt z3) ≤ (Int32.toInt x10)); first | assumption | omega) sz) gX12_programs_X12_offset rfl ⟨rfl, rfl⟩ 1 (by decide) ⟨Nat.le_of_ble_eq_true rfl, Nat.le_of_ble_eq_true rfl⟩ 4 rfl rfl [4, 5] [0, 1, 2, 3] rfl rfl (by decide) (by decide) (by decide) rfl rfl (Nat.le_of_ble_eq_true rfl) ⟨Nat.le_of_ble_eq_true rfl, Nat.le_of_ble_eq_true rfl⟩ (fun r37 _ w38 => ?_)
        refine r_ws [(h2, .inl (gI g, 3, .inl f2)), (h3, .inl (gI g, 4800, .inl f5)), (h4, .inl (gI g, 4800, .inl f6)), (h5, .inl (gB g, 6000, .inl f7)), (h0, .inr (11, [.ref h1, .int x0, .ref h6, .int x1, .int x2, .int x3, .ref h7, .ref h8, .ref h9, .ref h10, .int x4, .int x5, .int x6, .ref h2, .ref h3, .ref h4, .ref h5, .int z4, .int x8, .int x9, .long y0, .int x10, .int x11, .long y1, .long y2, .ref h11, .ref h12, .ref h13, .ref h14, .long y3, .int x12, .ref h15, .int x13, .int x14, .int x15, .int x16, .ref h16, .ref h17, .ref h18, .ref h19, .ref h20, .ref h21, .ref h22, .ref h23, .ref h24, .ref h25, .ref h26, .int x17, .int x18, .int x19, .int x20, .int x21, .int x22, .int x23, .long y4, .int x24, .ref h27, .ref h28, .long y5, .long y6, .int x25, .ref h29, .int x26, .ref h30, .ref h31, .ref h32, .ref h33, .int x27, .int x28, .int x29, .int x30, .ref h34, .ref h35, .int x31, .int x32, .ref h36])), (h1, .inl (gB g, 1500, .inl fn0))] rfl ?_
        have p39 : 0 ≤ (Int64.toInt r37) := w38.1
        have p40 : (Int64.toInt r37) ≤ 4294967295 := w38.2.1
        have p41 : ((Int64.toInt r37) = OFF fn0 (Int64.toInt y1) (Int32.toInt x11) (Int32.toInt z3)) := w38.2.2
        obtain ⟨z42, ez42⟩ : ∃ z_9, r32 - r37 = z_9 := ⟨_, rfl⟩
        have tz42 : (Int64.toInt z42) = (Int64.toInt r32) - (Int64.toInt r37) := by rw [← ez42]; exact fb_subLv (a := 0) (b := 4294967295) (c := 0) (d := 4294967295) ⟨p34, p35⟩ ⟨p39, p40⟩ (by decide) (by decide)
        refine r_lsub 44 z42 C dX12_programs_44 ez42 ?_
        obtain ⟨z43, ez43⟩ : ∃ z_9, Int64.toInt32 z42 = z_9 := ⟨_, rfl⟩
        have tz43 : (Int32.toInt z43) = (Int64.toInt z42) := by rw [← ez43]; exact l2i_in (by omega) (by omega)
        refine r_l2i 45 z43 C dX12_programs_45 ez43 ?_
        refine r_istore 46 C dX12_programs_46 [(4, .int z43), (3, .int z29), (2, .int z3), (0, .ref h0), (1, .int 2)] (by decide) rfl ?_
        refine r_aload_n 48 3 C dX12_programs_48 rfl ?_
        refine r_get 49 C dX12_programs_49 (k := 14) 4 rfl rfl hiX12 (by decide) rfl (mg 4 rfl) (Or.inl rfl) rfl ?_
        refine r_sipush 52 1600 C dX12_programs_52 (by decide) ?_
        refine r_iload_n 55 4 C dX12_programs_55 rfl ?_
        refine r_imul 56 3200 C dX12_programs_56 (by decide) ?_
        refine r_iload_n 57 2 C dX12_programs_57 rfl ?_
        obtain ⟨z44, ez44⟩ : ∃ z_9, 3200 + z3 = z_9 := ⟨_, rfl⟩
        have tz44 : (Int32.toInt z44) = 3200 + (Int32.toInt z3) := by rw [← ez44]; exact fb_addIv (a := 3200) (b := 3200) (c := 0) (d := 1500) ⟨by decide, by decide⟩ ⟨i12a, i12b⟩ (by decide) (by decide)
        refine r_iadd 58 z44 C dX12_programs_58 ez44 ?_
        refine r_aload_n 59 3 C dX12_programs_59 rfl ?_
        refine r_get 60 C dX12_programs_60 (k := 17) 4 rfl rfl hiX12 (by decide) rfl (mg 5 rfl) (Or.inl rfl) rfl ?_
        obtain ⟨f45, ef45⟩ : ∃ f_9, upd f5 (Int32.toNatClampNeg z44) z4 = f_9 := ⟨_, rfl⟩
        have ci_f45 : (∀ j_9 : Nat, 0 ≤ Int32.toInt (f45 j_9) ∧ Int32.toInt (f45 j_9) ≤ 4500) := ci_upd ci_f5 ⟨by omega, by omega⟩ ef45
        refine r_iast 63 C dX12_programs_63 1 rfl (vinI (by omega) (by omega)) f45 ef45 [(h2, .inl (gI g, 3, .inl f2)), (h3, .inl (gI g, 4800, .inl f45)), (h4, .inl (gI g, 4800, .inl f6)), (h5, .inl (gB g, 6000, .inl f7)), (h0, .inr (11, [.ref h1, .int x0, .ref h6, .int x1, .int x2, .int x3, .ref h7, .ref h8, .ref h9, .ref h10, .int x4, .int x5, .int x6, .ref h2, .ref h3, .ref h4, .ref h5, .int z4, .int x8, .int x9, .long y0, .int x10, .int x11, .long y1, .long y2, .ref h11, .ref h12, .ref h13, .ref h14, .long y3, .int x12, .ref h15, .int x13, .int x14, .int x15, .int x16, .ref h16, .ref h17, .ref h18, .ref h19, .ref h20, .ref h21, .ref h22, .ref h23, .ref h24, .ref h25, .ref h26, .int x17, .int x18, .int x19, .int x20, .int x21, .int x22, .int x23, .long y4, .int x24, .ref h27, .ref h28, .long y5, .long y6, .int x25, .ref h29, .int x26, .ref h30, .ref h31, .ref h32, .ref h33, .int x27, .int x28, .int x29, .int x30, .ref h34, .ref h35, .int x31, .int x32, .ref h36])), (h1, .inl (gB g, 1500, .inl fn0))] rfl ?_
        refine r_aload_n 64 3 C dX12_programs_64 rfl ?_
        refine r_get 65 C dX12_programs_65 (k := 15) 4 rfl rfl hiX12 (by decide) rfl (mg 6 rfl) (Or.inl rfl) rfl ?_
        refine r_sipush 68 1600 C dX12_programs_68 (by decide) ?_
        refine r_iload_n 71 4 C dX12_programs_71 rfl ?_
        refine r_imul 72 3200 C dX12_programs_72 (by decide) ?_
        refine r_iload_n 73 2 C dX12_programs_73 rfl ?_
        refine r_iadd 74 z44 C dX12_programs_74 ez44 ?_
        refine r_iload 75 0 C dX12_programs_75 rfl ?_
        obtain ⟨f46, ef46⟩ : ∃ f_9, upd f6 (Int32.toNatClampNeg z44) z43 = f_9 := ⟨_, rfl⟩
        have ci_f46 : (∀ j_9 : Nat, -1 ≤ Int32.toInt (f46 j_9) ∧ Int32.toInt (f46 j_9) ≤ 1500) := ci_upd ci_f6 ⟨by omega, by omega⟩ ef46
        refine r_iast 77 C dX12_programs_77 2 rfl (vinI (by omega) (by omega)) f46 ef46 [(h2, .inl (gI g, 3, .inl f2)), (h3, .inl (gI g, 4800, .inl f45)), (h4, .inl (gI g, 4800, .inl f46)), (h5, .inl (gB g, 6000, .inl f7)), (h0, .inr (11, [.ref h1, .int x0, .ref h6, .int x1, .int x2, .int x3, .ref h7, .ref h8, .ref h9, .ref h10, .int x4, .int x5, .int x6, .ref h2, .ref h3, .ref h4, .ref h5, .int z4, .int x8, .int x9, .long y0, .int x10, .int x11, .long y1, .long y2, .ref h11, .ref h12, .ref h13, .ref h14, .long y3, .int x12, .ref h15, .int x13, .int x14, .int x15, .int x16, .ref h16, .ref h17, .ref h18, .ref h19, .ref h20, .ref h21, .ref h22, .ref h23, .ref h24, .ref h25, .ref h26, .int x17, .int x18, .int x19, .int x20, .int x21, .int x22, .int x23, .long y4, .int x24, .ref h27, .ref h28, .long y5, .long y6, .int x25, .ref h29, .int x26, .ref h30, .ref h31, .ref h32, .ref h33, .int x27, .int x28, .int x29, .int x30, .ref h34, .ref h35, .int x31, .int x32, .ref h36])), (h1, .inl (gB g, 1500, .inl fn0))] rfl ?_
        refine r_iconst 78 0 C dX12_programs_78 (by decide) ?_
        refine r_istore 79 C dX12_programs_79 [(5, .int 0), (4, .int z43), (3, .int z29), (2, .int z3), (0, .ref h0), (1, .int 2)] (by decide) rfl ?_
        have lp50 : ∀ (n49 : Nat) (z47 : Int32) (f48 : Nat → Int32), (0 ≤ (Int32.toInt z47) ∧ (Int32.toInt z47) ≤ 1499) → Int.toNat (1499 - (Int32.toInt z47)) < n49 → WW p l e ({ frames := 1, cells := 0, slots := 0, locals := 24 } : Room) s m args below meth c A Q g 6 0 0 [(h2, .inl (gI g, 3, .inl f2)), (h3, .inl (gI g, 4800, .inl f45)), (h4, .inl (gI g, 4800, .inl f46)), (h5, .inl (gB g, 6000, .inl f48)), (h0, .inr (11, [.ref h1, .int x0, .ref h6, .int x1, .int x2, .int x3, .ref h7, .ref h8, .ref h9, .ref h10, .int x4, .int x5, .int x6, .ref h2, .ref h3, .ref h4, .ref h5, .int z4, .int x8, .int x9, .long y0, .int x10, .int x11, .long y1, .long y2, .ref h11, .ref h12, .ref h13, .ref h14, .long y3, .int x12, .ref h15, .int x13, .int x14, .int x15, .int x16, .ref h16, .ref h17, .ref h18, .ref h19, .ref h20, .ref h21, .ref h22, .ref h23, .ref h24, .ref h25, .ref h26, .int x17, .int x18, .int x19, .int x20, .int x21, .int x22, .int x23, .long y4, .int x24, .ref h27, .ref h28, .long y5, .long y6, .int x25, .ref h29, .int x26, .ref h30, .ref h31, .ref h32, .ref h33, .int x27, .int x28, .int x29, .int x30, .ref h34, .ref h35, .int x31, .int x32, .ref h36])), (h1, .inl (gB g, 1500, .inl fn0))] 81 [(5, .int z47), (4, .int z43), (3, .int z29), (2, .int z3), (0, .ref h0), (1, .int 2)] [] := by
          intro n49
          induction n49 with
          | zero => intro z47 f48 i53 hm52; exact absurd hm52 (Nat.not_lt_zero _)
          | succ n49 ih51 =>
            intro z47 f48 i53 hm52
            obtain ⟨i53a, i53b⟩ := i53
            refine r_iload 81 0 C dX12_programs_81 rfl ?_
            refine r_iload 83 1 C dX12_programs_83 rfl ?_
            refine r_icmp_ge 85 115 C dX12_programs_85 (by decide) (fun c54 => ?_) (fun c54 => ?_)
            · skip
              have k55 : (Int32.toInt z43) ≤ (Int32.toInt z47) := (fa_le z43 z47).mp c54
              refine r_aload_n 115 4 C dX12_programs_115 rfl ?_
              refine r_dup 116 C dX12_programs_116 rfl ?_
              refine r_get 117 C dX12_programs_117 (k := 17) 4 rfl rfl hiX12 (by decide) rfl (mg 5 rfl) (Or.inl rfl) rfl ?_
              refine r_iload 120 1 C dX12_programs_120 rfl ?_
              obtain ⟨z56, ez56⟩ : ∃ z_9, z4 + z43 = z_9 := ⟨_, rfl⟩
              have tz56 : (Int32.toInt z56) = (Int32.toInt z4) + (Int32.toInt z43) := by rw [← ez56]; exact fb_addI (by show -2147483648 ≤ (Int32.toInt z4) + (Int32.toInt z43); omega) (by show (Int32.toInt z4) + (Int32.toInt z43) < 2147483648; omega)
              refine r_iadd 122 z56 C dX12_programs_122 ez56 ?_
              refine r_put 123 C dX12_programs_123 (k := 17) 4 rfl rfl hiX12 tyX12 tyX12_ok nmX12 (by decide) rfl (mg 5 rfl) (Or.inl rfl) rfl rfl rfl rfl (Nat.le_of_ble_eq_true rfl) [(h2, .inl (gI g, 3, .inl f2)), (h3, .inl (gI g, 4800, .inl f45)), (h4, .inl (gI g, 4800, .inl f46)), (h5, .inl (gB g, 6000, .inl f48)), (h0, .inr (11, [.ref h1, .int x0, .ref h6, .int x1, .int x2, .int x3, .ref h7, .ref h8, .ref h9, .ref h10, .int x4, .int x5, .int x6, .ref h2, .ref h3, .ref h4, .ref h5, .int z56, .int x8, .int x9, .long y0, .int x10, .int x11, .long y1, .long y2, .ref h11, .ref h12, .ref h13, .ref h14, .long y3, .int x12, .ref h15, .int x13, .int x14, .int x15, .int x16, .ref h16, .ref h17, .ref h18, .ref h19, .ref h20, .ref h21, .ref h22, .ref h23, .ref h24, .ref h25, .ref h26, .int x17, .int x18, .int x19, .int x20, .int x21, .int x22, .int x23, .long y4, .int x24, .ref h27, .ref h28, .long y5, .long y6, .int x25, .ref h29, .int x26, .ref h30, .ref h31, .ref h32, .ref h33, .int x27, .int x28, .int x29, .int x30, .ref h34, .ref h35, .int x31, .int x32, .ref h36])), (h1, .inl (gB g, 1500, .inl fn0))] rfl ?_
              obtain ⟨z57, ez57⟩ : ∃ z_9, z3 + Int32.ofInt 1 = z_9 := ⟨_, rfl⟩
              have tz57 : (Int32.toInt z57) = (Int32.toInt z3) + 1 := by rw [← ez57]; exact fb_addIv (a := 0) (b := 1500) (c := 1) (d := 1) ⟨i12a, i12b⟩ ⟨by decide, by decide⟩ (by decide) (by decide)
              refine r_iinc 126 3 z57 C dX12_programs_126 rfl ez57 [(2, .int z57), (5, .int z47), (4, .int z43), (3, .int z29), (0, .ref h0), (1, .int 2)] (by decide) rfl ?_
              have hq58 : OFF fn0 (Int64.toInt y1) (Int32.toInt x11) (Int32.toInt z57) = OFF fn0 (Int64.toInt y1) (Int32.toInt x11) ((Int32.toInt z3) + 1) := by rw [show (Int32.toInt z57) = (Int32.toInt z3) + 1 from by omega]
              refine r_goto 129 12 C dX12_programs_129 (by decide) ?_
              refine r_lv [(2, .int z57), (0, .ref h0), (1, .int 2)] [0, 4, 5] rfl ?_
              refine r_pick [(h0, .inr (11, [.ref h1, .int x0, .ref h6, .int x1, .int x2, .int x3, .ref h7, .ref h8, .ref h9, .ref h10, .int x4, .int x5, .int x6, .ref h2, .ref h3, .ref h4, .ref h5, .int z56, .int x8, .int x9, .long y0, .int x10, .int x11, .long y1, .long y2, .ref h11, .ref h12, .ref h13, .ref h14, .long y3, .int x12, .ref h15, .int x13, .int x14, .int x15, .int x16, .ref h16, .ref h17, .ref h18, .ref h19, .ref h20, .ref h21, .ref h22, .ref h23, .ref h24, .ref h25, .ref h26, .int x17, .int x18, .int x19, .int x20, .int x21, .int x22, .int x23, .long y4, .int x24, .ref h27, .ref h28, .long y5, .long y6, .int x25, .ref h29, .int x26, .ref h30, .ref h31, .ref h32, .ref h33, .int x27, .int x28, .int x29, .int x30, .ref h34, .ref h35, .int x31, .int x32, .ref h36])), (h1, .inl (gB g, 1500, .inl fn0)), (h2, .inl (gI g, 3, .inl f2)), (h3, .inl (gI g, 4800, .inl f45)), (h4, .inl (gI g, 4800, .inl f46)), (h5, .inl (gB g, 6000, .inl f48))] [4, 5, 0, 1, 2, 3] (by decide) rfl ?_
              exact ih10 z57 z56 f45 f46 f48 ⟨by omega, by omega⟩ ⟨by omega, by omega⟩ ci_f45 ci_f46 (by show (Int32.toInt z57) ≤ (Int32.toInt x10) ∧ (((Int32.toInt x10) = 0 ∧ (Int32.toInt z56) = (Int32.toInt x7)) ∨ (1 ≤ (Int32.toInt x10) ∧ (Int32.toInt z56) = (Int32.toInt x7) + OFF fn0 (Int64.toInt y1) (Int32.toInt x11) (Int32.toInt z57) - 1)); omega) (by omega)
            · skip
              have k59 : ¬ ((Int32.toInt z43) ≤ (Int32.toInt z47)) := fun h_9 => c54 ((fa_le z43 z47).mpr h_9)
              refine r_aload_n 88 4 C dX12_programs_88 rfl ?_
              refine r_get 89 C dX12_programs_89 (k := 16) 4 rfl rfl hiX12 (by decide) rfl (mg 7 rfl) (Or.inl rfl) rfl ?_
              refine r_aload_n 92 4 C dX12_programs_92 rfl ?_
              refine r_get 93 C dX12_programs_93 (k := 17) 4 rfl rfl hiX12 (by decide) rfl (mg 5 rfl) (Or.inl rfl) rfl ?_
              refine r_iload 96 0 C dX12_programs_96 rfl ?_
              obtain ⟨z60, ez60⟩ : ∃ z_9, z4 + z47 = z_9 := ⟨_, rfl⟩
              have tz60 : (Int32.toInt z60) = (Int32.toInt z4) + (Int32.toInt z47) := by rw [← ez60]; exact fb_addIv (a := 0) (b := 4500) (c := 0) (d := 1499) ⟨i13a, i13b⟩ ⟨i53a, i53b⟩ (by decide) (by decide)
              refine r_iadd 98 z60 C dX12_programs_98 ez60 ?_
              refine r_aload_n 99 4 C dX12_programs_99 rfl ?_
              refine r_get 100 C dX12_programs_100 (k := 0) 4 rfl rfl hiX12 (by decide) rfl (mg 8 rfl) (Or.inl rfl) rfl ?_
              refine r_iload_n 103 2 C dX12_programs_103 rfl ?_
              refine r_iload 104 0 C dX12_programs_104 rfl ?_
              obtain ⟨z61, ez61⟩ : ∃ z_9, z29 + z47 = z_9 := ⟨_, rfl⟩
              have tz61 : (Int32.toInt z61) = (Int32.toInt z29) + (Int32.toInt z47) := by rw [← ez61]; exact fb_addI (by show -2147483648 ≤ (Int32.toInt z29) + (Int32.toInt z47); omega) (by show (Int32.toInt z29) + (Int32.toInt z47) < 2147483648; omega)
              refine r_iadd 106 z61 C dX12_programs_106 ez61 ?_
              obtain ⟨z62, ez62⟩ : ∃ z_9, fn0 (Int32.toNatClampNeg z61) = z_9 := ⟨_, rfl⟩
              refine r_bald 107 z62 C dX12_programs_107 5 rfl (vinI (by omega) (by omega)) ez62 ?_
              have gz62 := fb_rng z62
              obtain ⟨f63, ef63⟩ : ∃ f_9, upd f48 (Int32.toNatClampNeg z60) (vp_nar .byte z62) = f_9 := ⟨_, rfl⟩
              refine r_bast 108 C dX12_programs_108 3 rfl (vinI (by omega) (by omega)) f63 ef63 [(h2, .inl (gI g, 3, .inl f2)), (h3, .inl (gI g, 4800, .inl f45)), (h4, .inl (gI g, 4800, .inl f46)), (h5, .inl (gB g, 6000, .inl f63)), (h0, .inr (11, [.ref h1, .int x0, .ref h6, .int x1, .int x2, .int x3, .ref h7, .ref h8, .ref h9, .ref h10, .int x4, .int x5, .int x6, .ref h2, .ref h3, .ref h4, .ref h5, .int z4, .int x8, .int x9, .long y0, .int x10, .int x11, .long y1, .long y2, .ref h11, .ref h12, .ref h13, .ref h14, .long y3, .int x12, .ref h15, .int x13, .int x14, .int x15, .int x16, .ref h16, .ref h17, .ref h18, .ref h19, .ref h20, .ref h21, .ref h22, .ref h23, .ref h24, .ref h25, .ref h26, .int x17, .int x18, .int x19, .int x20, .int x21, .int x22, .int x23, .long y4, .int x24, .ref h27, .ref h28, .long y5, .long y6, .int x25, .ref h29, .int x26, .ref h30, .ref h31, .ref h32, .ref h33, .int x27, .int x28, .int x29, .int x30, .ref h34, .ref h35, .int x31, .int x32, .ref h36])), (h1, .inl (gB g, 1500, .inl fn0))] rfl ?_
              obtain ⟨z64, ez64⟩ : ∃ z_9, z47 + Int32.ofInt 1 = z_9 := ⟨_, rfl⟩
              have tz64 : (Int32.toInt z64) = (Int32.toInt z47) + 1 := by rw [← ez64]; exact fb_addIv (a := 0) (b := 1499) (c := 1) (d := 1) ⟨i53a, i53b⟩ ⟨by decide, by decide⟩ (by decide) (by decide)
              refine r_iinc 109 0 z64 C dX12_programs_109 rfl ez64 [(5, .int z64), (4, .int z43), (3, .int z29), (2, .int z3), (0, .ref h0), (1, .int 2)] (by decide) rfl ?_
              refine r_goto 112 81 C dX12_programs_112 (by decide) ?_
              exact ih51 z64 f63 ⟨by omega, by omega⟩ (by omega)
        exact lp50 _ 0 f7 (by decide) (Nat.lt_succ_self _)
  exact lp9 _ 0 x7 fn2 fn3 fn4 (by decide) (iv_wide (c := 0) (d := 4500) i_x7 (by decide) (by decide)) ci_fn2 ci_fn3 (by show (0 : Int) ≤ (Int32.toInt x10) ∧ (((Int32.toInt x10) = 0 ∧ (Int32.toInt x7) = (Int32.toInt x7)) ∨ (1 ≤ (Int32.toInt x10) ∧ (Int32.toInt x7) = (Int32.toInt x7) + OFF fn0 (Int64.toInt y1) (Int32.toInt x11) (0 : Int) - 1)); omega) (Nat.lt_succ_self _)
set_option maxHeartbeats 4000000 in
set_option maxRecDepth 100000 in
theorem c50_X12_dictByte (l : Launch) (g : GD) (h0 : Nat) (h1 : Nat) (x0 : Int32) (h2 : Nat) (x1 : Int32) (x2 : Int32) (x3 : Int32) (h3 : Nat) (h4 : Nat) (h5 : Nat) (h6 : Nat) (x4 : Int32) (x5 : Int32) (x6 : Int32) (h7 : Nat) (h8 : Nat) (h9 : Nat) (h10 : Nat) (x7 : Int32) (x8 : Int32) (x9 : Int32) (y0 : Int64) (x10 : Int32) (x11 : Int32) (y1 : Int64) (y2 : Int64) (h11 : Nat) (h12 : Nat) (h13 : Nat) (h14 : Nat) (y3 : Int64) (x12 : Int32) (h15 : Nat) (x13 : Int32) (x14 : Int32) (x15 : Int32) (x16 : Int32) (h16 : Nat) (h17 : Nat) (h18 : Nat) (h19 : Nat) (h20 : Nat) (h21 : Nat) (h22 : Nat) (h23 : Nat) (h24 : Nat) (h25 : Nat) (h26 : Nat) (x17 : Int32) (x18 : Int32) (x19 : Int32) (x20 : Int32) (x21 : Int32) (x22 : Int32) (x23 : Int32) (y4 : Int64) (x24 : Int32) (h27 : Nat) (h28 : Nat) (y5 : Int64) (y6 : Int64) (x25 : Int32) (h29 : Nat) (x26 : Int32) (h30 : Nat) (h31 : Nat) (h32 : Nat) (h33 : Nat) (x27 : Int32) (x28 : Int32) (x29 : Int32) (x30 : Int32) (h34 : Nat) (h35 : Nat) (x31 : Int32) (x32 : Int32) (h36 : Nat) (fn0 : Nat → Int32) (i_x0 : (0 ≤ (Int32.toInt x0) ∧ (Int32.toInt x0) ≤ 1500)) (i_x1 : (0 ≤ (Int32.toInt x1) ∧ (Int32.toInt x1) ≤ 1508)) (i_x3 : (-1 ≤ (Int32.toInt x3) ∧ (Int32.toInt x3) ≤ 1)) (i_x6 : (0 ≤ (Int32.toInt x6) ∧ (Int32.toInt x6) ≤ 3)) (i_x7 : (0 ≤ (Int32.toInt x7) ∧ (Int32.toInt x7) ≤ 4500)) (i_y0 : (0 ≤ (Int64.toInt y0) ∧ (Int64.toInt y0) ≤ 1500)) (i_x10 : (0 ≤ (Int32.toInt x10) ∧ (Int32.toInt x10) ≤ 65535)) (i_x11 : (0 ≤ (Int32.toInt x11) ∧ (Int32.toInt x11) ≤ 255)) (i_y1 : (0 ≤ (Int64.toInt y1) ∧ (Int64.toInt y1) ≤ 1500)) (i_y2 : (0 ≤ (Int64.toInt y2) ∧ (Int64.toInt y2) ≤ 1500)) (i_y3 : (0 ≤ (Int64.toInt y3) ∧ (Int64.toInt y3) ≤ 1500)) (i_x12 : (0 ≤ (Int32.toInt x12) ∧ (Int32.toInt x12) ≤ 1)) (i_x13 : (0 ≤ (Int32.toInt x13) ∧ (Int32.toInt x13) ≤ 1500)) (i_x14 : (0 ≤ (Int32.toInt x14) ∧ (Int32.toInt x14) ≤ 1501)) (i_x15 : (0 ≤ (Int32.toInt x15) ∧ (Int32.toInt x15) ≤ 1500)) (i_x16 : (0 ≤ (Int32.toInt x16) ∧ (Int32.toInt x16) ≤ 1500)) (i_x18 : (0 ≤ (Int32.toInt x18) ∧ (Int32.toInt x18) ≤ 1)) (i_x19 : (0 ≤ (Int32.toInt x19) ∧ (Int32.toInt x19) ≤ 9)) (i_x20 : (0 ≤ (Int32.toInt x20) ∧ (Int32.toInt x20) ≤ 400)) (i_x21 : (0 ≤ (Int32.toInt x21) ∧ (Int32.toInt x21) ≤ 400)) (i_x22 : (0 ≤ (Int32.toInt x22) ∧ (Int32.toInt x22) ≤ 3000)) (i_x24 : (0 ≤ (Int32.toInt x24) ∧ (Int32.toInt x24) ≤ 1)) (i_x25 : (0 ≤ (Int32.toInt x25) ∧ (Int32.toInt x25) ≤ 1)) (i_x26 : (0 ≤ (Int32.toInt x26) ∧ (Int32.toInt x26) ≤ 48)) (i_x27 : (0 ≤ (Int32.toInt x27) ∧ (Int32.toInt x27) ≤ 10)) (i_x28 : (0 ≤ (Int32.toInt x28) ∧ (Int32.toInt x28) ≤ 1)) (i_x29 : (0 ≤ (Int32.toInt x29) ∧ (Int32.toInt x29) ≤ 1)) (i_x30 : (0 ≤ (Int32.toInt x30) ∧ (Int32.toInt x30) ≤ 7)) (i_x31 : (0 ≤ (Int32.toInt x31) ∧ (Int32.toInt x31) ≤ 24)) (i_x32 : (0 ≤ (Int32.toInt x32) ∧ (Int32.toInt x32) ≤ 1)) (sz : Nat) : Met l yX12_dictByte wsX12_dictByte ({ frames := 1, cells := 0, slots := 0, locals := 21 }) (va_Pc [.ref h0] (PW g [(h0, .inr (11, [.ref h1, .int x0, .ref h2, .int x1, .int x2, .int x3, .ref h3, .ref h4, .ref h5, .ref h6, .int x4, .int x5, .int x6, .ref h7, .ref h8, .ref h9, .ref h10, .int x7, .int x8, .int x9, .long y0, .int x10, .int x11, .long y1, .long y2, .ref h11, .ref h12, .ref h13, .ref h14, .long y3, .int x12, .ref h15, .int x13, .int x14, .int x15, .int x16, .ref h16, .ref h17, .ref h18, .ref h19, .ref h20, .ref h21, .ref h22, .ref h23, .ref h24, .ref h25, .ref h26, .int x17, .int x18, .int x19, .int x20, .int x21, .int x22, .int x23, .long y4, .int x24, .ref h27, .ref h28, .long y5, .long y6, .int x25, .ref h29, .int x26, .ref h30, .ref h31, .ref h32, .ref h33, .int x27, .int x28, .int x29, .int x30, .ref h34, .ref h35, .int x31, .int x32, .ref h36])), (h1, .inl (gB g, 1500, .inl fn0))] sz)) (va_Qi (fun (r : Int32) (u : (Int32) × (Int64)) => 0 ≤ (Int32.toInt r) ∧ (Int32.toInt r) ≤ 255 ∧ 0 ≤ (Int32.toInt (u.1)) ∧ (Int32.toInt (u.1)) ≤ 3 ∧ 0 ≤ (Int64.toInt (u.2)) ∧ (Int64.toInt (u.2)) ≤ 1500 ∧ ((1 ≤ (Int32.toInt (u.1)) ∧ (Int64.toInt (u.2)) = (Int64.toInt y0)) ∨ ((Int32.toInt x6) = 0 ∧ (Int32.toInt (u.1)) = 0 ∧ (Int64.toInt (u.2)) = (Int64.toInt y0) + 1 ∧ (Int64.toInt y0) < (Int64.toInt y3)))) (BW g (va_A [(h0, .inr (11, [.ref h1, .int x0, .ref h2, .int x1, .int x2, .int x3, .ref h3, .ref h4, .ref h5, .ref h6, .int x4, .int x5, .int x6, .ref h7, .ref h8, .ref h9, .ref h10, .int x7, .int x8, .int x9, .long y0, .int x10, .int x11, .long y1, .long y2, .ref h11, .ref h12, .ref h13, .ref h14, .long y3, .int x12, .ref h15, .int x13, .int x14, .int x15, .int x16, .ref h16, .ref h17, .ref h18, .ref h19, .ref h20, .ref h21, .ref h22, .ref h23, .ref h24, .ref h25, .ref h26, .int x17, .int x18, .int x19, .int x20, .int x21, .int x22, .int x23, .long y4, .int x24, .ref h27, .ref h28, .long y5, .long y6, .int x25, .ref h29, .int x26, .ref h30, .ref h31, .ref h32, .ref h33, .int x27, .int x28, .int x29, .int x30, .ref h34, .ref h35, .int x31, .int x32, .ref h36])), (h1, .inl (gB g, 1500, .inl fn0))] sz) (fun u : (Int32) × (Int64) => [(h0, .inr (11, [.ref h1, .int x0, .ref h2, .int x1, .int x2, .int x3, .ref h3, .ref h4, .ref h5, .ref h6, .int x4, .int x5, .int u.1, .ref h7, .ref h8, .ref h9, .ref h10, .int x7, .int x8, .int x9, .long u.2, .int x10, .int x11, .long y1, .long y2, .ref h11, .ref h12, .ref h13, .ref h14, .long y3, .int x12, .ref h15, .int x13, .int x14, .int x15, .int x16, .ref h16, .ref h17, .ref h18, .ref h19, .ref h20, .ref h21, .ref h22, .ref h23, .ref h24, .ref h25, .ref h26, .int x17, .int x18, .int x19, .int x20, .int x21, .int x22, .int x23, .long y4, .int x24, .ref h27, .ref h28, .long y5, .long y6, .int x25, .ref h29, .int x26, .ref h30, .ref h31, .ref h32, .ref h33, .int x27, .int x28, .int x29, .int x30, .ref h34, .ref h35, .int x31, .int x32, .ref h36])), (h1, .inl (gB g, 1500, .inl fn0))])) (va_A [(h0, .inr (11, [.ref h1, .int x0, .ref h2, .int x1, .int x2, .int x3, .ref h3, .ref h4, .ref h5, .ref h6, .int x4, .int x5, .int x6, .ref h7, .ref h8, .ref h9, .ref h10, .int x7, .int x8, .int x9, .long y0, .int x10, .int x11, .long y1, .long y2, .ref h11, .ref h12, .ref h13, .ref h14, .long y3, .int x12, .ref h15, .int x13, .int x14, .int x15, .int x16, .ref h16, .ref h17, .ref h18, .ref h19, .ref h20, .ref h21, .ref h22, .ref h23, .ref h24, .ref h25, .ref h26, .int x17, .int x18, .int x19, .int x20, .int x21, .int x22, .int x23, .long y4, .int x24, .ref h27, .ref h28, .long y5, .long y6, .int x25, .ref h29, .int x26, .ref h30, .ref h31, .ref h32, .ref h33, .int x27, .int x28, .int x29, .int x30, .ref h34, .ref h35, .int x31, .int x32, .ref h36])), (h1, .inl (gB g, 1500, .inl fn0))] sz)) 0 0 (va_A [(h0, .inr (11, [.ref h1, .int x0, .ref h2, .int x1, .int x2, .int x3, .ref h3, .ref h4, .ref h5, .ref h6, .int x4, .int x5, .int x6, .ref h7, .ref h8, .ref h9, .ref h10, .int x7, .int x8, .int x9, .long y0, .int x10, .int x11, .long y1, .long y2, .ref h11, .ref h12, .ref h13, .ref h14, .long y3, .int x12, .ref h15, .int x13, .int x14, .int x15, .int x16, .ref h16, .ref h17, .ref h18, .ref h19, .ref h20, .ref h21, .ref h22, .ref h23, .ref h24, .ref h25, .ref h26, .int x17, .int x18, .int x19, .int x20, .int x21, .int x22, .int x23, .long y4, .int x24, .ref h27, .ref h28, .long y5, .long y6, .int x25, .ref h29, .int x26, .ref h30, .ref h31, .ref h32, .ref h33, .int x27, .int x28, .int x29, .int x30, .ref h34, .ref h35, .int x31, .int x32, .ref h36])), (h1, .inl (gB g, 1500, .inl fn0))] sz) := by
  refine met_i RX12 (by decide) rfl rfl (Nat.le_of_ble_eq_true rfl) [(0, .ref h0)] rfl ?_
  intro p e s m args below meth c A Q C hnm Rt
  have hiX12 : ∀ w ∈ wsX120, w ∈ wsX12_dictByte := fun w h => List.mem_cons_of_mem _ (List.mem_append_right _ (h))
  refine r_aload_n 0 0 C dX12_dictByte_0 rfl ?_
  refine r_get 1 C dX12_dictByte_1 (k := 12) 0 rfl rfl hiX12 (by decide) rfl (mg 1 rfl) (Or.inl rfl) rfl ?_
  refine r_if_le 4 9 C dX12_dictByte_4 (by decide) (fun c1 => ?_) (fun c1 => ?_)
  · skip
    have k2 : (Int32.toInt x6) ≤ 0 := (fa_le x6 0).mp c1
    refine r_aload_n 9 0 C dX12_dictByte_9 rfl ?_
    refine r_get 10 C dX12_dictByte_10 (k := 20) 0 rfl rfl hiX12 (by decide) rfl (mg 2 rfl) (Or.inl rfl) rfl ?_
    refine r_aload_n 13 0 C dX12_dictByte_13 rfl ?_
    refine r_get 14 C dX12_dictByte_14 (k := 29) 0 rfl rfl hiX12 (by decide) rfl (mg 3 rfl) (Or.inl rfl) rfl ?_
    obtain ⟨z3, ez3⟩ : ∃ z_9, lg_cmp y0 y3 = z_9 := ⟨_, rfl⟩
    have l1z3 : (Int32.toInt z3) < 0 ↔ (Int64.toInt y0) < (Int64.toInt y3) := by rw [← ez3]; exact lgI1 y0 y3
    have l2z3 : 0 < (Int32.toInt z3) ↔ (Int64.toInt y3) < (Int64.toInt y0) := by rw [← ez3]; exact lgI2 y0 y3
    refine r_lcmp 17 z3 C dX12_dictByte_17 ez3 ?_
    refine r_if_lt 18 29 C dX12_dictByte_18 (by decide) (fun c4 => ?_) (fun c4 => ?_)
    · skip
      have k5 : (Int32.toInt z3) < 0 := (fa_lt z3 0).mp c4
      refine r_aload_n 29 0 C dX12_dictByte_29 rfl ?_
      refine r_dup 30 C dX12_dictByte_30 rfl ?_
      refine r_get 31 C dX12_dictByte_31 (k := 20) 0 rfl rfl hiX12 (by decide) rfl (mg 2 rfl) (Or.inl rfl) rfl ?_
      refine r_lconst 34 1 C dX12_dictByte_34 (by decide) ?_
      obtain ⟨z6, ez6⟩ : ∃ z_9, y0 + 1 = z_9 := ⟨_, rfl⟩
      have tz6 : (Int64.toInt z6) = (Int64.toInt y0) + 1 := by rw [← ez6]; exact fb_addLv (a := 0) (b := 1500) (c := 1) (d := 1) i_y0 ⟨by decide, by decide⟩ (by decide) (by decide)
      refine r_ladd 35 z6 C dX12_dictByte_35 ez6 ?_
      refine r_put 36 C dX12_dictByte_36 (k := 20) 0 rfl rfl hiX12 tyX12 tyX12_ok nmX12 (by decide) rfl (mg 2 rfl) (Or.inl rfl) rfl rfl rfl rfl (Nat.le_of_ble_eq_true rfl) [(h0, .inr (11, [.ref h1, .int x0, .ref h2, .int x1, .int x2, .int x3, .ref h3, .ref h4, .ref h5, .ref h6, .int x4, .int x5, .int x6, .ref h7, .ref h8, .ref h9, .ref h10, .int x7, .int x8, .int x9, .long z6, .int x10, .int x11, .long y1, .long y2, .ref h11, .ref h12, .ref h13, .ref h14, .long y3, .int x12, .ref h15, .int x13, .int x14, .int x15, .int x16, .ref h16, .ref h17, .ref h18, .ref h19, .ref h20, .ref h21, .ref h22, .ref h23, .ref h24, .ref h25, .ref h26, .int x17, .int x18, .int x19, .int x20, .int x21, .int x22, .int x23, .long y4, .int x24, .ref h27, .ref h28, .long y5, .long y6, .int x25, .ref h29, .int x26, .ref h30, .ref h31, .ref h32, .ref h33, .int x27, .int x28, .int x29, .int x30, .ref h34, .ref h35, .int x31, .int x32, .ref h36])), (h1, .inl (gB g, 1500, .inl fn0))] rfl ?_
      refine r_aload_n 39 0 C dX12_dictByte_39 rfl ?_
      refine r_get 40 C dX12_dictByte_40 (k := 0) 0 rfl rfl hiX12 (by decide) rfl (mg 4 rfl) (Or.inl rfl) rfl ?_
      refine r_aload_n 43 0 C dX12_dictByte_43 rfl ?_
      refine r_get 44 C dX12_dictByte_44 (k := 20) 0 rfl rfl hiX12 (by decide) rfl (mg 2 rfl) (Or.inl rfl) rfl ?_
      obtain ⟨z7, ez7⟩ : ∃ z_9, Int64.toInt32 z6 = z_9 := ⟨_, rfl⟩
      have tz7 : (Int32.toInt z7) = (Int64.toInt z6) := by rw [← ez7]; exact l2i_in (by omega) (by omega)
      refine r_l2i 47 z7 C dX12_dictByte_47 ez7 ?_
      refine r_iconst 48 1 C dX12_dictByte_48 (by decide) ?_
      obtain ⟨z8, ez8⟩ : ∃ z_9, z7 - 1 = z_9 := ⟨_, rfl⟩
      have tz8 : (Int32.toInt z8) = (Int32.toInt z7) - 1 := by rw [← ez8]; exact fb_subIv (a := 1) (b := 1501) (c := 1) (d := 1) (iv_eq (iv_add (a := 0) (b := 1500) (c := 1) (d := 1) i_y0 ⟨by decide, by decide⟩ tz6) tz7) ⟨by decide, by decide⟩ (by decide) (by decide)
      refine r_isub 49 z8 C dX12_dictByte_49 ez8 ?_
      obtain ⟨z9, ez9⟩ : ∃ z_9, fn0 (Int32.toNatClampNeg z8) = z_9 := ⟨_, rfl⟩
      refine r_bald 50 z9 C dX12_dictByte_50 1 rfl (vinI (by omega) (by omega)) ez9 ?_
      have gz9 := fb_rng z9
      refine r_sipush 51 255 C dX12_dictByte_51 (by decide) ?_
      obtain ⟨z10, ez10⟩ : ∃ z_9, z9 &&& 255 = z_9 := ⟨_, rfl⟩
      have tz10 : 0 ≤ (Int32.toInt z10) ∧ (Int32.toInt z10) ≤ 255 := by rw [← ez10]; exact and_255 z9
      refine r_iand 54 z10 C dX12_dictByte_54 ez10 ?_
      exact r_iret 55 Rt dX12_dictByte_55 (x6, z6) (show 0 ≤ (Int32.toInt z10) ∧ (Int32.toInt z10) ≤ 255 ∧ 0 ≤ (Int32.toInt x6) ∧ (Int32.toInt x6) ≤ 3 ∧ 0 ≤ (Int64.toInt z6) ∧ (Int64.toInt z6) ≤ 1500 ∧ ((1 ≤ (Int32.toInt x6) ∧ (Int64.toInt z6) = (Int64.toInt y0)) ∨ ((Int32.toInt x6) = 0 ∧ (Int32.toInt x6) = 0 ∧ (Int64.toInt z6) = (Int64.toInt y0) + 1 ∧ (Int64.toInt y0) < (Int64.toInt y3))) from ⟨tz10.1, tz10.2, i_x6.1, i_x6.2, (by first | omega | ((repeat' apply And.intro) <;> first | trivial | rfl | assumption | omega | decide | exact Or.inl rfl | exact Or.inr (Or.inl rfl) | exact Or.inr (Or.inr rfl) | exact Or.inr (Or.inr (by assumption)))), (by first | omega | ((repeat' apply And.intro) <;> first | trivial | rfl | assumption | omega | decide | exact Or.inl rfl | exact Or.inr (Or.inl rfl) | exact Or.inr (Or.inr rfl) | exact Or.inr (Or.inr (by assumption)))), (by first | omega | ((repeat' apply And.intro) <;> first | trivial | rfl | assumption | omega | decide | exact Or.inl rfl | exact Or.inr (Or.inl rfl) | exact Or.inr (Or.inr rfl) | exact Or.inr (Or.inr (by assumption))))⟩) [0, 1] (by decide) rfl (Nat.le_of_ble_eq_true rfl) (Nat.le_of_ble_eq_true rfl)
    · skip
      have k11 : ¬ ((Int32.toInt z3) < 0) := fun h_9 => c4 ((fa_lt z3 0).mpr h_9)
      refine r_aload_n 21 0 C dX12_dictByte_21 rfl ?_
      refine r_iconst 22 2 C dX12_dictByte_22 (by decide) ?_
      refine r_callVi 23 C dX12_dictByte_23 [] [(h0, .inr (11, [.ref h1, .int x0, .ref h2, .int x1, .int x2, .int x3, .ref h3, .ref h4, .ref h5, .ref h6, .int x4, .int x5, .int x6, .ref h7, .ref h8, .ref h9, .ref h10, .int x7, .int x8, .int x9, .long y0, .int x10, .int x11, .long y1, .long y2, .ref h11, .ref h12, .ref h13, .ref h14, .long y3, .int x12, .ref h15, .int x13, .int x14, .int x15, .int x16, .ref h16, .ref h17, .ref h18, .ref h19, .ref h20, .ref h21, .ref h22, .ref h23, .ref h24, .ref h25, .ref h26, .int x17, .int x18, .int x19, .int x20, .int x21, .int x22, .int x23, .long y4, .int x24, .ref h27, .ref h28, .long y5, .long y6, .int x25, .ref h29, .int x26, .ref h30, .ref h31, .ref h32, .ref h33, .int x27, .int x28, .int x29, .int x30, .ref h34, .ref h35, .int x31, .int x32, .ref h36]))] [(h1, .inl (gB g, 1500, .inl fn0))] (fun sz => c17_X12_fails l g h0 2 h1 x0 h2 x1 x2 x3 h3 h4 h5 h6 x4 x5 x6 h7 h8 h9 h10 x7 x8 x9 y0 x10 x11 y1 y2 h11 h12 h13 h14 y3 x12 h15 x13 x14 x15 x16 h16 h17 h18 h19 h20 h21 h22 h23 h24 h25 h26 x17 x18 x19 x20 x21 x22 x23 y4 x24 h27 h28 y5 y6 x25 h29 x26 h30 h31 h32 h33 x27 x28 x29 x30 h34 h35 x31 x32 h36 (by decide) i_x0 i_x1 i_x3 i_x6 i_x7 i_x10 i_x11 i_y1 i_y2 i_x12 i_x13 i_x14 i_x15 i_x16 i_x18 i_x19 i_x20 i_x21 i_x22 i_x24 i_x25 i_x26 i_x27 i_x28 i_x29 i_x30 i_x31 i_x32 sz) gX12_dictByte_X12_fails rfl ⟨rfl, rfl⟩ 1 (by decide) ⟨Nat.le_of_ble_eq_true rfl, Nat.le_of_ble_eq_true rfl⟩ 0 rfl rfl [0] [1] rfl rfl (by decide) (by decide) (by decide) rfl rfl (Nat.le_of_ble_eq_true rfl) ⟨Nat.le_of_ble_eq_true rfl, Nat.le_of_ble_eq_true rfl⟩ (fun r13 z12 w14 => ?_)
      refine r_ws [(h1, .inl (gB g, 1500, .inl fn0)), (h0, .inr (11, [.ref h1, .int x0, .ref h2, .int x1, .int x2, .int x3, .ref h3, .ref h4, .ref h5, .ref h6, .int x4, .int x5, .int z12, .ref h7, .ref h8, .ref h9, .ref h10, .int x7, .int x8, .int x9, .long y0, .int x10, .int x11, .long y1, .long y2, .ref h11, .ref h12, .ref h13, .ref h14, .long y3, .int x12, .ref h15, .int x13, .int x14, .int x15, .int x16, .ref h16, .ref h17, .ref h18, .ref h19, .ref h20, .ref h21, .ref h22, .ref h23, .ref h24, .ref h25, .ref h26, .int x17, .int x18, .int x19, .int x20, .int x21, .int x22, .int x23, .long y4, .int x24, .ref h27, .ref h28, .long y5, .long y6, .int x25, .ref h29, .int x26, .ref h30, .ref h31, .ref h32, .ref h33, .int x27, .int x28, .int x29, .int x30, .ref h34, .ref h35, .int x31, .int x32, .ref h36]))] rfl ?_
      have p15 : 0 = r13 := (w14.1).symm
      subst p15
      have p16 : 0 ≤ (Int32.toInt z12) := w14.2.1
      have p17 : (Int32.toInt z12) ≤ 3 := w14.2.2.1
      have p18 : (1 ≤ (Int32.toInt z12)) := w14.2.2.2
      refine r_istore_n 26 C dX12_dictByte_26 [(1, .int 0), (0, .ref h0)] (by decide) rfl ?_
      refine r_iconst 27 0 C dX12_dictByte_27 (by decide) ?_
      exact r_iret 28 Rt dX12_dictByte_28 (z12, y0) (show 0 ≤ (Int32.toInt 0) ∧ (Int32.toInt 0) ≤ 255 ∧ 0 ≤ (Int32.toInt z12) ∧ (Int32.toInt z12) ≤ 3 ∧ 0 ≤ (Int64.toInt y0) ∧ (Int64.toInt y0) ≤ 1500 ∧ ((1 ≤ (Int32.toInt z12) ∧ (Int64.toInt y0) = (Int64.toInt y0)) ∨ ((Int32.toInt x6) = 0 ∧ (Int32.toInt z12) = 0 ∧ (Int64.toInt y0) = (Int64.toInt y0) + 1 ∧ (Int64.toInt y0) < (Int64.toInt y3))) from ⟨(by decide), (by decide), (show _ ∧ _ from ⟨p16, p17⟩).1, (show _ ∧ _ from ⟨p16, p17⟩).2, i_y0.1, i_y0.2, (by first | omega | ((repeat' apply And.intro) <;> first | trivial | rfl | assumption | omega | decide | exact Or.inl rfl | exact Or.inr (Or.inl rfl) | exact Or.inr (Or.inr rfl) | exact Or.inr (Or.inr (by assumption))))⟩) [1, 0] (by decide) rfl (Nat.le_of_ble_eq_true rfl) (Nat.le_of_ble_eq_true rfl)
  · skip
    have k19 : ¬ ((Int32.toInt x6) ≤ 0) := fun h_9 => c1 ((fa_le x6 0).mpr h_9)
    refine r_iconst 7 0 C dX12_dictByte_7 (by decide) ?_
    exact r_iret 8 Rt dX12_dictByte_8 (x6, y0) (show 0 ≤ (Int32.toInt 0) ∧ (Int32.toInt 0) ≤ 255 ∧ 0 ≤ (Int32.toInt x6) ∧ (Int32.toInt x6) ≤ 3 ∧ 0 ≤ (Int64.toInt y0) ∧ (Int64.toInt y0) ≤ 1500 ∧ ((1 ≤ (Int32.toInt x6) ∧ (Int64.toInt y0) = (Int64.toInt y0)) ∨ ((Int32.toInt x6) = 0 ∧ (Int32.toInt x6) = 0 ∧ (Int64.toInt y0) = (Int64.toInt y0) + 1 ∧ (Int64.toInt y0) < (Int64.toInt y3))) from ⟨(by decide), (by decide), i_x6.1, i_x6.2, i_y0.1, i_y0.2, (by first | omega | ((repeat' apply And.intro) <;> first | trivial | rfl | assumption | omega | decide | exact Or.inl rfl | exact Or.inr (Or.inl rfl) | exact Or.inr (Or.inr rfl) | exact Or.inr (Or.inr (by assumption))))⟩) [0, 1] (by decide) rfl (Nat.le_of_ble_eq_true rfl) (Nat.le_of_ble_eq_true rfl)
set_option maxHeartbeats 4000000 in
set_option maxRecDepth 100000 in
theorem c51_X12_operand (l : Launch) (g : GD) (h0 : Nat) (h1 : Nat) (x0 : Int32) (x1 : Int32) (h2 : Nat) (x2 : Int32) (x3 : Int32) (x4 : Int32) (h3 : Nat) (h4 : Nat) (h5 : Nat) (h6 : Nat) (x5 : Int32) (x6 : Int32) (x7 : Int32) (h7 : Nat) (h8 : Nat) (h9 : Nat) (h10 : Nat) (x8 : Int32) (x9 : Int32) (x10 : Int32) (y0 : Int64) (x11 : Int32) (x12 : Int32) (y1 : Int64) (y2 : Int64) (h11 : Nat) (h12 : Nat) (h13 : Nat) (h14 : Nat) (y3 : Int64) (x13 : Int32) (h15 : Nat) (x14 : Int32) (x15 : Int32) (x16 : Int32) (x17 : Int32) (h16 : Nat) (h17 : Nat) (h18 : Nat) (h19 : Nat) (h20 : Nat) (h21 : Nat) (h22 : Nat) (h23 : Nat) (h24 : Nat) (h25 : Nat) (h26 : Nat) (x18 : Int32) (x19 : Int32) (x20 : Int32) (x21 : Int32) (x22 : Int32) (x23 : Int32) (x24 : Int32) (y4 : Int64) (x25 : Int32) (h27 : Nat) (h28 : Nat) (y5 : Int64) (y6 : Int64) (x26 : Int32) (h29 : Nat) (x27 : Int32) (h30 : Nat) (h31 : Nat) (h32 : Nat) (h33 : Nat) (x28 : Int32) (x29 : Int32) (x30 : Int32) (x31 : Int32) (h34 : Nat) (h35 : Nat) (x32 : Int32) (x33 : Int32) (h36 : Nat) (fn0 : Nat → Int32) (i_x0 : (0 ≤ (Int32.toInt x0) ∧ (Int32.toInt x0) ≤ 255)) (i_x1 : (0 ≤ (Int32.toInt x1) ∧ (Int32.toInt x1) ≤ 1500)) (i_x2 : (0 ≤ (Int32.toInt x2) ∧ (Int32.toInt x2) ≤ 1508)) (i_x4 : (-1 ≤ (Int32.toInt x4) ∧ (Int32.toInt x4) ≤ 1)) (i_x7 : (0 ≤ (Int32.toInt x7) ∧ (Int32.toInt x7) ≤ 3)) (i_x8 : (0 ≤ (Int32.toInt x8) ∧ (Int32.toInt x8) ≤ 4500)) (i_y0 : (0 ≤ (Int64.toInt y0) ∧ (Int64.toInt y0) ≤ 1500)) (i_x11 : (0 ≤ (Int32.toInt x11) ∧ (Int32.toInt x11) ≤ 65535)) (i_x12 : (0 ≤ (Int32.toInt x12) ∧ (Int32.toInt x12) ≤ 255)) (i_y1 : (0 ≤ (Int64.toInt y1) ∧ (Int64.toInt y1) ≤ 1500)) (i_y2 : (0 ≤ (Int64.toInt y2) ∧ (Int64.toInt y2) ≤ 1500)) (i_y3 : (0 ≤ (Int64.toInt y3) ∧ (Int64.toInt y3) ≤ 1500)) (i_x13 : (0 ≤ (Int32.toInt x13) ∧ (Int32.toInt x13) ≤ 1)) (i_x14 : (0 ≤ (Int32.toInt x14) ∧ (Int32.toInt x14) ≤ 1500)) (i_x15 : (0 ≤ (Int32.toInt x15) ∧ (Int32.toInt x15) ≤ 1501)) (i_x16 : (0 ≤ (Int32.toInt x16) ∧ (Int32.toInt x16) ≤ 1500)) (i_x17 : (0 ≤ (Int32.toInt x17) ∧ (Int32.toInt x17) ≤ 1500)) (i_x19 : (0 ≤ (Int32.toInt x19) ∧ (Int32.toInt x19) ≤ 1)) (i_x20 : (0 ≤ (Int32.toInt x20) ∧ (Int32.toInt x20) ≤ 9)) (i_x21 : (0 ≤ (Int32.toInt x21) ∧ (Int32.toInt x21) ≤ 400)) (i_x22 : (0 ≤ (Int32.toInt x22) ∧ (Int32.toInt x22) ≤ 400)) (i_x23 : (0 ≤ (Int32.toInt x23) ∧ (Int32.toInt x23) ≤ 3000)) (i_x25 : (0 ≤ (Int32.toInt x25) ∧ (Int32.toInt x25) ≤ 1)) (i_x26 : (0 ≤ (Int32.toInt x26) ∧ (Int32.toInt x26) ≤ 1)) (i_x27 : (0 ≤ (Int32.toInt x27) ∧ (Int32.toInt x27) ≤ 48)) (i_x28 : (0 ≤ (Int32.toInt x28) ∧ (Int32.toInt x28) ≤ 10)) (i_x29 : (0 ≤ (Int32.toInt x29) ∧ (Int32.toInt x29) ≤ 1)) (i_x30 : (0 ≤ (Int32.toInt x30) ∧ (Int32.toInt x30) ≤ 1)) (i_x31 : (0 ≤ (Int32.toInt x31) ∧ (Int32.toInt x31) ≤ 7)) (i_x32 : (0 ≤ (Int32.toInt x32) ∧ (Int32.toInt x32) ≤ 24)) (i_x33 : (0 ≤ (Int32.toInt x33) ∧ (Int32.toInt x33) ≤ 1)) (sz : Nat) : Met l yX12_operand wsX12_operand ({ frames := 2, cells := 0, slots := 0, locals := 42 }) (va_Pc [.ref h0, .int x0] (PW g [(h0, .inr (11, [.ref h1, .int x1, .ref h2, .int x2, .int x3, .int x4, .ref h3, .ref h4, .ref h5, .ref h6, .int x5, .int x6, .int x7, .ref h7, .ref h8, .ref h9, .ref h10, .int x8, .int x9, .int x10, .long y0, .int x11, .int x12, .long y1, .long y2, .ref h11, .ref h12, .ref h13, .ref h14, .long y3, .int x13, .ref h15, .int x14, .int x15, .int x16, .int x17, .ref h16, .ref h17, .ref h18, .ref h19, .ref h20, .ref h21, .ref h22, .ref h23, .ref h24, .ref h25, .ref h26, .int x18, .int x19, .int x20, .int x21, .int x22, .int x23, .int x24, .long y4, .int x25, .ref h27, .ref h28, .long y5, .long y6, .int x26, .ref h29, .int x27, .ref h30, .ref h31, .ref h32, .ref h33, .int x28, .int x29, .int x30, .int x31, .ref h34, .ref h35, .int x32, .int x33, .ref h36])), (h1, .inl (gB g, 1500, .inl fn0))] sz)) (va_Ql (fun (r : Int64) (u : (Int32) × (Int64) × (Int32)) => -2147483648 ≤ (Int64.toInt r) ∧ (Int64.toInt r) ≤ 2147483647 ∧ 0 ≤ (Int32.toInt (u.1)) ∧ (Int32.toInt (u.1)) ≤ 3 ∧ 0 ≤ (Int64.toInt (u.2.1)) ∧ (Int64.toInt (u.2.1)) ≤ 1500 ∧ 0 ≤ (Int32.toInt (u.2.2)) ∧ (Int32.toInt (u.2.2)) ≤ 1 ∧ ((1 ≤ (Int32.toInt (u.1))) ∨ ((Int32.toInt x7) = 0 ∧ (Int32.toInt (u.1)) = 0 ∧ (Int64.toInt y0) ≤ (Int64.toInt (u.2.1))))) (BW g (va_A [(h0, .inr (11, [.ref h1, .int x1, .ref h2, .int x2, .int x3, .int x4, .ref h3, .ref h4, .ref h5, .ref h6, .int x5, .int x6, .int x7, .ref h7, .ref h8, .ref h9, .ref h10, .int x8, .int x9, .int x10, .long y0, .int x11, .int x12, .long y1, .long y2, .ref h11, .ref h12, .ref h13, .ref h14, .long y3, .int x13, .ref h15, .int x14, .int x15, .int x16, .int x17, .ref h16, .ref h17, .ref h18, .ref h19, .ref h20, .ref h21, .ref h22, .ref h23, .ref h24, .ref h25, .ref h26, .int x18, .int x19, .int x20, .int x21, .int x22, .int x23, .int x24, .long y4, .int x25, .ref h27, .ref h28, .long y5, .long y6, .int x26, .ref h29, .int x27, .ref h30, .ref h31, .ref h32, .ref h33, .int x28, .int x29, .int x30, .int x31, .ref h34, .ref h35, .int x32, .int x33, .ref h36])), (h1, .inl (gB g, 1500, .inl fn0))] sz) (fun u : (Int32) × (Int64) × (Int32) => [(h0, .inr (11, [.ref h1, .int x1, .ref h2, .int x2, .int x3, .int x4, .ref h3, .ref h4, .ref h5, .ref h6, .int x5, .int x6, .int u.1, .ref h7, .ref h8, .ref h9, .ref h10, .int x8, .int x9, .int x10, .long u.2.1, .int x11, .int x12, .long y1, .long y2, .ref h11, .ref h12, .ref h13, .ref h14, .long y3, .int u.2.2, .ref h15, .int x14, .int x15, .int x16, .int x17, .ref h16, .ref h17, .ref h18, .ref h19, .ref h20, .ref h21, .ref h22, .ref h23, .ref h24, .ref h25, .ref h26, .int x18, .int x19, .int x20, .int x21, .int x22, .int x23, .int x24, .long y4, .int x25, .ref h27, .ref h28, .long y5, .long y6, .int x26, .ref h29, .int x27, .ref h30, .ref h31, .ref h32, .ref h33, .int x28, .int x29, .int x30, .int x31, .ref h34, .ref h35, .int x32, .int x33, .ref h36])), (h1, .inl (gB g, 1500, .inl fn0))])) (va_A [(h0, .inr (11, [.ref h1, .int x1, .ref h2, .int x2, .int x3, .int x4, .ref h3, .ref h4, .ref h5, .ref h6, .int x5, .int x6, .int x7, .ref h7, .ref h8, .ref h9, .ref h10, .int x8, .int x9, .int x10, .long y0, .int x11, .int x12, .long y1, .long y2, .ref h11, .ref h12, .ref h13, .ref h14, .long y3, .int x13, .ref h15, .int x14, .int x15, .int x16, .int x17, .ref h16, .ref h17, .ref h18, .ref h19, .ref h20, .ref h21, .ref h22, .ref h23, .ref h24, .ref h25, .ref h26, .int x18, .int x19, .int x20, .int x21, .int x22, .int x23, .int x24, .long y4, .int x25, .ref h27, .ref h28, .long y5, .long y6, .int x26, .ref h29, .int x27, .ref h30, .ref h31, .ref h32, .ref h33, .int x28, .int x29, .int x30, .int x31, .ref h34, .ref h35, .int x32, .int x33, .ref h36])), (h1, .inl (gB g, 1500, .inl fn0))] sz)) 0 0 (va_A [(h0, .inr (11, [.ref h1, .int x1, .ref h2, .int x2, .int x3, .int x4, .ref h3, .ref h4, .ref h5, .ref h6, .int x5, .int x6, .int x7, .ref h7, .ref h8, .ref h9, .ref h10, .int x8, .int x9, .int x10, .long y0, .int x11, .int x12, .long y1, .long y2, .ref h11, .ref h12, .ref h13, .ref h14, .long y3, .int x13, .ref h15, .int x14, .int x15, .int x16, .int x17, .ref h16, .ref h17, .ref h18, .ref h19, .ref h20, .ref h21, .ref h22, .ref h23, .ref h24, .ref h25, .ref h26, .int x18, .int x19, .int x20, .int x21, .int x22, .int x23, .int x24, .long y4, .int x25, .ref h27, .ref h28, .long y5, .long y6, .int x26, .ref h29, .int x27, .ref h30, .ref h31, .ref h32, .ref h33, .int x28, .int x29, .int x30, .int x31, .ref h34, .ref h35, .int x32, .int x33, .ref h36])), (h1, .inl (gB g, 1500, .inl fn0))] sz) := by
  refine met_l RX12 (by decide) rfl rfl (Nat.le_of_ble_eq_true rfl) [(0, .ref h0), (1, .int x0)] rfl ?_
  intro p e s m args below meth c A Q C hnm Rt
  have hiX12 : ∀ w ∈ wsX120, w ∈ wsX12_operand := fun w h => List.mem_cons_of_mem _ (List.mem_append_right _ (h))
  refine r_aload_n 0 0 C dX12_operand_0 rfl ?_
  refine r_iload_n 1 1 C dX12_operand_1 rfl ?_
  refine r_bipush 2 30 C dX12_operand_2 (by decide) ?_
  refine r_icmp_ne 4 11 C dX12_operand_4 (by decide) (fun c1 => ?_) (fun c1 => ?_)
  · skip
    have k2 : ¬ ((Int32.toInt x0) = 30) := fun h_9 => c1 ((fa_eq x0 30).mpr h_9)
    refine r_iconst 11 0 C dX12_operand_11 (by decide) ?_
    refine r_put 12 C dX12_operand_12 (k := 30) 0 rfl rfl hiX12 tyX12 tyX12_ok nmX12 (by decide) rfl (mg 1 rfl) (Or.inl rfl) rfl rfl rfl rfl (Nat.le_of_ble_eq_true rfl) [(h0, .inr (11, [.ref h1, .int x1, .ref h2, .int x2, .int x3, .int x4, .ref h3, .ref h4, .ref h5, .ref h6, .int x5, .int x6, .int x7, .ref h7, .ref h8, .ref h9, .ref h10, .int x8, .int x9, .int x10, .long y0, .int x11, .int x12, .long y1, .long y2, .ref h11, .ref h12, .ref h13, .ref h14, .long y3, .int 0, .ref h15, .int x14, .int x15, .int x16, .int x17, .ref h16, .ref h17, .ref h18, .ref h19, .ref h20, .ref h21, .ref h22, .ref h23, .ref h24, .ref h25, .ref h26, .int x18, .int x19, .int x20, .int x21, .int x22, .int x23, .int x24, .long y4, .int x25, .ref h27, .ref h28, .long y5, .long y6, .int x26, .ref h29, .int x27, .ref h30, .ref h31, .ref h32, .ref h33, .int x28, .int x29, .int x30, .int x31, .ref h34, .ref h35, .int x32, .int x33, .ref h36])), (h1, .inl (gB g, 1500, .inl fn0))] rfl ?_
    refine r_iload_n 15 1 C dX12_operand_15 rfl ?_
    refine r_bipush 16 28 C dX12_operand_16 (by decide) ?_
    refine r_icmp_ne 18 36 C dX12_operand_18 (by decide) (fun c3 => ?_) (fun c3 => ?_)
    · skip
      have k4 : ¬ ((Int32.toInt x0) = 28) := fun h_9 => c3 ((fa_eq x0 28).mpr h_9)
      refine r_iload_n 36 1 C dX12_operand_36 rfl ?_
      refine r_bipush 37 29 C dX12_operand_37 (by decide) ?_
      refine r_icmp_ne 39 72 C dX12_operand_39 (by decide) (fun c5 => ?_) (fun c5 => ?_)
      · skip
        have k6 : ¬ ((Int32.toInt x0) = 29) := fun h_9 => c5 ((fa_eq x0 29).mpr h_9)
        refine r_iload_n 72 1 C dX12_operand_72 rfl ?_
        refine r_bipush 73 32 C dX12_operand_73 (by decide) ?_
        refine r_icmp_lt 75 92 C dX12_operand_75 (by decide) (fun c7 => ?_) (fun c7 => ?_)
        · skip
          have k8 : (Int32.toInt x0) < 32 := (fa_lt x0 32).mp c7
          refine r_iload_n 92 1 C dX12_operand_92 rfl ?_
          refine r_sipush 93 247 C dX12_operand_93 (by decide) ?_
          refine r_icmp_lt_t 96 125 C dX12_operand_96 (by decide) ((fa_lt x0 247).mpr (by show (Int32.toInt x0) < 247; omega)) ?_
          refine r_iload_n 125 1 C dX12_operand_125 rfl ?_
          refine r_sipush 126 251 C dX12_operand_126 (by decide) ?_
          refine r_icmp_lt_t 129 159 C dX12_operand_129 (by decide) ((fa_lt x0 251).mpr (by show (Int32.toInt x0) < 251; omega)) ?_
          refine r_iload_n 159 1 C dX12_operand_159 rfl ?_
          refine r_bipush 160 30 C dX12_operand_160 (by decide) ?_
          refine r_icmp_eq 162 169 C dX12_operand_162 (by decide) (fun c9 => ?_) (fun c9 => ?_)
          · skip
            have k10 : (Int32.toInt x0) = 30 := (fa_eq x0 30).mp c9
            refine r_iconst 169 0 C dX12_operand_169 (by decide) ?_
            refine r_istore_n 170 C dX12_operand_170 [(2, .int 0), (0, .ref h0), (1, .int x0)] (by decide) rfl ?_
            refine r_iload_n 171 0 C dX12_operand_171 rfl ?_
            refine r_if_eq_t 172 189 C dX12_operand_172 (by decide) (by decide) ?_
            have lp15 : ∀ (n14 : Nat) (z11 : Int32) (z12 : Int32) (z13 : Int64), (0 ≤ (Int32.toInt z11) ∧ (Int32.toInt z11) ≤ 1) → (0 ≤ (Int32.toInt z12) ∧ (Int32.toInt z12) ≤ 3) → (0 ≤ (Int64.toInt z13) ∧ (Int64.toInt z13) ≤ 1500) → ((Int64.toInt y0) ≤ (Int64.toInt z13) ∧ (1 ≤ (Int32.toInt z12) ∨ (Int32.toInt x7) = 0)) → Int.toNat (4 * (1501 - (Int64.toInt z13)) + (3 - (Int32.toInt z12))) < n14 → WW p l e ({ frames := 2, cells := 0, slots := 0, locals := 42 } : Room) s m args below meth c A Q g 4 0 0 [(h0, .inr (11, [.ref h1, .int x1, .ref h2, .int x2, .int x3, .int x4, .ref h3, .ref h4, .ref h5, .ref h6, .int x5, .int x6, .int z12, .ref h7, .ref h8, .ref h9, .ref h10, .int x8, .int x9, .int x10, .long z13, .int x11, .int x12, .long y1, .long y2, .ref h11, .ref h12, .ref h13, .ref h14, .long y3, .int 0, .ref h15, .int x14, .int x15, .int x16, .int x17, .ref h16, .ref h17, .ref h18, .ref h19, .ref h20, .ref h21, .ref h22, .ref h23, .ref h24, .ref h25, .ref h26, .int x18, .int x19, .int x20, .int x21, .int x22, .int x23, .int x24, .long y4, .int x25, .ref h27, .ref h28, .long y5, .long y6, .int x26, .ref h29, .int x27, .ref h30, .ref h31, .ref h32, .ref h33, .int x28, .int x29, .int x30, .int x31, .ref h34, .ref h35, .int x32, .int x33, .ref h36])), (h1, .inl (gB g, 1500, .inl fn0))] 189 [(2, .int z11), (0, .ref h0), (1, .int x0)] [] := by
              intro n14
              induction n14 with
              | zero => intro z11 z12 z13 i18 i19 i20 j21 hm17; exact absurd hm17 (Nat.not_lt_zero _)
              | succ n14 ih16 =>
                intro z11 z12 z13 i18 i19 i20 j21 hm17
                obtain ⟨i18a, i18b⟩ := i18
                obtain ⟨i19a, i19b⟩ := i19
                obtain ⟨i20a, i20b⟩ := i20
                refine r_iload_n 189 0 C dX12_operand_189 rfl ?_
                refine r_if_ne 190 270 C dX12_operand_190 (by decide) (fun c22 => ?_) (fun c22 => ?_)
                · skip
                  have k23 : ¬ ((Int32.toInt z11) = 0) := fun h_9 => c22 ((fa_eq z11 0).mpr h_9)
                  refine r_lconst 270 0 C dX12_operand_270 (by decide) ?_
                  exact r_lret 271 Rt dX12_operand_271 (z12, z13, 0) (show -2147483648 ≤ (Int64.toInt 0) ∧ (Int64.toInt 0) ≤ 2147483647 ∧ 0 ≤ (Int32.toInt z12) ∧ (Int32.toInt z12) ≤ 3 ∧ 0 ≤ (Int64.toInt z13) ∧ (Int64.toInt z13) ≤ 1500 ∧ 0 ≤ (Int32.toInt 0) ∧ (Int32.toInt 0) ≤ 1 ∧ ((1 ≤ (Int32.toInt z12)) ∨ ((Int32.toInt x7) = 0 ∧ (Int32.toInt z12) = 0 ∧ (Int64.toInt y0) ≤ (Int64.toInt z13))) from ⟨(by decide), (by decide), (show _ ∧ _ from ⟨i19a, i19b⟩).1, (show _ ∧ _ from ⟨i19a, i19b⟩).2, (show _ ∧ _ from ⟨i20a, i20b⟩).1, (show _ ∧ _ from ⟨i20a, i20b⟩).2, (by decide), (by decide), (by first | omega | ((repeat' apply And.intro) <;> first | trivial | rfl | assumption | omega | decide | exact Or.inl rfl | exact Or.inr (Or.inl rfl) | exact Or.inr (Or.inr rfl) | exact Or.inr (Or.inr (by assumption))))⟩) [0, 1] (by decide) rfl (Nat.le_of_ble_eq_true rfl) (Nat.le_of_ble_eq_true rfl)
                · skip
                  have k24 : (Int32.toInt z11) = 0 := (fa_eq z11 0).mp c22
                  refine r_aload_n 193 1 C dX12_operand_193 rfl ?_
                  refine r_get 194 C dX12_operand_194 (k := 12) 0 rfl rfl hiX12 (by decide) rfl (mg 2 rfl) (Or.inl rfl) rfl ?_
                  refine r_if_ne 197 270 C dX12_operand_197 (by decide) (fun c25 => ?_) (fun c25 => ?_)
                  · skip
                    have k26 : ¬ ((Int32.toInt z12) = 0) := fun h_9 => c25 ((fa_eq z12 0).mpr h_9)
                    refine r_lconst 270 0 C dX12_operand_270 (by decide) ?_
                    exact r_lret 271 Rt dX12_operand_271 (z12, z13, 0) (show -2147483648 ≤ (Int64.toInt 0) ∧ (Int64.toInt 0) ≤ 2147483647 ∧ 0 ≤ (Int32.toInt z12) ∧ (Int32.toInt z12) ≤ 3 ∧ 0 ≤ (Int64.toInt z13) ∧ (Int64.toInt z13) ≤ 1500 ∧ 0 ≤ (Int32.toInt 0) ∧ (Int32.toInt 0) ≤ 1 ∧ ((1 ≤ (Int32.toInt z12)) ∨ ((Int32.toInt x7) = 0 ∧ (Int32.toInt z12) = 0 ∧ (Int64.toInt y0) ≤ (Int64.toInt z13))) from ⟨(by decide), (by decide), (show _ ∧ _ from ⟨i19a, i19b⟩).1, (show _ ∧ _ from ⟨i19a, i19b⟩).2, (show _ ∧ _ from ⟨i20a, i20b⟩).1, (show _ ∧ _ from ⟨i20a, i20b⟩).2, (by decide), (by decide), (by first | omega | ((repeat' apply And.intro) <;> first | trivial | rfl | assumption | omega | decide | exact Or.inl rfl | exact Or.inr (Or.inl rfl) | exact Or.inr (Or.inr rfl) | exact Or.inr (Or.inr (by assumption))))⟩) [0, 1] (by decide) rfl (Nat.le_of_ble_eq_true rfl) (Nat.le_of_ble_eq_true rfl)
                  · skip
                    have k27 : (Int32.toInt z12) = 0 := (fa_eq z12 0).mp c25
                    refine r_aload_n 200 1 C dX12_operand_200 rfl ?_
                    refine r_callVi 201 C dX12_operand_201 [] [(h0, .inr (11, [.ref h1, .int x1, .ref h2, .int x2, .int x3, .int x4, .ref h3, .ref h4, .ref h5, .ref h6, .int x5, .int x6, .int z12, .ref h7, .ref h8, .ref h9, .ref h10, .int x8, .int x9, .int x10, .long z13, .int x11, .int x12, .long y1, .long y2, .ref h11, .ref h12, .ref h13, .ref h14, .long y3, .int 0, .ref h15, .int x14, .int x15, .int x16, .int x17, .ref h16, .ref h17, .ref h18, .ref h19, .ref h20, .ref h21, .ref h22, .ref h23, .ref h24, .ref h25, .ref h26, .int x18, .int x19, .int x20, .int x21, .int x22, .int x23, .int x24, .long y4, .int x25, .ref h27, .ref h28, .long y5, .long y6, .int x26, .ref h29, .int x27, .ref h30, .ref h31, .ref h32, .ref h33, .int x28, .int x29, .int x30, .int x31, .ref h34, .ref h35, .int x32, .int x33, .ref h36])), (h1, .inl (gB g, 1500, .inl fn0))] [] (fun sz => c50_X12_dictByte l g h0 h1 x1 h2 x2 x3 x4 h3 h4 h5 h6 x5 x6 z12 h7 h8 h9 h10 x8 x9 x10 z13 x11 x12 y1 y2 h11 h12 h13 h14 y3 0 h15 x14 x15 x16 x17 h16 h17 h18 h19 h20 h21 h22 h23 h24 h25 h26 x18 x19 x20 x21 x22 x23 x24 y4 x25 h27 h28 y5 y6 x26 h29 x27 h30 h31 h32 h33 x28 x29 x30 x31 h34 h35 x32 x33 h36 fn0 i_x1 i_x2 i_x4 ⟨i19a, i19b⟩ i_x8 ⟨i20a, i20b⟩ i_x11 i_x12 i_y1 i_y2 i_y3 (by decide) i_x14 i_x15 i_x16 i_x17 i_x19 i_x20 i_x21 i_x22 i_x23 i_x25 i_x26 i_x27 i_x28 i_x29 i_x30 i_x31 i_x32 i_x33 sz) gX12_operand_X12_dictByte rfl ⟨rfl, rfl⟩ 0 (by decide) ⟨Nat.le_of_ble_eq_true rfl, Nat.le_of_ble_eq_true rfl⟩ 0 rfl rfl [0, 1] [] rfl rfl (by decide) (by decide) (by decide) rfl rfl (Nat.le_of_ble_eq_true rfl) ⟨Nat.le_of_ble_eq_true rfl, Nat.le_of_ble_eq_true rfl⟩ (fun r30 u32 w31 => ?_)
                    obtain ⟨z28, z29⟩ := u32
                    refine r_ws [(h0, .inr (11, [.ref h1, .int x1, .ref h2, .int x2, .int x3, .int x4, .ref h3, .ref h4, .ref h5, .ref h6, .int x5, .int x6, .int z28, .ref h7, .ref h8, .ref h9, .ref h10, .int x8, .int x9, .int x10, .long z29, .int x11, .int x12, .long y1, .long y2, .ref h11, .ref h12, .ref h13, .ref h14, .long y3, .int 0, .ref h15, .int x14, .int x15, .int x16, .int x17, .ref h16, .ref h17, .ref h18, .ref h19, .ref h20, .ref h21, .ref h22, .ref h23, .ref h24, .ref h25, .ref h26, .int x18, .int x19, .int x20, .int x21, .int x22, .int x23, .int x24, .long y4, .int x25, .ref h27, .ref h28, .long y5, .long y6, .int x26, .ref h29, .int x27, .ref h30, .ref h31, .ref h32, .ref h33, .int x28, .int x29, .int x30, .int x31, .ref h34, .ref h35, .int x32, .int x33, .ref h36])), (h1, .inl (gB g, 1500, .inl fn0))] rfl ?_
                    have p33 : 0 ≤ (Int32.toInt r30) := w31.1
                    have p34 : (Int32.toInt r30) ≤ 255 := w31.2.1
                    have p35 : 0 ≤ (Int32.toInt z28) := w31.2.2.1
                    have p36 : (Int32.toInt z28) ≤ 3 := w31.2.2.2.1
                    have p37 : 0 ≤ (Int64.toInt z29) := w31.2.2.2.2.1
                    have p38 : (Int64.toInt z29) ≤ 1500 := w31.2.2.2.2.2.1
                    have p39 : ((1 ≤ (Int32.toInt z28) ∧ (Int64.toInt z29) = (Int64.toInt z13)) ∨ ((Int32.toInt z12) = 0 ∧ (Int32.toInt z28) = 0 ∧ (Int64.toInt z29) = (Int64.toInt z13) + 1 ∧ (Int64.toInt z13) < (Int64.toInt y3))) := w31.2.2.2.2.2.2
                    rcases p39 with ⟨k40, k41⟩ | p39
                    · skip
                      refine r_istore_n 204 C dX12_operand_204 [(3, .int r30), (2, .int z11), (0, .ref h0), (1, .int x0)] (by decide) rfl ?_
                      refine r_iload_n 205 0 C dX12_operand_205 rfl ?_
                      refine r_iconst 206 4 C dX12_operand_206 (by decide) ?_
                      obtain ⟨z42, ez42⟩ : ∃ z_9, r30 >>> (4 &&& 31) = z_9 := ⟨_, rfl⟩
                      have tz42 : (Int32.toInt z42) = (Int32.toInt r30) / 16 := by rw [← ez42]; exact shr_4 r30
                      refine r_ishr 207 z42 C dX12_operand_207 ez42 ?_
                      refine r_bipush 208 13 C dX12_operand_208 (by decide) ?_
                      refine r_icmp_eq 210 230 C dX12_operand_210 (by decide) (fun c43 => ?_) (fun c43 => ?_)
                      · skip
                        have k44 : (Int32.toInt z42) = 13 := (fa_eq z42 13).mp c43
                        refine r_aload_n 230 2 C dX12_operand_230 rfl ?_
                        refine r_iconst 231 2 C dX12_operand_231 (by decide) ?_
                        refine r_callVi 232 C dX12_operand_232 [] [(h0, .inr (11, [.ref h1, .int x1, .ref h2, .int x2, .int x3, .int x4, .ref h3, .ref h4, .ref h5, .ref h6, .int x5, .int x6, .int z28, .ref h7, .ref h8, .ref h9, .ref h10, .int x8, .int x9, .int x10, .long z29, .int x11, .int x12, .long y1, .long y2, .ref h11, .ref h12, .ref h13, .ref h14, .long y3, .int 0, .ref h15, .int x14, .int x15, .int x16, .int x17, .ref h16, .ref h17, .ref h18, .ref h19, .ref h20, .ref h21, .ref h22, .ref h23, .ref h24, .ref h25, .ref h26, .int x18, .int x19, .int x20, .int x21, .int x22, .int x23, .int x24, .long y4, .int x25, .ref h27, .ref h28, .long y5, .long y6, .int x26, .ref h29, .int x27, .ref h30, .ref h31, .ref h32, .ref h33, .int x28, .int x29, .int x30, .int x31, .ref h34, .ref h35, .int x32, .int x33, .ref h36]))] [(h1, .inl (gB g, 1500, .inl fn0))] (fun sz => c17_X12_fails l g h0 2 h1 x1 h2 x2 x3 x4 h3 h4 h5 h6 x5 x6 z28 h7 h8 h9 h10 x8 x9 x10 z29 x11 x12 y1 y2 h11 h12 h13 h14 y3 0 h15 x14 x15 x16 x17 h16 h17 h18 h19 h20 h21 h22 h23 h24 h25 h26 x18 x19 x20 x21 x22 x23 x24 y4 x25 h27 h28 y5 y6 x26 h29 x27 h30 h31 h32 h33 x28 x29 x30 x31 h34 h35 x32 x33 h36 (by decide) i_x1 i_x2 i_x4 ⟨p35, p36⟩ i_x8 i_x11 i_x12 i_y1 i_y2 (by decide) i_x14 i_x15 i_x16 i_x17 i_x19 i_x20 i_x21 i_x22 i_x23 i_x25 i_x26 i_x27 i_x28 i_x29 i_x30 i_x31 i_x32 i_x33 sz) gX12_operand_X12_fails rfl ⟨rfl, rfl⟩ 1 (by decide) ⟨Nat.le_of_ble_eq_true rfl, Nat.le_of_ble_eq_true rfl⟩ 0 rfl rfl [0] [1] rfl rfl (by decide) (by decide) (by decide) rfl rfl (Nat.le_of_ble_eq_true rfl) ⟨Nat.le_of_ble_eq_true rfl, Nat.le_of_ble_eq_true rfl⟩ (fun r46 z45 w47 => ?_)
                        refine r_ws [(h1, .inl (gB g, 1500, .inl fn0)), (h0, .inr (11, [.ref h1, .int x1, .ref h2, .int x2, .int x3, .int x4, .ref h3, .ref h4, .ref h5, .ref h6, .int x5, .int x6, .int z45, .ref h7, .ref h8, .ref h9, .ref h10, .int x8, .int x9, .int x10, .long z29, .int x11, .int x12, .long y1, .long y2, .ref h11, .ref h12, .ref h13, .ref h14, .long y3, .int 0, .ref h15, .int x14, .int x15, .int x16, .int x17, .ref h16, .ref h17, .ref h18, .ref h19, .ref h20, .ref h21, .ref h22, .ref h23, .ref h24, .ref h25, .ref h26, .int x18, .int x19, .int x20, .int x21, .int x22, .int x23, .int x24, .long y4, .int x25, .ref h27, .ref h28, .long y5, .long y6, .int x26, .ref h29, .int x27, .ref h30, .ref h31, .ref h32, .ref h33, .int x28, .int x29, .int x30, .int x31, .ref h34, .ref h35, .int x32, .int x33, .ref h36]))] rfl ?_
                        have p48 : 0 = r46 := (w47.1).symm
                        subst p48
                        have p49 : 0 ≤ (Int32.toInt z45) := w47.2.1
                        have p50 : (Int32.toInt z45) ≤ 3 := w47.2.2.1
                        have p51 : (1 ≤ (Int32.toInt z45)) := w47.2.2.2
                        refine r_if_eq_t 235 242 C dX12_operand_235 (by decide) (by decide) ?_
                        refine r_lconst 242 0 C dX12_operand_242 (by decide) ?_
                        exact r_lret 243 Rt dX12_operand_243 (z45, z29, 0) (show -2147483648 ≤ (Int64.toInt 0) ∧ (Int64.toInt 0) ≤ 2147483647 ∧ 0 ≤ (Int32.toInt z45) ∧ (Int32.toInt z45) ≤ 3 ∧ 0 ≤ (Int64.toInt z29) ∧ (Int64.toInt z29) ≤ 1500 ∧ 0 ≤ (Int32.toInt 0) ∧ (Int32.toInt 0) ≤ 1 ∧ ((1 ≤ (Int32.toInt z45)) ∨ ((Int32.toInt x7) = 0 ∧ (Int32.toInt z45) = 0 ∧ (Int64.toInt y0) ≤ (Int64.toInt z29))) from ⟨(by decide), (by decide), (show _ ∧ _ from ⟨p49, p50⟩).1, (show _ ∧ _ from ⟨p49, p50⟩).2, (show _ ∧ _ from ⟨p37, p38⟩).1, (show _ ∧ _ from ⟨p37, p38⟩).2, (by decide), (by decide), (by first | omega | ((repeat' apply And.intro) <;> first | trivial | rfl | assumption | omega | decide | exact Or.inl rfl | exact Or.inr (Or.inl rfl) | exact Or.inr (Or.inr rfl) | exact Or.inr (Or.inr (by assumption))))⟩) [1, 0] (by decide) rfl (Nat.le_of_ble_eq_true rfl) (Nat.le_of_ble_eq_true rfl)
                      · skip
                        have k52 : ¬ ((Int32.toInt z42) = 13) := fun h_9 => c43 ((fa_eq z42 13).mpr h_9)
                        refine r_iload_n 213 0 C dX12_operand_213 rfl ?_
                        refine r_iconst 214 4 C dX12_operand_214 (by decide) ?_
                        refine r_ishr 215 z42 C dX12_operand_215 ez42 ?_
                        refine r_bipush 216 15 C dX12_operand_216 (by decide) ?_
                        refine r_icmp_eq 218 244 C dX12_operand_218 (by decide) (fun c53 => ?_) (fun c53 => ?_)
                        · skip
                          have k54 : (Int32.toInt z42) = 15 := (fa_eq z42 15).mp c53
                          refine r_iload_n 244 0 C dX12_operand_244 rfl ?_
                          refine r_iconst 245 4 C dX12_operand_245 (by decide) ?_
                          refine r_ishr 246 z42 C dX12_operand_246 ez42 ?_
                          refine r_bipush 247 15 C dX12_operand_247 (by decide) ?_
                          refine r_icmp_eq_t 249 261 C dX12_operand_249 (by decide) ((fa_eq z42 15).mpr (by show (Int32.toInt z42) = 15; omega)) ?_
                          refine r_iconst 261 1 C dX12_operand_261 (by decide) ?_
                          refine r_goto 262 266 C dX12_operand_262 (by decide) ?_
                          refine r_istore_n 266 C dX12_operand_266 [(2, .int 1), (3, .int r30), (0, .ref h0), (1, .int x0)] (by decide) rfl ?_
                          refine r_goto 267 189 C dX12_operand_267 (by decide) ?_
                          refine r_lv [(2, .int 1), (0, .ref h0), (1, .int x0)] [0, 2, 3] rfl ?_
                          exact ih16 1 z28 z29 (by decide) ⟨p35, p36⟩ ⟨p37, p38⟩ (by show (Int64.toInt y0) ≤ (Int64.toInt z29) ∧ (1 ≤ (Int32.toInt z28) ∨ (Int32.toInt x7) = 0); omega) (by show Int.toNat (4 * (1501 - (Int64.toInt z29)) + (3 - (Int32.toInt z28))) < n14; omega)
                        · skip
                          have k55 : ¬ ((Int32.toInt z42) = 15) := fun h_9 => c53 ((fa_eq z42 15).mpr h_9)
                          refine r_iload_n 221 0 C dX12_operand_221 rfl ?_
                          refine r_bipush 222 15 C dX12_operand_222 (by decide) ?_
                          obtain ⟨z56, ez56⟩ : ∃ z_9, r30 &&& 15 = z_9 := ⟨_, rfl⟩
                          have tz56 : 0 ≤ (Int32.toInt z56) ∧ (Int32.toInt z56) ≤ 15 := by rw [← ez56]; exact and_15 r30
                          refine r_iand 224 z56 C dX12_operand_224 ez56 ?_
                          refine r_bipush 225 13 C dX12_operand_225 (by decide) ?_
                          refine r_icmp_ne 227 244 C dX12_operand_227 (by decide) (fun c57 => ?_) (fun c57 => ?_)
                          · skip
                            have k58 : ¬ ((Int32.toInt z56) = 13) := fun h_9 => c57 ((fa_eq z56 13).mpr h_9)
                            refine r_iload_n 244 0 C dX12_operand_244 rfl ?_
                            refine r_iconst 245 4 C dX12_operand_245 (by decide) ?_
                            refine r_ishr 246 z42 C dX12_operand_246 ez42 ?_
                            refine r_bipush 247 15 C dX12_operand_247 (by decide) ?_
                            refine r_icmp_eq_f 249 261 C dX12_operand_249 (by decide) (fun h_9 => by have h_8 : (Int32.toInt z42) = 15 := (fa_eq z42 15).mp h_9; omega) ?_
                            refine r_iload_n 252 0 C dX12_operand_252 rfl ?_
                            refine r_bipush 253 15 C dX12_operand_253 (by decide) ?_
                            refine r_iand 255 z56 C dX12_operand_255 ez56 ?_
                            refine r_bipush 256 15 C dX12_operand_256 (by decide) ?_
                            refine r_icmp_ne 258 265 C dX12_operand_258 (by decide) (fun c59 => ?_) (fun c59 => ?_)
                            · skip
                              have k60 : ¬ ((Int32.toInt z56) = 15) := fun h_9 => c59 ((fa_eq z56 15).mpr h_9)
                              refine r_iconst 265 0 C dX12_operand_265 (by decide) ?_
                              refine r_istore_n 266 C dX12_operand_266 [(2, .int 0), (3, .int r30), (0, .ref h0), (1, .int x0)] (by decide) rfl ?_
                              refine r_goto 267 189 C dX12_operand_267 (by decide) ?_
                              refine r_lv [(2, .int 0), (0, .ref h0), (1, .int x0)] [0, 2, 3] rfl ?_
                              exact ih16 0 z28 z29 (by decide) ⟨p35, p36⟩ ⟨p37, p38⟩ (by show (Int64.toInt y0) ≤ (Int64.toInt z29) ∧ (1 ≤ (Int32.toInt z28) ∨ (Int32.toInt x7) = 0); omega) (by show Int.toNat (4 * (1501 - (Int64.toInt z29)) + (3 - (Int32.toInt z28))) < n14; omega)
                            · skip
                              have k61 : (Int32.toInt z56) = 15 := (fa_eq z56 15).mp c59
                              refine r_iconst 261 1 C dX12_operand_261 (by decide) ?_
                              refine r_goto 262 266 C dX12_operand_262 (by decide) ?_
                              refine r_istore_n 266 C dX12_operand_266 [(2, .int 1), (3, .int r30), (0, .ref h0), (1, .int x0)] (by decide) rfl ?_
                              refine r_goto 267 189 C dX12_operand_267 (by decide) ?_
                              refine r_lv [(2, .int 1), (0, .ref h0), (1, .int x0)] [0, 2, 3] rfl ?_
                              exact ih16 1 z28 z29 (by decide) ⟨p35, p36⟩ ⟨p37, p38⟩ (by show (Int64.toInt y0) ≤ (Int64.toInt z29) ∧ (1 ≤ (Int32.toInt z28) ∨ (Int32.toInt x7) = 0); omega) (by show Int.toNat (4 * (1501 - (Int64.toInt z29)) + (3 - (Int32.toInt z28))) < n14; omega)
                          · skip
                            have k62 : (Int32.toInt z56) = 13 := (fa_eq z56 13).mp c57
                            refine r_aload_n 230 2 C dX12_operand_230 rfl ?_
                            refine r_iconst 231 2 C dX12_operand_231 (by decide) ?_
                            refine r_callVi 232 C dX12_operand_232 [] [(h0, .inr (11, [.ref h1, .int x1, .ref h2, .int x2, .int x3, .int x4, .ref h3, .ref h4, .ref h5, .ref h6, .int x5, .int x6, .int z28, .ref h7, .ref h8, .ref h9, .ref h10, .int x8, .int x9, .int x10, .long z29, .int x11, .int x12, .long y1, .long y2, .ref h11, .ref h12, .ref h13, .ref h14, .long y3, .int 0, .ref h15, .int x14, .int x15, .int x16, .int x17, .ref h16, .ref h17, .ref h18, .ref h19, .ref h20, .ref h21, .ref h22, .ref h23, .ref h24, .ref h25, .ref h26, .int x18, .int x19, .int x20, .int x21, .int x22, .int x23, .int x24, .long y4, .int x25, .ref h27, .ref h28, .long y5, .long y6, .int x26, .ref h29, .int x27, .ref h30, .ref h31, .ref h32, .ref h33, .int x28, .int x29, .int x30, .int x31, .ref h34, .ref h35, .int x32, .int x33, .ref h36]))] [(h1, .inl (gB g, 1500, .inl fn0))] (fun sz => c17_X12_fails l g h0 2 h1 x1 h2 x2 x3 x4 h3 h4 h5 h6 x5 x6 z28 h7 h8 h9 h10 x8 x9 x10 z29 x11 x12 y1 y2 h11 h12 h13 h14 y3 0 h15 x14 x15 x16 x17 h16 h17 h18 h19 h20 h21 h22 h23 h24 h25 h26 x18 x19 x20 x21 x22 x23 x24 y4 x25 h27 h28 y5 y6 x26 h29 x27 h30 h31 h32 h33 x28 x29 x30 x31 h34 h35 x32 x33 h36 (by decide) i_x1 i_x2 i_x4 ⟨p35, p36⟩ i_x8 i_x11 i_x12 i_y1 i_y2 (by decide) i_x14 i_x15 i_x16 i_x17 i_x19 i_x20 i_x21 i_x22 i_x23 i_x25 i_x26 i_x27 i_x28 i_x29 i_x30 i_x31 i_x32 i_x33 sz) gX12_operand_X12_fails rfl ⟨rfl, rfl⟩ 1 (by decide) ⟨Nat.le_of_ble_eq_true rfl, Nat.le_of_ble_eq_true rfl⟩ 0 rfl rfl [0] [1] rfl rfl (by decide) (by decide) (by decide) rfl rfl (Nat.le_of_ble_eq_true rfl) ⟨Nat.le_of_ble_eq_true rfl, Nat.le_of_ble_eq_true rfl⟩ (fun r64 z63 w65 => ?_)
                            refine r_ws [(h1, .inl (gB g, 1500, .inl fn0)), (h0, .inr (11, [.ref h1, .int x1, .ref h2, .int x2, .int x3, .int x4, .ref h3, .ref h4, .ref h5, .ref h6, .int x5, .int x6, .int z63, .ref h7, .ref h8, .ref h9, .ref h10, .int x8, .int x9, .int x10, .long z29, .int x11, .int x12, .long y1, .long y2, .ref h11, .ref h12, .ref h13, .ref h14, .long y3, .int 0, .ref h15, .int x14, .int x15, .int x16, .int x17, .ref h16, .ref h17, .ref h18, .ref h19, .ref h20, .ref h21, .ref h22, .ref h23, .ref h24, .ref h25, .ref h26, .int x18, .int x19, .int x20, .int x21, .int x22, .int x23, .int x24, .long y4, .int x25, .ref h27, .ref h28, .long y5, .long y6, .int x26, .ref h29, .int x27, .ref h30, .ref h31, .ref h32, .ref h33, .int x28, .int x29, .int x30, .int x31, .ref h34, .ref h35, .int x32, .int x33, .ref h36]))] rfl ?_
                            have p66 : 0 = r64 := (w65.1).symm
                            subst p66
                            have p67 : 0 ≤ (Int32.toInt z63) := w65.2.1
                            have p68 : (Int32.toInt z63) ≤ 3 := w65.2.2.1
                            have p69 : (1 ≤ (Int32.toInt z63)) := w65.2.2.2
                            refine r_if_eq_t 235 242 C dX12_operand_235 (by decide) (by decide) ?_
                            refine r_lconst 242 0 C dX12_operand_242 (by decide) ?_
                            exact r_lret 243 Rt dX12_operand_243 (z63, z29, 0) (show -2147483648 ≤ (Int64.toInt 0) ∧ (Int64.toInt 0) ≤ 2147483647 ∧ 0 ≤ (Int32.toInt z63) ∧ (Int32.toInt z63) ≤ 3 ∧ 0 ≤ (Int64.toInt z29) ∧ (Int64.toInt z29) ≤ 1500 ∧ 0 ≤ (Int32.toInt 0) ∧ (Int32.toInt 0) ≤ 1 ∧ ((1 ≤ (Int32.toInt z63)) ∨ ((Int32.toInt x7) = 0 ∧ (Int32.toInt z63) = 0 ∧ (Int64.toInt y0) ≤ (Int64.toInt z29))) from ⟨(by decide), (by decide), (show _ ∧ _ from ⟨p67, p68⟩).1, (show _ ∧ _ from ⟨p67, p68⟩).2, (show _ ∧ _ from ⟨p37, p38⟩).1, (show _ ∧ _ from ⟨p37, p38⟩).2, (by decide), (by decide), (by first | omega | ((repeat' apply And.intro) <;> first | trivial | rfl | assumption | omega | decide | exact Or.inl rfl | exact Or.inr (Or.inl rfl) | exact Or.inr (Or.inr rfl) | exact Or.inr (Or.inr (by assumption))))⟩) [1, 0] (by decide) rfl (Nat.le_of_ble_eq_true rfl) (Nat.le_of_ble_eq_true rfl)
                    obtain ⟨k70, k71, k72, k73⟩ := p39
                    refine r_istore_n 204 C dX12_operand_204 [(3, .int r30), (2, .int z11), (0, .ref h0), (1, .int x0)] (by decide) rfl ?_
                    refine r_iload_n 205 0 C dX12_operand_205 rfl ?_
                    refine r_iconst 206 4 C dX12_operand_206 (by decide) ?_
                    obtain ⟨z74, ez74⟩ : ∃ z_9, r30 >>> (4 &&& 31) = z_9 := ⟨_, rfl⟩
                    have tz74 : (Int32.toInt z74) = (Int32.toInt r30) / 16 := by rw [← ez74]; exact shr_4 r30
                    refine r_ishr 207 z74 C dX12_operand_207 ez74 ?_
                    refine r_bipush 208 13 C dX12_operand_208 (by decide) ?_
                    refine r_icmp_eq 210 230 C dX12_operand_210 (by decide) (fun c75 => ?_) (fun c75 => ?_)
                    · skip
                      have k76 : (Int32.toInt z74) = 13 := (fa_eq z74 13).mp c75
                      refine r_aload_n 230 2 C dX12_operand_230 rfl ?_
                      refine r_iconst 231 2 C dX12_operand_231 (by decide) ?_
                      refine r_callVi 232 C dX12_operand_232 [] [(h0, .inr (11, [.ref h1, .int x1, .ref h2, .int x2, .int x3, .int x4, .ref h3, .ref h4, .ref h5, .ref h6, .int x5, .int x6, .int z28, .ref h7, .ref h8, .ref h9, .ref h10, .int x8, .int x9, .int x10, .long z29, .int x11, .int x12, .long y1, .long y2, .ref h11, .ref h12, .ref h13, .ref h14, .long y3, .int 0, .ref h15, .int x14, .int x15, .int x16, .int x17, .ref h16, .ref h17, .ref h18, .ref h19, .ref h20, .ref h21, .ref h22, .ref h23, .ref h24, .ref h25, .ref h26, .int x18, .int x19, .int x20, .int x21, .int x22, .int x23, .int x24, .long y4, .int x25, .ref h27, .ref h28, .long y5, .long y6, .int x26, .ref h29, .int x27, .ref h30, .ref h31, .ref h32, .ref h33, .int x28, .int x29, .int x30, .int x31, .ref h34, .ref h35, .int x32, .int x33, .ref h36]))] [(h1, .inl (gB g, 1500, .inl fn0))] (fun sz => c17_X12_fails l g h0 2 h1 x1 h2 x2 x3 x4 h3 h4 h5 h6 x5 x6 z28 h7 h8 h9 h10 x8 x9 x10 z29 x11 x12 y1 y2 h11 h12 h13 h14 y3 0 h15 x14 x15 x16 x17 h16 h17 h18 h19 h20 h21 h22 h23 h24 h25 h26 x18 x19 x20 x21 x22 x23 x24 y4 x25 h27 h28 y5 y6 x26 h29 x27 h30 h31 h32 h33 x28 x29 x30 x31 h34 h35 x32 x33 h36 (by decide) i_x1 i_x2 i_x4 ⟨p35, p36⟩ i_x8 i_x11 i_x12 i_y1 i_y2 (by decide) i_x14 i_x15 i_x16 i_x17 i_x19 i_x20 i_x21 i_x22 i_x23 i_x25 i_x26 i_x27 i_x28 i_x29 i_x30 i_x31 i_x32 i_x33 sz) gX12_operand_X12_fails rfl ⟨rfl, rfl⟩ 1 (by decide) ⟨Nat.le_of_ble_eq_true rfl, Nat.le_of_ble_eq_true rfl⟩ 0 rfl rfl [0] [1] rfl rfl (by decide) (by decide) (by decide) rfl rfl (Nat.le_of_ble_eq_true rfl) ⟨Nat.le_of_ble_eq_true rfl, Nat.le_of_ble_eq_true rfl⟩ (fun r78 z77 w79 => ?_)
                      refine r_ws [(h1, .inl (gB g, 1500, .inl fn0)), (h0, .inr (11, [.ref h1, .int x1, .ref h2, .int x2, .int x3, .int x4, .ref h3, .ref h4, .ref h5, .ref h6, .int x5, .int x6, .int z77, .ref h7, .ref h8, .ref h9, .ref h10, .int x8, .int x9, .int x10, .long z29, .int x11, .int x12, .long y1, .long y2, .ref h11, .ref h12, .ref h13, .ref h14, .long y3, .int 0, .ref h15, .int x14, .int x15, .int x16, .int x17, .ref h16, .ref h17, .ref h18, .ref h19, .ref h20, .ref h21, .ref h22, .ref h23, .ref h24, .ref h25, .ref h26, .int x18, .int x19, .int x20, .int x21, .int x22, .int x23, .int x24, .long y4, .int x25, .ref h27, .ref h28, .long y5, .long y6, .int x26, .ref h29, .int x27, .ref h30, .ref h31, .ref h32, .ref h33, .int x28, .int x29, .int x30, .int x31, .ref h34, .ref h35, .int x32, .int x33, .ref h36]))] rfl ?_
                      have p80 : 0 = r78 := (w79.1).symm
                      subst p80
                      have p81 : 0 ≤ (Int32.toInt z77) := w79.2.1
                      have p82 : (Int32.toInt z77) ≤ 3 := w79.2.2.1
                      have p83 : (1 ≤ (Int32.toInt z77)) := w79.2.2.2
                      refine r_if_eq_t 235 242 C dX12_operand_235 (by decide) (by decide) ?_
                      refine r_lconst 242 0 C dX12_operand_242 (by decide) ?_
                      exact r_lret 243 Rt dX12_operand_243 (z77, z29, 0) (show -2147483648 ≤ (Int64.toInt 0) ∧ (Int64.toInt 0) ≤ 2147483647 ∧ 0 ≤ (Int32.toInt z77) ∧ (Int32.toInt z77) ≤ 3 ∧ 0 ≤ (Int64.toInt z29) ∧ (Int64.toInt z29) ≤ 1500 ∧ 0 ≤ (Int32.toInt 0) ∧ (Int32.toInt 0) ≤ 1 ∧ ((1 ≤ (Int32.toInt z77)) ∨ ((Int32.toInt x7) = 0 ∧ (Int32.toInt z77) = 0 ∧ (Int64.toInt y0) ≤ (Int64.toInt z29))) from ⟨(by decide), (by decide), (show _ ∧ _ from ⟨p81, p82⟩).1, (show _ ∧ _ from ⟨p81, p82⟩).2, (show _ ∧ _ from ⟨p37, p38⟩).1, (show _ ∧ _ from ⟨p37, p38⟩).2, (by decide), (by decide), (by first | omega | ((repeat' apply And.intro) <;> first | trivial | rfl | assumption | omega | decide | exact Or.inl rfl | exact Or.inr (Or.inl rfl) | exact Or.inr (Or.inr rfl) | exact Or.inr (Or.inr (by assumption))))⟩) [1, 0] (by decide) rfl (Nat.le_of_ble_eq_true rfl) (Nat.le_of_ble_eq_true rfl)
                    · skip
                      have k84 : ¬ ((Int32.toInt z74) = 13) := fun h_9 => c75 ((fa_eq z74 13).mpr h_9)
                      refine r_iload_n 213 0 C dX12_operand_213 rfl ?_
                      refine r_iconst 214 4 C dX12_operand_214 (by decide) ?_
                      refine r_ishr 215 z74 C dX12_operand_215 ez74 ?_
                      refine r_bipush 216 15 C dX12_operand_216 (by decide) ?_
                      refine r_icmp_eq 218 244 C dX12_operand_218 (by decide) (fun c85 => ?_) (fun c85 => ?_)
                      · skip
                        have k86 : (Int32.toInt z74) = 15 := (fa_eq z74 15).mp c85
                        refine r_iload_n 244 0 C dX12_operand_244 rfl ?_
                        refine r_iconst 245 4 C dX12_operand_245 (by decide) ?_
                        refine r_ishr 246 z74 C dX12_operand_246 ez74 ?_
                        refine r_bipush 247 15 C dX12_operand_247 (by decide) ?_
                        refine r_icmp_eq_t 249 261 C dX12_operand_249 (by decide) ((fa_eq z74 15).mpr (by show (Int32.toInt z74) = 15; omega)) ?_
                        refine r_iconst 261 1 C dX12_operand_261 (by decide) ?_
                        refine r_goto 262 266 C dX12_operand_262 (by decide) ?_
                        refine r_istore_n 266 C dX12_operand_266 [(2, .int 1), (3, .int r30), (0, .ref h0), (1, .int x0)] (by decide) rfl ?_
                        refine r_goto 267 189 C dX12_operand_267 (by decide) ?_
                        refine r_lv [(2, .int 1), (0, .ref h0), (1, .int x0)] [0, 2, 3] rfl ?_
                        exact ih16 1 z28 z29 (by decide) ⟨p35, p36⟩ ⟨p37, p38⟩ (by show (Int64.toInt y0) ≤ (Int64.toInt z29) ∧ (1 ≤ (Int32.toInt z28) ∨ (Int32.toInt x7) = 0); omega) (by show Int.toNat (4 * (1501 - (Int64.toInt z29)) + (3 - (Int32.toInt z28))) < n14; omega)
                      · skip
                        have k87 : ¬ ((Int32.toInt z74) = 15) := fun h_9 => c85 ((fa_eq z74 15).mpr h_9)
                        refine r_iload_n 221 0 C dX12_operand_221 rfl ?_
                        refine r_bipush 222 15 C dX12_operand_222 (by decide) ?_
                        obtain ⟨z88, ez88⟩ : ∃ z_9, r30 &&& 15 = z_9 := ⟨_, rfl⟩
                        have tz88 : 0 ≤ (Int32.toInt z88) ∧ (Int32.toInt z88) ≤ 15 := by rw [← ez88]; exact and_15 r30
                        refine r_iand 224 z88 C dX12_operand_224 ez88 ?_
                        refine r_bipush 225 13 C dX12_operand_225 (by decide) ?_
                        refine r_icmp_ne 227 244 C dX12_operand_227 (by decide) (fun c89 => ?_) (fun c89 => ?_)
                        · skip
                          have k90 : ¬ ((Int32.toInt z88) = 13) := fun h_9 => c89 ((fa_eq z88 13).mpr h_9)
                          refine r_iload_n 244 0 C dX12_operand_244 rfl ?_
                          refine r_iconst 245 4 C dX12_operand_245 (by decide) ?_
                          refine r_ishr 246 z74 C dX12_operand_246 ez74 ?_
                          refine r_bipush 247 15 C dX12_operand_247 (by decide) ?_
                          refine r_icmp_eq_f 249 261 C dX12_operand_249 (by decide) (fun h_9 => by have h_8 : (Int32.toInt z74) = 15 := (fa_eq z74 15).mp h_9; omega) ?_
                          refine r_iload_n 252 0 C dX12_operand_252 rfl ?_
                          refine r_bipush 253 15 C dX12_operand_253 (by decide) ?_
                          refine r_iand 255 z88 C dX12_operand_255 ez88 ?_
                          refine r_bipush 256 15 C dX12_operand_256 (by decide) ?_
                          refine r_icmp_ne 258 265 C dX12_operand_258 (by decide) (fun c91 => ?_) (fun c91 => ?_)
                          · skip
                            have k92 : ¬ ((Int32.toInt z88) = 15) := fun h_9 => c91 ((fa_eq z88 15).mpr h_9)
                            refine r_iconst 265 0 C dX12_operand_265 (by decide) ?_
                            refine r_istore_n 266 C dX12_operand_266 [(2, .int 0), (3, .int r30), (0, .ref h0), (1, .int x0)] (by decide) rfl ?_
                            refine r_goto 267 189 C dX12_operand_267 (by decide) ?_
                            refine r_lv [(2, .int 0), (0, .ref h0), (1, .int x0)] [0, 2, 3] rfl ?_
                            exact ih16 0 z28 z29 (by decide) ⟨p35, p36⟩ ⟨p37, p38⟩ (by show (Int64.toInt y0) ≤ (Int64.toInt z29) ∧ (1 ≤ (Int32.toInt z28) ∨ (Int32.toInt x7) = 0); omega) (by show Int.toNat (4 * (1501 - (Int64.toInt z29)) + (3 - (Int32.toInt z28))) < n14; omega)
                          · skip
                            have k93 : (Int32.toInt z88) = 15 := (fa_eq z88 15).mp c91
                            refine r_iconst 261 1 C dX12_operand_261 (by decide) ?_
                            refine r_goto 262 266 C dX12_operand_262 (by decide) ?_
                            refine r_istore_n 266 C dX12_operand_266 [(2, .int 1), (3, .int r30), (0, .ref h0), (1, .int x0)] (by decide) rfl ?_
                            refine r_goto 267 189 C dX12_operand_267 (by decide) ?_
                            refine r_lv [(2, .int 1), (0, .ref h0), (1, .int x0)] [0, 2, 3] rfl ?_
                            exact ih16 1 z28 z29 (by decide) ⟨p35, p36⟩ ⟨p37, p38⟩ (by show (Int64.toInt y0) ≤ (Int64.toInt z29) ∧ (1 ≤ (Int32.toInt z28) ∨ (Int32.toInt x7) = 0); omega) (by show Int.toNat (4 * (1501 - (Int64.toInt z29)) + (3 - (Int32.toInt z28))) < n14; omega)
                        · skip
                          have k94 : (Int32.toInt z88) = 13 := (fa_eq z88 13).mp c89
                          refine r_aload_n 230 2 C dX12_operand_230 rfl ?_
                          refine r_iconst 231 2 C dX12_operand_231 (by decide) ?_
                          refine r_callVi 232 C dX12_operand_232 [] [(h0, .inr (11, [.ref h1, .int x1, .ref h2, .int x2, .int x3, .int x4, .ref h3, .ref h4, .ref h5, .ref h6, .int x5, .int x6, .int z28, .ref h7, .ref h8, .ref h9, .ref h10, .int x8, .int x9, .int x10, .long z29, .int x11, .int x12, .long y1, .long y2, .ref h11, .ref h12, .ref h13, .ref h14, .long y3, .int 0, .ref h15, .int x14, .int x15, .int x16, .int x17, .ref h16, .ref h17, .ref h18, .ref h19, .ref h20, .ref h21, .ref h22, .ref h23, .ref h24, .ref h25, .ref h26, .int x18, .int x19, .int x20, .int x21, .int x22, .int x23, .int x24, .long y4, .int x25, .ref h27, .ref h28, .long y5, .long y6, .int x26, .ref h29, .int x27, .ref h30, .ref h31, .ref h32, .ref h33, .int x28, .int x29, .int x30, .int x31, .ref h34, .ref h35, .int x32, .int x33, .ref h36]))] [(h1, .inl (gB g, 1500, .inl fn0))] (fun sz => c17_X12_fails l g h0 2 h1 x1 h2 x2 x3 x4 h3 h4 h5 h6 x5 x6 z28 h7 h8 h9 h10 x8 x9 x10 z29 x11 x12 y1 y2 h11 h12 h13 h14 y3 0 h15 x14 x15 x16 x17 h16 h17 h18 h19 h20 h21 h22 h23 h24 h25 h26 x18 x19 x20 x21 x22 x23 x24 y4 x25 h27 h28 y5 y6 x26 h29 x27 h30 h31 h32 h33 x28 x29 x30 x31 h34 h35 x32 x33 h36 (by decide) i_x1 i_x2 i_x4 ⟨p35, p36⟩ i_x8 i_x11 i_x12 i_y1 i_y2 (by decide) i_x14 i_x15 i_x16 i_x17 i_x19 i_x20 i_x21 i_x22 i_x23 i_x25 i_x26 i_x27 i_x28 i_x29 i_x30 i_x31 i_x32 i_x33 sz) gX12_operand_X12_fails rfl ⟨rfl, rfl⟩ 1 (by decide) ⟨Nat.le_of_ble_eq_true rfl, Nat.le_of_ble_eq_true rfl⟩ 0 rfl rfl [0] [1] rfl rfl (by decide) (by decide) (by decide) rfl rfl (Nat.le_of_ble_eq_true rfl) ⟨Nat.le_of_ble_eq_true rfl, Nat.le_of_ble_eq_true rfl⟩ (fun r96 z95 w97 => ?_)
                          refine r_ws [(h1, .inl (gB g, 1500, .inl fn0)), (h0, .inr (11, [.ref h1, .int x1, .ref h2, .int x2, .int x3, .int x4, .ref h3, .ref h4, .ref h5, .ref h6, .int x5, .int x6, .int z95, .ref h7, .ref h8, .ref h9, .ref h10, .int x8, .int x9, .int x10, .long z29, .int x11, .int x12, .long y1, .long y2, .ref h11, .ref h12, .ref h13, .ref h14, .long y3, .int 0, .ref h15, .int x14, .int x15, .int x16, .int x17, .ref h16, .ref h17, .ref h18, .ref h19, .ref h20, .ref h21, .ref h22, .ref h23, .ref h24, .ref h25, .ref h26, .int x18, .int x19, .int x20, .int x21, .int x22, .int x23, .int x24, .long y4, .int x25, .ref h27, .ref h28, .long y5, .long y6, .int x26, .ref h29, .int x27, .ref h30, .ref h31, .ref h32, .ref h33, .int x28, .int x29, .int x30, .int x31, .ref h34, .ref h35, .int x32, .int x33, .ref h36]))] rfl ?_
                          have p98 : 0 = r96 := (w97.1).symm
                          subst p98
                          have p99 : 0 ≤ (Int32.toInt z95) := w97.2.1
                          have p100 : (Int32.toInt z95) ≤ 3 := w97.2.2.1
                          have p101 : (1 ≤ (Int32.toInt z95)) := w97.2.2.2
                          refine r_if_eq_t 235 242 C dX12_operand_235 (by decide) (by decide) ?_
                          refine r_lconst 242 0 C dX12_operand_242 (by decide) ?_
                          exact r_lret 243 Rt dX12_operand_243 (z95, z29, 0) (show -2147483648 ≤ (Int64.toInt 0) ∧ (Int64.toInt 0) ≤ 2147483647 ∧ 0 ≤ (Int32.toInt z95) ∧ (Int32.toInt z95) ≤ 3 ∧ 0 ≤ (Int64.toInt z29) ∧ (Int64.toInt z29) ≤ 1500 ∧ 0 ≤ (Int32.toInt 0) ∧ (Int32.toInt 0) ≤ 1 ∧ ((1 ≤ (Int32.toInt z95)) ∨ ((Int32.toInt x7) = 0 ∧ (Int32.toInt z95) = 0 ∧ (Int64.toInt y0) ≤ (Int64.toInt z29))) from ⟨(by decide), (by decide), (show _ ∧ _ from ⟨p99, p100⟩).1, (show _ ∧ _ from ⟨p99, p100⟩).2, (show _ ∧ _ from ⟨p37, p38⟩).1, (show _ ∧ _ from ⟨p37, p38⟩).2, (by decide), (by decide), (by first | omega | ((repeat' apply And.intro) <;> first | trivial | rfl | assumption | omega | decide | exact Or.inl rfl | exact Or.inr (Or.inl rfl) | exact Or.inr (Or.inr rfl) | exact Or.inr (Or.inr (by assumption))))⟩) [1, 0] (by decide) rfl (Nat.le_of_ble_eq_true rfl) (Nat.le_of_ble_eq_true rfl)
            exact lp15 _ 0 x7 y0 (by decide) i_x7 i_y0 (by show (Int64.toInt y0) ≤ (Int64.toInt y0) ∧ (1 ≤ (Int32.toInt x7) ∨ (Int32.toInt x7) = 0); omega) (Nat.lt_succ_self _)
          · skip
            have k102 : ¬ ((Int32.toInt x0) = 30) := fun h_9 => c9 ((fa_eq x0 30).mpr h_9)
            refine r_iconst 165 1 C dX12_operand_165 (by decide) ?_
            refine r_goto 166 170 C dX12_operand_166 (by decide) ?_
            refine r_istore_n 170 C dX12_operand_170 [(2, .int 1), (0, .ref h0), (1, .int x0)] (by decide) rfl ?_
            refine r_iload_n 171 0 C dX12_operand_171 rfl ?_
            refine r_if_eq_f 172 189 C dX12_operand_172 (by decide) (by decide) ?_
            refine r_aload_n 175 1 C dX12_operand_175 rfl ?_
            refine r_iconst 176 2 C dX12_operand_176 (by decide) ?_
            refine r_callVi 177 C dX12_operand_177 [] [(h0, .inr (11, [.ref h1, .int x1, .ref h2, .int x2, .int x3, .int x4, .ref h3, .ref h4, .ref h5, .ref h6, .int x5, .int x6, .int x7, .ref h7, .ref h8, .ref h9, .ref h10, .int x8, .int x9, .int x10, .long y0, .int x11, .int x12, .long y1, .long y2, .ref h11, .ref h12, .ref h13, .ref h14, .long y3, .int 0, .ref h15, .int x14, .int x15, .int x16, .int x17, .ref h16, .ref h17, .ref h18, .ref h19, .ref h20, .ref h21, .ref h22, .ref h23, .ref h24, .ref h25, .ref h26, .int x18, .int x19, .int x20, .int x21, .int x22, .int x23, .int x24, .long y4, .int x25, .ref h27, .ref h28, .long y5, .long y6, .int x26, .ref h29, .int x27, .ref h30, .ref h31, .ref h32, .ref h33, .int x28, .int x29, .int x30, .int x31, .ref h34, .ref h35, .int x32, .int x33, .ref h36]))] [(h1, .inl (gB g, 1500, .inl fn0))] (fun sz => c17_X12_fails l g h0 2 h1 x1 h2 x2 x3 x4 h3 h4 h5 h6 x5 x6 x7 h7 h8 h9 h10 x8 x9 x10 y0 x11 x12 y1 y2 h11 h12 h13 h14 y3 0 h15 x14 x15 x16 x17 h16 h17 h18 h19 h20 h21 h22 h23 h24 h25 h26 x18 x19 x20 x21 x22 x23 x24 y4 x25 h27 h28 y5 y6 x26 h29 x27 h30 h31 h32 h33 x28 x29 x30 x31 h34 h35 x32 x33 h36 (by decide) i_x1 i_x2 i_x4 i_x7 i_x8 i_x11 i_x12 i_y1 i_y2 (by decide) i_x14 i_x15 i_x16 i_x17 i_x19 i_x20 i_x21 i_x22 i_x23 i_x25 i_x26 i_x27 i_x28 i_x29 i_x30 i_x31 i_x32 i_x33 sz) gX12_operand_X12_fails rfl ⟨rfl, rfl⟩ 1 (by decide) ⟨Nat.le_of_ble_eq_true rfl, Nat.le_of_ble_eq_true rfl⟩ 0 rfl rfl [0] [1] rfl rfl (by decide) (by decide) (by decide) rfl rfl (Nat.le_of_ble_eq_true rfl) ⟨Nat.le_of_ble_eq_true rfl, Nat.le_of_ble_eq_true rfl⟩ (fun r104 z103 w105 => ?_)
            refine r_ws [(h1, .inl (gB g, 1500, .inl fn0)), (h0, .inr (11, [.ref h1, .int x1, .ref h2, .int x2, .int x3, .int x4, .ref h3, .ref h4, .ref h5, .ref h6, .int x5, .int x6, .int z103, .ref h7, .ref h8, .ref h9, .ref h10, .int x8, .int x9, .int x10, .long y0, .int x11, .int x12, .long y1, .long y2, .ref h11, .ref h12, .ref h13, .ref h14, .long y3, .int 0, .ref h15, .int x14, .int x15, .int x16, .int x17, .ref h16, .ref h17, .ref h18, .ref h19, .ref h20, .ref h21, .ref h22, .ref h23, .ref h24, .ref h25, .ref h26, .int x18, .int x19, .int x20, .int x21, .int x22, .int x23, .int x24, .long y4, .int x25, .ref h27, .ref h28, .long y5, .long y6, .int x26, .ref h29, .int x27, .ref h30, .ref h31, .ref h32, .ref h33, .int x28, .int x29, .int x30, .int x31, .ref h34, .ref h35, .int x32, .int x33, .ref h36]))] rfl ?_
            have p106 : 0 = r104 := (w105.1).symm
            subst p106
            have p107 : 0 ≤ (Int32.toInt z103) := w105.2.1
            have p108 : (Int32.toInt z103) ≤ 3 := w105.2.2.1
            have p109 : (1 ≤ (Int32.toInt z103)) := w105.2.2.2
            refine r_if_eq_t 180 187 C dX12_operand_180 (by decide) (by decide) ?_
            refine r_lconst 187 0 C dX12_operand_187 (by decide) ?_
            exact r_lret 188 Rt dX12_operand_188 (z103, y0, 0) (show -2147483648 ≤ (Int64.toInt 0) ∧ (Int64.toInt 0) ≤ 2147483647 ∧ 0 ≤ (Int32.toInt z103) ∧ (Int32.toInt z103) ≤ 3 ∧ 0 ≤ (Int64.toInt y0) ∧ (Int64.toInt y0) ≤ 1500 ∧ 0 ≤ (Int32.toInt 0) ∧ (Int32.toInt 0) ≤ 1 ∧ ((1 ≤ (Int32.toInt z103)) ∨ ((Int32.toInt x7) = 0 ∧ (Int32.toInt z103) = 0 ∧ (Int64.toInt y0) ≤ (Int64.toInt y0))) from ⟨(by decide), (by decide), (show _ ∧ _ from ⟨p107, p108⟩).1, (show _ ∧ _ from ⟨p107, p108⟩).2, i_y0.1, i_y0.2, (by decide), (by decide), (by first | omega | ((repeat' apply And.intro) <;> first | trivial | rfl | assumption | omega | decide | exact Or.inl rfl | exact Or.inr (Or.inl rfl) | exact Or.inr (Or.inr rfl) | exact Or.inr (Or.inr (by assumption))))⟩) [1, 0] (by decide) rfl (Nat.le_of_ble_eq_true rfl) (Nat.le_of_ble_eq_true rfl)
        · skip
          have k110 : ¬ ((Int32.toInt x0) < 32) := fun h_9 => c7 ((fa_lt x0 32).mpr h_9)
          refine r_iload_n 78 1 C dX12_operand_78 rfl ?_
          refine r_sipush 79 246 C dX12_operand_79 (by decide) ?_
          refine r_icmp_gt 82 92 C dX12_operand_82 (by decide) (fun c111 => ?_) (fun c111 => ?_)
          · skip
            have k112 : 246 < (Int32.toInt x0) := (fa_lt 246 x0).mp c111
            refine r_iload_n 92 1 C dX12_operand_92 rfl ?_
            refine r_sipush 93 247 C dX12_operand_93 (by decide) ?_
            refine r_icmp_lt_f 96 125 C dX12_operand_96 (by decide) (fun h_9 => by have h_8 : (Int32.toInt x0) < 247 := (fa_lt x0 247).mp h_9; omega) ?_
            refine r_iload_n 99 1 C dX12_operand_99 rfl ?_
            refine r_sipush 100 250 C dX12_operand_100 (by decide) ?_
            refine r_icmp_gt 103 125 C dX12_operand_103 (by decide) (fun c113 => ?_) (fun c113 => ?_)
            · skip
              have k114 : 250 < (Int32.toInt x0) := (fa_lt 250 x0).mp c113
              refine r_iload_n 125 1 C dX12_operand_125 rfl ?_
              refine r_sipush 126 251 C dX12_operand_126 (by decide) ?_
              refine r_icmp_lt_f 129 159 C dX12_operand_129 (by decide) (fun h_9 => by have h_8 : (Int32.toInt x0) < 251 := (fa_lt x0 251).mp h_9; omega) ?_
              refine r_iload_n 132 1 C dX12_operand_132 rfl ?_
              refine r_sipush 133 254 C dX12_operand_133 (by decide) ?_
              refine r_icmp_gt 136 159 C dX12_operand_136 (by decide) (fun c115 => ?_) (fun c115 => ?_)
              · skip
                have k116 : 254 < (Int32.toInt x0) := (fa_lt 254 x0).mp c115
                refine r_iload_n 159 1 C dX12_operand_159 rfl ?_
                refine r_bipush 160 30 C dX12_operand_160 (by decide) ?_
                refine r_icmp_eq_f 162 169 C dX12_operand_162 (by decide) (fun h_9 => by have h_8 : (Int32.toInt x0) = 30 := (fa_eq x0 30).mp h_9; omega) ?_
                refine r_iconst 165 1 C dX12_operand_165 (by decide) ?_
                refine r_goto 166 170 C dX12_operand_166 (by decide) ?_
                refine r_istore_n 170 C dX12_operand_170 [(2, .int 1), (0, .ref h0), (1, .int x0)] (by decide) rfl ?_
                refine r_iload_n 171 0 C dX12_operand_171 rfl ?_
                refine r_if_eq_f 172 189 C dX12_operand_172 (by decide) (by decide) ?_
                refine r_aload_n 175 1 C dX12_operand_175 rfl ?_
                refine r_iconst 176 2 C dX12_operand_176 (by decide) ?_
                refine r_callVi 177 C dX12_operand_177 [] [(h0, .inr (11, [.ref h1, .int x1, .ref h2, .int x2, .int x3, .int x4, .ref h3, .ref h4, .ref h5, .ref h6, .int x5, .int x6, .int x7, .ref h7, .ref h8, .ref h9, .ref h10, .int x8, .int x9, .int x10, .long y0, .int x11, .int x12, .long y1, .long y2, .ref h11, .ref h12, .ref h13, .ref h14, .long y3, .int 0, .ref h15, .int x14, .int x15, .int x16, .int x17, .ref h16, .ref h17, .ref h18, .ref h19, .ref h20, .ref h21, .ref h22, .ref h23, .ref h24, .ref h25, .ref h26, .int x18, .int x19, .int x20, .int x21, .int x22, .int x23, .int x24, .long y4, .int x25, .ref h27, .ref h28, .long y5, .long y6, .int x26, .ref h29, .int x27, .ref h30, .ref h31, .ref h32, .ref h33, .int x28, .int x29, .int x30, .int x31, .ref h34, .ref h35, .int x32, .int x33, .ref h36]))] [(h1, .inl (gB g, 1500, .inl fn0))] (fun sz => c17_X12_fails l g h0 2 h1 x1 h2 x2 x3 x4 h3 h4 h5 h6 x5 x6 x7 h7 h8 h9 h10 x8 x9 x10 y0 x11 x12 y1 y2 h11 h12 h13 h14 y3 0 h15 x14 x15 x16 x17 h16 h17 h18 h19 h20 h21 h22 h23 h24 h25 h26 x18 x19 x20 x21 x22 x23 x24 y4 x25 h27 h28 y5 y6 x26 h29 x27 h30 h31 h32 h33 x28 x29 x30 x31 h34 h35 x32 x33 h36 (by decide) i_x1 i_x2 i_x4 i_x7 i_x8 i_x11 i_x12 i_y1 i_y2 (by decide) i_x14 i_x15 i_x16 i_x17 i_x19 i_x20 i_x21 i_x22 i_x23 i_x25 i_x26 i_x27 i_x28 i_x29 i_x30 i_x31 i_x32 i_x33 sz) gX12_operand_X12_fails rfl ⟨rfl, rfl⟩ 1 (by decide) ⟨Nat.le_of_ble_eq_true rfl, Nat.le_of_ble_eq_true rfl⟩ 0 rfl rfl [0] [1] rfl rfl (by decide) (by decide) (by decide) rfl rfl (Nat.le_of_ble_eq_true rfl) ⟨Nat.le_of_ble_eq_true rfl, Nat.le_of_ble_eq_true rfl⟩ (fun r118 z117 w119 => ?_)
                refine r_ws [(h1, .inl (gB g, 1500, .inl fn0)), (h0, .inr (11, [.ref h1, .int x1, .ref h2, .int x2, .int x3, .int x4, .ref h3, .ref h4, .ref h5, .ref h6, .int x5, .int x6, .int z117, .ref h7, .ref h8, .ref h9, .ref h10, .int x8, .int x9, .int x10, .long y0, .int x11, .int x12, .long y1, .long y2, .ref h11, .ref h12, .ref h13, .ref h14, .long y3, .int 0, .ref h15, .int x14, .int x15, .int x16, .int x17, .ref h16, .ref h17, .ref h18, .ref h19, .ref h20, .ref h21, .ref h22, .ref h23, .ref h24, .ref h25, .ref h26, .int x18, .int x19, .int x20, .int x21, .int x22, .int x23, .int x24, .long y4, .int x25, .ref h27, .ref h28, .long y5, .long y6, .int x26, .ref h29, .int x27, .ref h30, .ref h31, .ref h32, .ref h33, .int x28, .int x29, .int x30, .int x31, .ref h34, .ref h35, .int x32, .int x33, .ref h36]))] rfl ?_
                have p120 : 0 = r118 := (w119.1).symm
                subst p120
                have p121 : 0 ≤ (Int32.toInt z117) := w119.2.1
                have p122 : (Int32.toInt z117) ≤ 3 := w119.2.2.1
                have p123 : (1 ≤ (Int32.toInt z117)) := w119.2.2.2
                refine r_if_eq_t 180 187 C dX12_operand_180 (by decide) (by decide) ?_
                refine r_lconst 187 0 C dX12_operand_187 (by decide) ?_
                exact r_lret 188 Rt dX12_operand_188 (z117, y0, 0) (show -2147483648 ≤ (Int64.toInt 0) ∧ (Int64.toInt 0) ≤ 2147483647 ∧ 0 ≤ (Int32.toInt z117) ∧ (Int32.toInt z117) ≤ 3 ∧ 0 ≤ (Int64.toInt y0) ∧ (Int64.toInt y0) ≤ 1500 ∧ 0 ≤ (Int32.toInt 0) ∧ (Int32.toInt 0) ≤ 1 ∧ ((1 ≤ (Int32.toInt z117)) ∨ ((Int32.toInt x7) = 0 ∧ (Int32.toInt z117) = 0 ∧ (Int64.toInt y0) ≤ (Int64.toInt y0))) from ⟨(by decide), (by decide), (show _ ∧ _ from ⟨p121, p122⟩).1, (show _ ∧ _ from ⟨p121, p122⟩).2, i_y0.1, i_y0.2, (by decide), (by decide), (by first | omega | ((repeat' apply And.intro) <;> first | trivial | rfl | assumption | omega | decide | exact Or.inl rfl | exact Or.inr (Or.inl rfl) | exact Or.inr (Or.inr rfl) | exact Or.inr (Or.inr (by assumption))))⟩) [1, 0] (by decide) rfl (Nat.le_of_ble_eq_true rfl) (Nat.le_of_ble_eq_true rfl)
              · skip
                have k124 : ¬ (254 < (Int32.toInt x0)) := fun h_9 => c115 ((fa_lt 254 x0).mpr h_9)
                refine r_iload_n 139 1 C dX12_operand_139 rfl ?_
                refine r_sipush 140 251 C dX12_operand_140 (by decide) ?_
                obtain ⟨z125, ez125⟩ : ∃ z_9, x0 - 251 = z_9 := ⟨_, rfl⟩
                have tz125 : (Int32.toInt z125) = (Int32.toInt x0) - 251 := by rw [← ez125]; exact fb_subIv (a := 0) (b := 255) (c := 251) (d := 251) i_x0 ⟨by decide, by decide⟩ (by decide) (by decide)
                refine r_isub 143 z125 C dX12_operand_143 ez125 ?_
                obtain ⟨z126, ez126⟩ : ∃ z_9, -z125 = z_9 := ⟨_, rfl⟩
                have tz126 : (Int32.toInt z126) = -(Int32.toInt z125) := by rw [← ez126]; exact neg_in (by omega)
                refine r_ineg 144 z126 C dX12_operand_144 ez126 ?_
                refine r_sipush 145 256 C dX12_operand_145 (by decide) ?_
                obtain ⟨z127, ez127⟩ : ∃ z_9, z126 * 256 = z_9 := ⟨_, rfl⟩
                have tz127 : (Int32.toInt z127) = (Int32.toInt z126) * 256 := by rw [← ez127]; exact fb_mulI (by show -2147483648 ≤ (Int32.toInt z126) * 256; omega) (by show (Int32.toInt z126) * 256 < 2147483648; omega)
                refine r_imul 148 z127 C dX12_operand_148 ez127 ?_
                refine r_aload_n 149 0 C dX12_operand_149 rfl ?_
                refine r_callVi 150 C dX12_operand_150 [.int z127] [(h0, .inr (11, [.ref h1, .int x1, .ref h2, .int x2, .int x3, .int x4, .ref h3, .ref h4, .ref h5, .ref h6, .int x5, .int x6, .int x7, .ref h7, .ref h8, .ref h9, .ref h10, .int x8, .int x9, .int x10, .long y0, .int x11, .int x12, .long y1, .long y2, .ref h11, .ref h12, .ref h13, .ref h14, .long y3, .int 0, .ref h15, .int x14, .int x15, .int x16, .int x17, .ref h16, .ref h17, .ref h18, .ref h19, .ref h20, .ref h21, .ref h22, .ref h23, .ref h24, .ref h25, .ref h26, .int x18, .int x19, .int x20, .int x21, .int x22, .int x23, .int x24, .long y4, .int x25, .ref h27, .ref h28, .long y5, .long y6, .int x26, .ref h29, .int x27, .ref h30, .ref h31, .ref h32, .ref h33, .int x28, .int x29, .int x30, .int x31, .ref h34, .ref h35, .int x32, .int x33, .ref h36])), (h1, .inl (gB g, 1500, .inl fn0))] [] (fun sz => c50_X12_dictByte l g h0 h1 x1 h2 x2 x3 x4 h3 h4 h5 h6 x5 x6 x7 h7 h8 h9 h10 x8 x9 x10 y0 x11 x12 y1 y2 h11 h12 h13 h14 y3 0 h15 x14 x15 x16 x17 h16 h17 h18 h19 h20 h21 h22 h23 h24 h25 h26 x18 x19 x20 x21 x22 x23 x24 y4 x25 h27 h28 y5 y6 x26 h29 x27 h30 h31 h32 h33 x28 x29 x30 x31 h34 h35 x32 x33 h36 fn0 i_x1 i_x2 i_x4 i_x7 i_x8 i_y0 i_x11 i_x12 i_y1 i_y2 i_y3 (by decide) i_x14 i_x15 i_x16 i_x17 i_x19 i_x20 i_x21 i_x22 i_x23 i_x25 i_x26 i_x27 i_x28 i_x29 i_x30 i_x31 i_x32 i_x33 sz) gX12_operand_X12_dictByte rfl ⟨rfl, rfl⟩ 0 (by decide) ⟨Nat.le_of_ble_eq_true rfl, Nat.le_of_ble_eq_true rfl⟩ 0 rfl rfl [0, 1] [] rfl rfl (by decide) (by decide) (by decide) rfl rfl (Nat.le_of_ble_eq_true rfl) ⟨Nat.le_of_ble_eq_true rfl, Nat.le_of_ble_eq_true rfl⟩ (fun r130 u132 w131 => ?_)
                obtain ⟨z128, z129⟩ := u132
                refine r_ws [(h0, .inr (11, [.ref h1, .int x1, .ref h2, .int x2, .int x3, .int x4, .ref h3, .ref h4, .ref h5, .ref h6, .int x5, .int x6, .int z128, .ref h7, .ref h8, .ref h9, .ref h10, .int x8, .int x9, .int x10, .long z129, .int x11, .int x12, .long y1, .long y2, .ref h11, .ref h12, .ref h13, .ref h14, .long y3, .int 0, .ref h15, .int x14, .int x15, .int x16, .int x17, .ref h16, .ref h17, .ref h18, .ref h19, .ref h20, .ref h21, .ref h22, .ref h23, .ref h24, .ref h25, .ref h26, .int x18, .int x19, .int x20, .int x21, .int x22, .int x23, .int x24, .long y4, .int x25, .ref h27, .ref h28, .long y5, .long y6, .int x26, .ref h29, .int x27, .ref h30, .ref h31, .ref h32, .ref h33, .int x28, .int x29, .int x30, .int x31, .ref h34, .ref h35, .int x32, .int x33, .ref h36])), (h1, .inl (gB g, 1500, .inl fn0))] rfl ?_
                have p133 : 0 ≤ (Int32.toInt r130) := w131.1
                have p134 : (Int32.toInt r130) ≤ 255 := w131.2.1
                have p135 : 0 ≤ (Int32.toInt z128) := w131.2.2.1
                have p136 : (Int32.toInt z128) ≤ 3 := w131.2.2.2.1
                have p137 : 0 ≤ (Int64.toInt z129) := w131.2.2.2.2.1
                have p138 : (Int64.toInt z129) ≤ 1500 := w131.2.2.2.2.2.1
                have p139 : ((1 ≤ (Int32.toInt z128) ∧ (Int64.toInt z129) = (Int64.toInt y0)) ∨ ((Int32.toInt x7) = 0 ∧ (Int32.toInt z128) = 0 ∧ (Int64.toInt z129) = (Int64.toInt y0) + 1 ∧ (Int64.toInt y0) < (Int64.toInt y3))) := w131.2.2.2.2.2.2
                rcases p139 with ⟨k140, k141⟩ | p139
                · skip
                  obtain ⟨z142, ez142⟩ : ∃ z_9, z127 - r130 = z_9 := ⟨_, rfl⟩
                  have tz142 : (Int32.toInt z142) = (Int32.toInt z127) - (Int32.toInt r130) := by rw [← ez142]; exact fb_subI (by show -2147483648 ≤ (Int32.toInt z127) - (Int32.toInt r130); omega) (by show (Int32.toInt z127) - (Int32.toInt r130) < 2147483648; omega)
                  refine r_isub 153 z142 C dX12_operand_153 ez142 ?_
                  refine r_bipush 154 108 C dX12_operand_154 (by decide) ?_
                  obtain ⟨z143, ez143⟩ : ∃ z_9, z142 - 108 = z_9 := ⟨_, rfl⟩
                  have tz143 : (Int32.toInt z143) = (Int32.toInt z142) - 108 := by rw [← ez143]; exact fb_subI (by show -2147483648 ≤ (Int32.toInt z142) - 108; omega) (by show (Int32.toInt z142) - 108 < 2147483648; omega)
                  refine r_isub 156 z143 C dX12_operand_156 ez143 ?_
                  obtain ⟨z144, ez144⟩ : ∃ z_9, Int32.toInt64 z143 = z_9 := ⟨_, rfl⟩
                  have tz144 : (Int64.toInt z144) = (Int32.toInt z143) := by rw [← ez144]; exact Int32.toInt_toInt64 _
                  refine r_i2l 157 z144 C dX12_operand_157 ez144 ?_
                  exact r_lret 158 Rt dX12_operand_158 (z128, z129, 0) (show -2147483648 ≤ (Int64.toInt z144) ∧ (Int64.toInt z144) ≤ 2147483647 ∧ 0 ≤ (Int32.toInt z128) ∧ (Int32.toInt z128) ≤ 3 ∧ 0 ≤ (Int64.toInt z129) ∧ (Int64.toInt z129) ≤ 1500 ∧ 0 ≤ (Int32.toInt 0) ∧ (Int32.toInt 0) ≤ 1 ∧ ((1 ≤ (Int32.toInt z128)) ∨ ((Int32.toInt x7) = 0 ∧ (Int32.toInt z128) = 0 ∧ (Int64.toInt y0) ≤ (Int64.toInt z129))) from ⟨(by first | omega | ((repeat' apply And.intro) <;> first | trivial | rfl | assumption | omega | decide | exact Or.inl rfl | exact Or.inr (Or.inl rfl) | exact Or.inr (Or.inr rfl) | exact Or.inr (Or.inr (by assumption)))), (by first | omega | ((repeat' apply And.intro) <;> first | trivial | rfl | assumption | omega | decide | exact Or.inl rfl | exact Or.inr (Or.inl rfl) | exact Or.inr (Or.inr rfl) | exact Or.inr (Or.inr (by assumption)))), (show _ ∧ _ from ⟨p135, p136⟩).1, (show _ ∧ _ from ⟨p135, p136⟩).2, (show _ ∧ _ from ⟨p137, p138⟩).1, (show _ ∧ _ from ⟨p137, p138⟩).2, (by decide), (by decide), (by first | omega | ((repeat' apply And.intro) <;> first | trivial | rfl | assumption | omega | decide | exact Or.inl rfl | exact Or.inr (Or.inl rfl) | exact Or.inr (Or.inr rfl) | exact Or.inr (Or.inr (by assumption))))⟩) [0, 1] (by decide) rfl (Nat.le_of_ble_eq_true rfl) (Nat.le_of_ble_eq_true rfl)
                obtain ⟨k145, k146, k147, k148⟩ := p139
                obtain ⟨z149, ez149⟩ : ∃ z_9, z127 - r130 = z_9 := ⟨_, rfl⟩
                have tz149 : (Int32.toInt z149) = (Int32.toInt z127) - (Int32.toInt r130) := by rw [← ez149]; exact fb_subI (by show -2147483648 ≤ (Int32.toInt z127) - (Int32.toInt r130); omega) (by show (Int32.toInt z127) - (Int32.toInt r130) < 2147483648; omega)
                refine r_isub 153 z149 C dX12_operand_153 ez149 ?_
                refine r_bipush 154 108 C dX12_operand_154 (by decide) ?_
                obtain ⟨z150, ez150⟩ : ∃ z_9, z149 - 108 = z_9 := ⟨_, rfl⟩
                have tz150 : (Int32.toInt z150) = (Int32.toInt z149) - 108 := by rw [← ez150]; exact fb_subI (by show -2147483648 ≤ (Int32.toInt z149) - 108; omega) (by show (Int32.toInt z149) - 108 < 2147483648; omega)
                refine r_isub 156 z150 C dX12_operand_156 ez150 ?_
                obtain ⟨z151, ez151⟩ : ∃ z_9, Int32.toInt64 z150 = z_9 := ⟨_, rfl⟩
                have tz151 : (Int64.toInt z151) = (Int32.toInt z150) := by rw [← ez151]; exact Int32.toInt_toInt64 _
                refine r_i2l 157 z151 C dX12_operand_157 ez151 ?_
                exact r_lret 158 Rt dX12_operand_158 (z128, z129, 0) (show -2147483648 ≤ (Int64.toInt z151) ∧ (Int64.toInt z151) ≤ 2147483647 ∧ 0 ≤ (Int32.toInt z128) ∧ (Int32.toInt z128) ≤ 3 ∧ 0 ≤ (Int64.toInt z129) ∧ (Int64.toInt z129) ≤ 1500 ∧ 0 ≤ (Int32.toInt 0) ∧ (Int32.toInt 0) ≤ 1 ∧ ((1 ≤ (Int32.toInt z128)) ∨ ((Int32.toInt x7) = 0 ∧ (Int32.toInt z128) = 0 ∧ (Int64.toInt y0) ≤ (Int64.toInt z129))) from ⟨(by first | omega | ((repeat' apply And.intro) <;> first | trivial | rfl | assumption | omega | decide | exact Or.inl rfl | exact Or.inr (Or.inl rfl) | exact Or.inr (Or.inr rfl) | exact Or.inr (Or.inr (by assumption)))), (by first | omega | ((repeat' apply And.intro) <;> first | trivial | rfl | assumption | omega | decide | exact Or.inl rfl | exact Or.inr (Or.inl rfl) | exact Or.inr (Or.inr rfl) | exact Or.inr (Or.inr (by assumption)))), (show _ ∧ _ from ⟨p135, p136⟩).1, (show _ ∧ _ from ⟨p135, p136⟩).2, (show _ ∧ _ from ⟨p137, p138⟩).1, (show _ ∧ _ from ⟨p137, p138⟩).2, (by decide), (by decide), (by first | omega | ((repeat' apply And.intro) <;> first | trivial | rfl | assumption | omega | decide | exact Or.inl rfl | exact Or.inr (Or.inl rfl) | exact Or.inr (Or.inr rfl) | exact Or.inr (Or.inr (by assumption))))⟩) [0, 1] (by decide) rfl (Nat.le_of_ble_eq_true rfl) (Nat.le_of_ble_eq_true rfl)
            · skip
              have k152 : ¬ (250 < (Int32.toInt x0)) := fun h_9 => c113 ((fa_lt 250 x0).mpr h_9)
              refine r_iload_n 106 1 C dX12_operand_106 rfl ?_
              refine r_sipush 107 247 C dX12_operand_107 (by decide) ?_
              obtain ⟨z153, ez153⟩ : ∃ z_9, x0 - 247 = z_9 := ⟨_, rfl⟩
              have tz153 : (Int32.toInt z153) = (Int32.toInt x0) - 247 := by rw [← ez153]; exact fb_subIv (a := 0) (b := 255) (c := 247) (d := 247) i_x0 ⟨by decide, by decide⟩ (by decide) (by decide)
              refine r_isub 110 z153 C dX12_operand_110 ez153 ?_
              refine r_sipush 111 256 C dX12_operand_111 (by decide) ?_
              obtain ⟨z154, ez154⟩ : ∃ z_9, z153 * 256 = z_9 := ⟨_, rfl⟩
              have tz154 : (Int32.toInt z154) = (Int32.toInt z153) * 256 := by rw [← ez154]; exact fb_mulIv (a := (-247)) (b := 8) (c := 256) (iv_wide (c := (-247)) (d := 8) (iv_sub (a := 0) (b := 255) (c := 247) (d := 247) i_x0 ⟨by decide, by decide⟩ tz153) (by decide) (by decide)) (by decide) (by decide) (by decide) (by decide)
              refine r_imul 114 z154 C dX12_operand_114 ez154 ?_
              refine r_aload_n 115 0 C dX12_operand_115 rfl ?_
              refine r_callVi 116 C dX12_operand_116 [.int z154] [(h0, .inr (11, [.ref h1, .int x1, .ref h2, .int x2, .int x3, .int x4, .ref h3, .ref h4, .ref h5, .ref h6, .int x5, .int x6, .int x7, .ref h7, .ref h8, .ref h9, .ref h10, .int x8, .int x9, .int x10, .long y0, .int x11, .int x12, .long y1, .long y2, .ref h11, .ref h12, .ref h13, .ref h14, .long y3, .int 0, .ref h15, .int x14, .int x15, .int x16, .int x17, .ref h16, .ref h17, .ref h18, .ref h19, .ref h20, .ref h21, .ref h22, .ref h23, .ref h24, .ref h25, .ref h26, .int x18, .int x19, .int x20, .int x21, .int x22, .int x23, .int x24, .long y4, .int x25, .ref h27, .ref h28, .long y5, .long y6, .int x26, .ref h29, .int x27, .ref h30, .ref h31, .ref h32, .ref h33, .int x28, .int x29, .int x30, .int x31, .ref h34, .ref h35, .int x32, .int x33, .ref h36])), (h1, .inl (gB g, 1500, .inl fn0))] [] (fun sz => c50_X12_dictByte l g h0 h1 x1 h2 x2 x3 x4 h3 h4 h5 h6 x5 x6 x7 h7 h8 h9 h10 x8 x9 x10 y0 x11 x12 y1 y2 h11 h12 h13 h14 y3 0 h15 x14 x15 x16 x17 h16 h17 h18 h19 h20 h21 h22 h23 h24 h25 h26 x18 x19 x20 x21 x22 x23 x24 y4 x25 h27 h28 y5 y6 x26 h29 x27 h30 h31 h32 h33 x28 x29 x30 x31 h34 h35 x32 x33 h36 fn0 i_x1 i_x2 i_x4 i_x7 i_x8 i_y0 i_x11 i_x12 i_y1 i_y2 i_y3 (by decide) i_x14 i_x15 i_x16 i_x17 i_x19 i_x20 i_x21 i_x22 i_x23 i_x25 i_x26 i_x27 i_x28 i_x29 i_x30 i_x31 i_x32 i_x33 sz) gX12_operand_X12_dictByte rfl ⟨rfl, rfl⟩ 0 (by decide) ⟨Nat.le_of_ble_eq_true rfl, Nat.le_of_ble_eq_true rfl⟩ 0 rfl rfl [0, 1] [] rfl rfl (by decide) (by decide) (by decide) rfl rfl (Nat.le_of_ble_eq_true rfl) ⟨Nat.le_of_ble_eq_true rfl, Nat.le_of_ble_eq_true rfl⟩ (fun r157 u159 w158 => ?_)
              obtain ⟨z155, z156⟩ := u159
              refine r_ws [(h0, .inr (11, [.ref h1, .int x1, .ref h2, .int x2, .int x3, .int x4, .ref h3, .ref h4, .ref h5, .ref h6, .int x5, .int x6, .int z155, .ref h7, .ref h8, .ref h9, .ref h10, .int x8, .int x9, .int x10, .long z156, .int x11, .int x12, .long y1, .long y2, .ref h11, .ref h12, .ref h13, .ref h14, .long y3, .int 0, .ref h15, .int x14, .int x15, .int x16, .int x17, .ref h16, .ref h17, .ref h18, .ref h19, .ref h20, .ref h21, .ref h22, .ref h23, .ref h24, .ref h25, .ref h26, .int x18, .int x19, .int x20, .int x21, .int x22, .int x23, .int x24, .long y4, .int x25, .ref h27, .ref h28, .long y5, .long y6, .int x26, .ref h29, .int x27, .ref h30, .ref h31, .ref h32, .ref h33, .int x28, .int x29, .int x30, .int x31, .ref h34, .ref h35, .int x32, .int x33, .ref h36])), (h1, .inl (gB g, 1500, .inl fn0))] rfl ?_
              have p160 : 0 ≤ (Int32.toInt r157) := w158.1
              have p161 : (Int32.toInt r157) ≤ 255 := w158.2.1
              have p162 : 0 ≤ (Int32.toInt z155) := w158.2.2.1
              have p163 : (Int32.toInt z155) ≤ 3 := w158.2.2.2.1
              have p164 : 0 ≤ (Int64.toInt z156) := w158.2.2.2.2.1
              have p165 : (Int64.toInt z156) ≤ 1500 := w158.2.2.2.2.2.1
              have p166 : ((1 ≤ (Int32.toInt z155) ∧ (Int64.toInt z156) = (Int64.toInt y0)) ∨ ((Int32.toInt x7) = 0 ∧ (Int32.toInt z155) = 0 ∧ (Int64.toInt z156) = (Int64.toInt y0) + 1 ∧ (Int64.toInt y0) < (Int64.toInt y3))) := w158.2.2.2.2.2.2
              rcases p166 with ⟨k167, k168⟩ | p166
              · skip
                obtain ⟨z169, ez169⟩ : ∃ z_9, z154 + r157 = z_9 := ⟨_, rfl⟩
                have tz169 : (Int32.toInt z169) = (Int32.toInt z154) + (Int32.toInt r157) := by rw [← ez169]; exact fb_addIv (a := (-63232)) (b := 2048) (c := 0) (d := 255) (iv_wide (c := (-63232)) (d := 2048) (iv_mul (a := (-247)) (b := 8) (c := 256) (iv_wide (c := (-247)) (d := 8) (iv_sub (a := 0) (b := 255) (c := 247) (d := 247) i_x0 ⟨by decide, by decide⟩ tz153) (by decide) (by decide)) (by decide) tz154) (by decide) (by decide)) ⟨p160, p161⟩ (by decide) (by decide)
                refine r_iadd 119 z169 C dX12_operand_119 ez169 ?_
                refine r_bipush 120 108 C dX12_operand_120 (by decide) ?_
                obtain ⟨z170, ez170⟩ : ∃ z_9, z169 + 108 = z_9 := ⟨_, rfl⟩
                have tz170 : (Int32.toInt z170) = (Int32.toInt z169) + 108 := by rw [← ez170]; exact fb_addI (by show -2147483648 ≤ (Int32.toInt z169) + 108; omega) (by show (Int32.toInt z169) + 108 < 2147483648; omega)
                refine r_iadd 122 z170 C dX12_operand_122 ez170 ?_
                obtain ⟨z171, ez171⟩ : ∃ z_9, Int32.toInt64 z170 = z_9 := ⟨_, rfl⟩
                have tz171 : (Int64.toInt z171) = (Int32.toInt z170) := by rw [← ez171]; exact Int32.toInt_toInt64 _
                refine r_i2l 123 z171 C dX12_operand_123 ez171 ?_
                exact r_lret 124 Rt dX12_operand_124 (z155, z156, 0) (show -2147483648 ≤ (Int64.toInt z171) ∧ (Int64.toInt z171) ≤ 2147483647 ∧ 0 ≤ (Int32.toInt z155) ∧ (Int32.toInt z155) ≤ 3 ∧ 0 ≤ (Int64.toInt z156) ∧ (Int64.toInt z156) ≤ 1500 ∧ 0 ≤ (Int32.toInt 0) ∧ (Int32.toInt 0) ≤ 1 ∧ ((1 ≤ (Int32.toInt z155)) ∨ ((Int32.toInt x7) = 0 ∧ (Int32.toInt z155) = 0 ∧ (Int64.toInt y0) ≤ (Int64.toInt z156))) from ⟨(by first | omega | ((repeat' apply And.intro) <;> first | trivial | rfl | assumption | omega | decide | exact Or.inl rfl | exact Or.inr (Or.inl rfl) | exact Or.inr (Or.inr rfl) | exact Or.inr (Or.inr (by assumption)))), (by first | omega | ((repeat' apply And.intro) <;> first | trivial | rfl | assumption | omega | decide | exact Or.inl rfl | exact Or.inr (Or.inl rfl) | exact Or.inr (Or.inr rfl) | exact Or.inr (Or.inr (by assumption)))), (show _ ∧ _ from ⟨p162, p163⟩).1, (show _ ∧ _ from ⟨p162, p163⟩).2, (show _ ∧ _ from ⟨p164, p165⟩).1, (show _ ∧ _ from ⟨p164, p165⟩).2, (by decide), (by decide), (by first | omega | ((repeat' apply And.intro) <;> first | trivial | rfl | assumption | omega | decide | exact Or.inl rfl | exact Or.inr (Or.inl rfl) | exact Or.inr (Or.inr rfl) | exact Or.inr (Or.inr (by assumption))))⟩) [0, 1] (by decide) rfl (Nat.le_of_ble_eq_true rfl) (Nat.le_of_ble_eq_true rfl)
              obtain ⟨k172, k173, k174, k175⟩ := p166
              obtain ⟨z176, ez176⟩ : ∃ z_9, z154 + r157 = z_9 := ⟨_, rfl⟩
              have tz176 : (Int32.toInt z176) = (Int32.toInt z154) + (Int32.toInt r157) := by rw [← ez176]; exact fb_addIv (a := (-63232)) (b := 2048) (c := 0) (d := 255) (iv_wide (c := (-63232)) (d := 2048) (iv_mul (a := (-247)) (b := 8) (c := 256) (iv_wide (c := (-247)) (d := 8) (iv_sub (a := 0) (b := 255) (c := 247) (d := 247) i_x0 ⟨by decide, by decide⟩ tz153) (by decide) (by decide)) (by decide) tz154) (by decide) (by decide)) ⟨p160, p161⟩ (by decide) (by decide)
              refine r_iadd 119 z176 C dX12_operand_119 ez176 ?_
              refine r_bipush 120 108 C dX12_operand_120 (by decide) ?_
              obtain ⟨z177, ez177⟩ : ∃ z_9, z176 + 108 = z_9 := ⟨_, rfl⟩
              have tz177 : (Int32.toInt z177) = (Int32.toInt z176) + 108 := by rw [← ez177]; exact fb_addI (by show -2147483648 ≤ (Int32.toInt z176) + 108; omega) (by show (Int32.toInt z176) + 108 < 2147483648; omega)
              refine r_iadd 122 z177 C dX12_operand_122 ez177 ?_
              obtain ⟨z178, ez178⟩ : ∃ z_9, Int32.toInt64 z177 = z_9 := ⟨_, rfl⟩
              have tz178 : (Int64.toInt z178) = (Int32.toInt z177) := by rw [← ez178]; exact Int32.toInt_toInt64 _
              refine r_i2l 123 z178 C dX12_operand_123 ez178 ?_
              exact r_lret 124 Rt dX12_operand_124 (z155, z156, 0) (show -2147483648 ≤ (Int64.toInt z178) ∧ (Int64.toInt z178) ≤ 2147483647 ∧ 0 ≤ (Int32.toInt z155) ∧ (Int32.toInt z155) ≤ 3 ∧ 0 ≤ (Int64.toInt z156) ∧ (Int64.toInt z156) ≤ 1500 ∧ 0 ≤ (Int32.toInt 0) ∧ (Int32.toInt 0) ≤ 1 ∧ ((1 ≤ (Int32.toInt z155)) ∨ ((Int32.toInt x7) = 0 ∧ (Int32.toInt z155) = 0 ∧ (Int64.toInt y0) ≤ (Int64.toInt z156))) from ⟨(by first | omega | ((repeat' apply And.intro) <;> first | trivial | rfl | assumption | omega | decide | exact Or.inl rfl | exact Or.inr (Or.inl rfl) | exact Or.inr (Or.inr rfl) | exact Or.inr (Or.inr (by assumption)))), (by first | omega | ((repeat' apply And.intro) <;> first | trivial | rfl | assumption | omega | decide | exact Or.inl rfl | exact Or.inr (Or.inl rfl) | exact Or.inr (Or.inr rfl) | exact Or.inr (Or.inr (by assumption)))), (show _ ∧ _ from ⟨p162, p163⟩).1, (show _ ∧ _ from ⟨p162, p163⟩).2, (show _ ∧ _ from ⟨p164, p165⟩).1, (show _ ∧ _ from ⟨p164, p165⟩).2, (by decide), (by decide), (by first | omega | ((repeat' apply And.intro) <;> first | trivial | rfl | assumption | omega | decide | exact Or.inl rfl | exact Or.inr (Or.inl rfl) | exact Or.inr (Or.inr rfl) | exact Or.inr (Or.inr (by assumption))))⟩) [0, 1] (by decide) rfl (Nat.le_of_ble_eq_true rfl) (Nat.le_of_ble_eq_true rfl)
          · skip
            have k179 : ¬ (246 < (Int32.toInt x0)) := fun h_9 => c111 ((fa_lt 246 x0).mpr h_9)
            refine r_iload_n 85 1 C dX12_operand_85 rfl ?_
            refine r_sipush 86 139 C dX12_operand_86 (by decide) ?_
            obtain ⟨z180, ez180⟩ : ∃ z_9, x0 - 139 = z_9 := ⟨_, rfl⟩
            have tz180 : (Int32.toInt z180) = (Int32.toInt x0) - 139 := by rw [← ez180]; exact fb_subIv (a := 0) (b := 255) (c := 139) (d := 139) i_x0 ⟨by decide, by decide⟩ (by decide) (by decide)
            refine r_isub 89 z180 C dX12_operand_89 ez180 ?_
            obtain ⟨z181, ez181⟩ : ∃ z_9, Int32.toInt64 z180 = z_9 := ⟨_, rfl⟩
            have tz181 : (Int64.toInt z181) = (Int32.toInt z180) := by rw [← ez181]; exact Int32.toInt_toInt64 _
            refine r_i2l 90 z181 C dX12_operand_90 ez181 ?_
            exact r_lret 91 Rt dX12_operand_91 (x7, y0, 0) (show -2147483648 ≤ (Int64.toInt z181) ∧ (Int64.toInt z181) ≤ 2147483647 ∧ 0 ≤ (Int32.toInt x7) ∧ (Int32.toInt x7) ≤ 3 ∧ 0 ≤ (Int64.toInt y0) ∧ (Int64.toInt y0) ≤ 1500 ∧ 0 ≤ (Int32.toInt 0) ∧ (Int32.toInt 0) ≤ 1 ∧ ((1 ≤ (Int32.toInt x7)) ∨ ((Int32.toInt x7) = 0 ∧ (Int32.toInt x7) = 0 ∧ (Int64.toInt y0) ≤ (Int64.toInt y0))) from ⟨(iv_wide (c := (-2147483648)) (d := 2147483647) (iv_eq (iv_wide (c := (-139)) (d := 116) (iv_sub (a := 0) (b := 255) (c := 139) (d := 139) i_x0 ⟨by decide, by decide⟩ tz180) (by decide) (by decide)) tz181) (by decide) (by decide)).1, (iv_wide (c := (-2147483648)) (d := 2147483647) (iv_eq (iv_wide (c := (-139)) (d := 116) (iv_sub (a := 0) (b := 255) (c := 139) (d := 139) i_x0 ⟨by decide, by decide⟩ tz180) (by decide) (by decide)) tz181) (by decide) (by decide)).2, i_x7.1, i_x7.2, i_y0.1, i_y0.2, (by decide), (by decide), (by first | omega | ((repeat' apply And.intro) <;> first | trivial | rfl | assumption | omega | decide | exact Or.inl rfl | exact Or.inr (Or.inl rfl) | exact Or.inr (Or.inr rfl) | exact Or.inr (Or.inr (by assumption))))⟩) [0, 1] (by decide) rfl (Nat.le_of_ble_eq_true rfl) (Nat.le_of_ble_eq_true rfl)
      · skip
        have k182 : (Int32.toInt x0) = 29 := (fa_eq x0 29).mp c5
        refine r_aload_n 42 0 C dX12_operand_42 rfl ?_
        refine r_callVi 43 C dX12_operand_43 [] [(h0, .inr (11, [.ref h1, .int x1, .ref h2, .int x2, .int x3, .int x4, .ref h3, .ref h4, .ref h5, .ref h6, .int x5, .int x6, .int x7, .ref h7, .ref h8, .ref h9, .ref h10, .int x8, .int x9, .int x10, .long y0, .int x11, .int x12, .long y1, .long y2, .ref h11, .ref h12, .ref h13, .ref h14, .long y3, .int 0, .ref h15, .int x14, .int x15, .int x16, .int x17, .ref h16, .ref h17, .ref h18, .ref h19, .ref h20, .ref h21, .ref h22, .ref h23, .ref h24, .ref h25, .ref h26, .int x18, .int x19, .int x20, .int x21, .int x22, .int x23, .int x24, .long y4, .int x25, .ref h27, .ref h28, .long y5, .long y6, .int x26, .ref h29, .int x27, .ref h30, .ref h31, .ref h32, .ref h33, .int x28, .int x29, .int x30, .int x31, .ref h34, .ref h35, .int x32, .int x33, .ref h36])), (h1, .inl (gB g, 1500, .inl fn0))] [] (fun sz => c50_X12_dictByte l g h0 h1 x1 h2 x2 x3 x4 h3 h4 h5 h6 x5 x6 x7 h7 h8 h9 h10 x8 x9 x10 y0 x11 x12 y1 y2 h11 h12 h13 h14 y3 0 h15 x14 x15 x16 x17 h16 h17 h18 h19 h20 h21 h22 h23 h24 h25 h26 x18 x19 x20 x21 x22 x23 x24 y4 x25 h27 h28 y5 y6 x26 h29 x27 h30 h31 h32 h33 x28 x29 x30 x31 h34 h35 x32 x33 h36 fn0 i_x1 i_x2 i_x4 i_x7 i_x8 i_y0 i_x11 i_x12 i_y1 i_y2 i_y3 (by decide) i_x14 i_x15 i_x16 i_x17 i_x19 i_x20 i_x21 i_x22 i_x23 i_x25 i_x26 i_x27 i_x28 i_x29 i_x30 i_x31 i_x32 i_x33 sz) gX12_operand_X12_dictByte rfl ⟨rfl, rfl⟩ 0 (by decide) ⟨Nat.le_of_ble_eq_true rfl, Nat.le_of_ble_eq_true rfl⟩ 0 rfl rfl [0, 1] [] rfl rfl (by decide) (by decide) (by decide) rfl rfl (Nat.le_of_ble_eq_true rfl) ⟨Nat.le_of_ble_eq_true rfl, Nat.le_of_ble_eq_true rfl⟩ (fun r185 u187 w186 => ?_)
        obtain ⟨z183, z184⟩ := u187
        refine r_ws [(h0, .inr (11, [.ref h1, .int x1, .ref h2, .int x2, .int x3, .int x4, .ref h3, .ref h4, .ref h5, .ref h6, .int x5, .int x6, .int z183, .ref h7, .ref h8, .ref h9, .ref h10, .int x8, .int x9, .int x10, .long z184, .int x11, .int x12, .long y1, .long y2, .ref h11, .ref h12, .ref h13, .ref h14, .long y3, .int 0, .ref h15, .int x14, .int x15, .int x16, .int x17, .ref h16, .ref h17, .ref h18, .ref h19, .ref h20, .ref h21, .ref h22, .ref h23, .ref h24, .ref h25, .ref h26, .int x18, .int x19, .int x20, .int x21, .int x22, .int x23, .int x24, .long y4, .int x25, .ref h27, .ref h28, .long y5, .long y6, .int x26, .ref h29, .int x27, .ref h30, .ref h31, .ref h32, .ref h33, .int x28, .int x29, .int x30, .int x31, .ref h34, .ref h35, .int x32, .int x33, .ref h36])), (h1, .inl (gB g, 1500, .inl fn0))] rfl ?_
        have p188 : 0 ≤ (Int32.toInt r185) := w186.1
        have p189 : (Int32.toInt r185) ≤ 255 := w186.2.1
        have p190 : 0 ≤ (Int32.toInt z183) := w186.2.2.1
        have p191 : (Int32.toInt z183) ≤ 3 := w186.2.2.2.1
        have p192 : 0 ≤ (Int64.toInt z184) := w186.2.2.2.2.1
        have p193 : (Int64.toInt z184) ≤ 1500 := w186.2.2.2.2.2.1
        have p194 : ((1 ≤ (Int32.toInt z183) ∧ (Int64.toInt z184) = (Int64.toInt y0)) ∨ ((Int32.toInt x7) = 0 ∧ (Int32.toInt z183) = 0 ∧ (Int64.toInt z184) = (Int64.toInt y0) + 1 ∧ (Int64.toInt y0) < (Int64.toInt y3))) := w186.2.2.2.2.2.2
        rcases p194 with ⟨k195, k196⟩ | p194
        · skip
          refine r_bipush 46 24 C dX12_operand_46 (by decide) ?_
          obtain ⟨z197, ez197⟩ : ∃ z_9, r185 <<< (24 &&& 31) = z_9 := ⟨_, rfl⟩
          have gz197 := fb_rng z197
          refine r_ishl 48 z197 C dX12_operand_48 ez197 ?_
          refine r_aload_n 49 0 C dX12_operand_49 rfl ?_
          refine r_callVi 50 C dX12_operand_50 [.int z197] [(h0, .inr (11, [.ref h1, .int x1, .ref h2, .int x2, .int x3, .int x4, .ref h3, .ref h4, .ref h5, .ref h6, .int x5, .int x6, .int z183, .ref h7, .ref h8, .ref h9, .ref h10, .int x8, .int x9, .int x10, .long z184, .int x11, .int x12, .long y1, .long y2, .ref h11, .ref h12, .ref h13, .ref h14, .long y3, .int 0, .ref h15, .int x14, .int x15, .int x16, .int x17, .ref h16, .ref h17, .ref h18, .ref h19, .ref h20, .ref h21, .ref h22, .ref h23, .ref h24, .ref h25, .ref h26, .int x18, .int x19, .int x20, .int x21, .int x22, .int x23, .int x24, .long y4, .int x25, .ref h27, .ref h28, .long y5, .long y6, .int x26, .ref h29, .int x27, .ref h30, .ref h31, .ref h32, .ref h33, .int x28, .int x29, .int x30, .int x31, .ref h34, .ref h35, .int x32, .int x33, .ref h36])), (h1, .inl (gB g, 1500, .inl fn0))] [] (fun sz => c50_X12_dictByte l g h0 h1 x1 h2 x2 x3 x4 h3 h4 h5 h6 x5 x6 z183 h7 h8 h9 h10 x8 x9 x10 z184 x11 x12 y1 y2 h11 h12 h13 h14 y3 0 h15 x14 x15 x16 x17 h16 h17 h18 h19 h20 h21 h22 h23 h24 h25 h26 x18 x19 x20 x21 x22 x23 x24 y4 x25 h27 h28 y5 y6 x26 h29 x27 h30 h31 h32 h33 x28 x29 x30 x31 h34 h35 x32 x33 h36 fn0 i_x1 i_x2 i_x4 ⟨p190, p191⟩ i_x8 ⟨p192, p193⟩ i_x11 i_x12 i_y1 i_y2 i_y3 (by decide) i_x14 i_x15 i_x16 i_x17 i_x19 i_x20 i_x21 i_x22 i_x23 i_x25 i_x26 i_x27 i_x28 i_x29 i_x30 i_x31 i_x32 i_x33 sz) gX12_operand_X12_dictByte rfl ⟨rfl, rfl⟩ 0 (by decide) ⟨Nat.le_of_ble_eq_true rfl, Nat.le_of_ble_eq_true rfl⟩ 0 rfl rfl [0, 1] [] rfl rfl (by decide) (by decide) (by decide) rfl rfl (Nat.le_of_ble_eq_true rfl) ⟨Nat.le_of_ble_eq_true rfl, Nat.le_of_ble_eq_true rfl⟩ (fun r200 u202 w201 => ?_)
          obtain ⟨z198, z199⟩ := u202
          refine r_ws [(h0, .inr (11, [.ref h1, .int x1, .ref h2, .int x2, .int x3, .int x4, .ref h3, .ref h4, .ref h5, .ref h6, .int x5, .int x6, .int z198, .ref h7, .ref h8, .ref h9, .ref h10, .int x8, .int x9, .int x10, .long z199, .int x11, .int x12, .long y1, .long y2, .ref h11, .ref h12, .ref h13, .ref h14, .long y3, .int 0, .ref h15, .int x14, .int x15, .int x16, .int x17, .ref h16, .ref h17, .ref h18, .ref h19, .ref h20, .ref h21, .ref h22, .ref h23, .ref h24, .ref h25, .ref h26, .int x18, .int x19, .int x20, .int x21, .int x22, .int x23, .int x24, .long y4, .int x25, .ref h27, .ref h28, .long y5, .long y6, .int x26, .ref h29, .int x27, .ref h30, .ref h31, .ref h32, .ref h33, .int x28, .int x29, .int x30, .int x31, .ref h34, .ref h35, .int x32, .int x33, .ref h36])), (h1, .inl (gB g, 1500, .inl fn0))] rfl ?_
          have p203 : 0 ≤ (Int32.toInt r200) := w201.1
          have p204 : (Int32.toInt r200) ≤ 255 := w201.2.1
          have p205 : 0 ≤ (Int32.toInt z198) := w201.2.2.1
          have p206 : (Int32.toInt z198) ≤ 3 := w201.2.2.2.1
          have p207 : 0 ≤ (Int64.toInt z199) := w201.2.2.2.2.1
          have p208 : (Int64.toInt z199) ≤ 1500 := w201.2.2.2.2.2.1
          have p209 : ((1 ≤ (Int32.toInt z198) ∧ (Int64.toInt z199) = (Int64.toInt z184)) ∨ ((Int32.toInt z183) = 0 ∧ (Int32.toInt z198) = 0 ∧ (Int64.toInt z199) = (Int64.toInt z184) + 1 ∧ (Int64.toInt z184) < (Int64.toInt y3))) := w201.2.2.2.2.2.2
          rcases p209 with ⟨k210, k211⟩ | p209
          · skip
            refine r_bipush 53 16 C dX12_operand_53 (by decide) ?_
            obtain ⟨z212, ez212⟩ : ∃ z_9, r200 <<< (16 &&& 31) = z_9 := ⟨_, rfl⟩
            have gz212 := fb_rng z212
            refine r_ishl 55 z212 C dX12_operand_55 ez212 ?_
            obtain ⟨z213, ez213⟩ : ∃ z_9, z197 ||| z212 = z_9 := ⟨_, rfl⟩
            have gz213 := fb_rng z213
            refine r_ior 56 z213 C dX12_operand_56 ez213 ?_
            refine r_aload_n 57 0 C dX12_operand_57 rfl ?_
            refine r_callVi 58 C dX12_operand_58 [.int z213] [(h0, .inr (11, [.ref h1, .int x1, .ref h2, .int x2, .int x3, .int x4, .ref h3, .ref h4, .ref h5, .ref h6, .int x5, .int x6, .int z198, .ref h7, .ref h8, .ref h9, .ref h10, .int x8, .int x9, .int x10, .long z199, .int x11, .int x12, .long y1, .long y2, .ref h11, .ref h12, .ref h13, .ref h14, .long y3, .int 0, .ref h15, .int x14, .int x15, .int x16, .int x17, .ref h16, .ref h17, .ref h18, .ref h19, .ref h20, .ref h21, .ref h22, .ref h23, .ref h24, .ref h25, .ref h26, .int x18, .int x19, .int x20, .int x21, .int x22, .int x23, .int x24, .long y4, .int x25, .ref h27, .ref h28, .long y5, .long y6, .int x26, .ref h29, .int x27, .ref h30, .ref h31, .ref h32, .ref h33, .int x28, .int x29, .int x30, .int x31, .ref h34, .ref h35, .int x32, .int x33, .ref h36])), (h1, .inl (gB g, 1500, .inl fn0))] [] (fun sz => c50_X12_dictByte l g h0 h1 x1 h2 x2 x3 x4 h3 h4 h5 h6 x5 x6 z198 h7 h8 h9 h10 x8 x9 x10 z199 x11 x12 y1 y2 h11 h12 h13 h14 y3 0 h15 x14 x15 x16 x17 h16 h17 h18 h19 h20 h21 h22 h23 h24 h25 h26 x18 x19 x20 x21 x22 x23 x24 y4 x25 h27 h28 y5 y6 x26 h29 x27 h30 h31 h32 h33 x28 x29 x30 x31 h34 h35 x32 x33 h36 fn0 i_x1 i_x2 i_x4 ⟨p205, p206⟩ i_x8 ⟨p207, p208⟩ i_x11 i_x12 i_y1 i_y2 i_y3 (by decide) i_x14 i_x15 i_x16 i_x17 i_x19 i_x20 i_x21 i_x22 i_x23 i_x25 i_x26 i_x27 i_x28 i_x29 i_x30 i_x31 i_x32 i_x33 sz) gX12_operand_X12_dictByte rfl ⟨rfl, rfl⟩ 0 (by decide) ⟨Nat.le_of_ble_eq_true rfl, Nat.le_of_ble_eq_true rfl⟩ 0 rfl rfl [0, 1] [] rfl rfl (by decide) (by decide) (by decide) rfl rfl (Nat.le_of_ble_eq_true rfl) ⟨Nat.le_of_ble_eq_true rfl, Nat.le_of_ble_eq_true rfl⟩ (fun r216 u218 w217 => ?_)
            obtain ⟨z214, z215⟩ := u218
            refine r_ws [(h0, .inr (11, [.ref h1, .int x1, .ref h2, .int x2, .int x3, .int x4, .ref h3, .ref h4, .ref h5, .ref h6, .int x5, .int x6, .int z214, .ref h7, .ref h8, .ref h9, .ref h10, .int x8, .int x9, .int x10, .long z215, .int x11, .int x12, .long y1, .long y2, .ref h11, .ref h12, .ref h13, .ref h14, .long y3, .int 0, .ref h15, .int x14, .int x15, .int x16, .int x17, .ref h16, .ref h17, .ref h18, .ref h19, .ref h20, .ref h21, .ref h22, .ref h23, .ref h24, .ref h25, .ref h26, .int x18, .int x19, .int x20, .int x21, .int x22, .int x23, .int x24, .long y4, .int x25, .ref h27, .ref h28, .long y5, .long y6, .int x26, .ref h29, .int x27, .ref h30, .ref h31, .ref h32, .ref h33, .int x28, .int x29, .int x30, .int x31, .ref h34, .ref h35, .int x32, .int x33, .ref h36])), (h1, .inl (gB g, 1500, .inl fn0))] rfl ?_
            have p219 : 0 ≤ (Int32.toInt r216) := w217.1
            have p220 : (Int32.toInt r216) ≤ 255 := w217.2.1
            have p221 : 0 ≤ (Int32.toInt z214) := w217.2.2.1
            have p222 : (Int32.toInt z214) ≤ 3 := w217.2.2.2.1
            have p223 : 0 ≤ (Int64.toInt z215) := w217.2.2.2.2.1
            have p224 : (Int64.toInt z215) ≤ 1500 := w217.2.2.2.2.2.1
            have p225 : ((1 ≤ (Int32.toInt z214) ∧ (Int64.toInt z215) = (Int64.toInt z199)) ∨ ((Int32.toInt z198) = 0 ∧ (Int32.toInt z214) = 0 ∧ (Int64.toInt z215) = (Int64.toInt z199) + 1 ∧ (Int64.toInt z199) < (Int64.toInt y3))) := w217.2.2.2.2.2.2
            rcases p225 with ⟨k226, k227⟩ | p225
            · skip
              refine r_bipush 61 8 C dX12_operand_61 (by decide) ?_
              obtain ⟨z228, ez228⟩ : ∃ z_9, r216 <<< (8 &&& 31) = z_9 := ⟨_, rfl⟩
              have gz228 := fb_rng z228
              refine r_ishl 63 z228 C dX12_operand_63 ez228 ?_
              obtain ⟨z229, ez229⟩ : ∃ z_9, z213 ||| z228 = z_9 := ⟨_, rfl⟩
              have gz229 := fb_rng z229
              refine r_ior 64 z229 C dX12_operand_64 ez229 ?_
              refine r_aload_n 65 0 C dX12_operand_65 rfl ?_
              refine r_callVi 66 C dX12_operand_66 [.int z229] [(h0, .inr (11, [.ref h1, .int x1, .ref h2, .int x2, .int x3, .int x4, .ref h3, .ref h4, .ref h5, .ref h6, .int x5, .int x6, .int z214, .ref h7, .ref h8, .ref h9, .ref h10, .int x8, .int x9, .int x10, .long z215, .int x11, .int x12, .long y1, .long y2, .ref h11, .ref h12, .ref h13, .ref h14, .long y3, .int 0, .ref h15, .int x14, .int x15, .int x16, .int x17, .ref h16, .ref h17, .ref h18, .ref h19, .ref h20, .ref h21, .ref h22, .ref h23, .ref h24, .ref h25, .ref h26, .int x18, .int x19, .int x20, .int x21, .int x22, .int x23, .int x24, .long y4, .int x25, .ref h27, .ref h28, .long y5, .long y6, .int x26, .ref h29, .int x27, .ref h30, .ref h31, .ref h32, .ref h33, .int x28, .int x29, .int x30, .int x31, .ref h34, .ref h35, .int x32, .int x33, .ref h36])), (h1, .inl (gB g, 1500, .inl fn0))] [] (fun sz => c50_X12_dictByte l g h0 h1 x1 h2 x2 x3 x4 h3 h4 h5 h6 x5 x6 z214 h7 h8 h9 h10 x8 x9 x10 z215 x11 x12 y1 y2 h11 h12 h13 h14 y3 0 h15 x14 x15 x16 x17 h16 h17 h18 h19 h20 h21 h22 h23 h24 h25 h26 x18 x19 x20 x21 x22 x23 x24 y4 x25 h27 h28 y5 y6 x26 h29 x27 h30 h31 h32 h33 x28 x29 x30 x31 h34 h35 x32 x33 h36 fn0 i_x1 i_x2 i_x4 ⟨p221, p222⟩ i_x8 ⟨p223, p224⟩ i_x11 i_x12 i_y1 i_y2 i_y3 (by decide) i_x14 i_x15 i_x16 i_x17 i_x19 i_x20 i_x21 i_x22 i_x23 i_x25 i_x26 i_x27 i_x28 i_x29 i_x30 i_x31 i_x32 i_x33 sz) gX12_operand_X12_dictByte rfl ⟨rfl, rfl⟩ 0 (by decide) ⟨Nat.le_of_ble_eq_true rfl, Nat.le_of_ble_eq_true rfl⟩ 0 rfl rfl [0, 1] [] rfl rfl (by decide) (by decide) (by decide) rfl rfl (Nat.le_of_ble_eq_true rfl) ⟨Nat.le_of_ble_eq_true rfl, Nat.le_of_ble_eq_true rfl⟩ (fun r232 u234 w233 => ?_)
              obtain ⟨z230, z231⟩ := u234
              refine r_ws [(h0, .inr (11, [.ref h1, .int x1, .ref h2, .int x2, .int x3, .int x4, .ref h3, .ref h4, .ref h5, .ref h6, .int x5, .int x6, .int z230, .ref h7, .ref h8, .ref h9, .ref h10, .int x8, .int x9, .int x10, .long z231, .int x11, .int x12, .long y1, .long y2, .ref h11, .ref h12, .ref h13, .ref h14, .long y3, .int 0, .ref h15, .int x14, .int x15, .int x16, .int x17, .ref h16, .ref h17, .ref h18, .ref h19, .ref h20, .ref h21, .ref h22, .ref h23, .ref h24, .ref h25, .ref h26, .int x18, .int x19, .int x20, .int x21, .int x22, .int x23, .int x24, .long y4, .int x25, .ref h27, .ref h28, .long y5, .long y6, .int x26, .ref h29, .int x27, .ref h30, .ref h31, .ref h32, .ref h33, .int x28, .int x29, .int x30, .int x31, .ref h34, .ref h35, .int x32, .int x33, .ref h36])), (h1, .inl (gB g, 1500, .inl fn0))] rfl ?_
              have p235 : 0 ≤ (Int32.toInt r232) := w233.1
              have p236 : (Int32.toInt r232) ≤ 255 := w233.2.1
              have p237 : 0 ≤ (Int32.toInt z230) := w233.2.2.1
              have p238 : (Int32.toInt z230) ≤ 3 := w233.2.2.2.1
              have p239 : 0 ≤ (Int64.toInt z231) := w233.2.2.2.2.1
              have p240 : (Int64.toInt z231) ≤ 1500 := w233.2.2.2.2.2.1
              have p241 : ((1 ≤ (Int32.toInt z230) ∧ (Int64.toInt z231) = (Int64.toInt z215)) ∨ ((Int32.toInt z214) = 0 ∧ (Int32.toInt z230) = 0 ∧ (Int64.toInt z231) = (Int64.toInt z215) + 1 ∧ (Int64.toInt z215) < (Int64.toInt y3))) := w233.2.2.2.2.2.2
              rcases p241 with ⟨k242, k243⟩ | p241
              · skip
                obtain ⟨z244, ez244⟩ : ∃ z_9, z229 ||| r232 = z_9 := ⟨_, rfl⟩
                have gz244 := fb_rng z244
                refine r_ior 69 z244 C dX12_operand_69 ez244 ?_
                obtain ⟨z245, ez245⟩ : ∃ z_9, Int32.toInt64 z244 = z_9 := ⟨_, rfl⟩
                have tz245 : (Int64.toInt z245) = (Int32.toInt z244) := by rw [← ez245]; exact Int32.toInt_toInt64 _
                refine r_i2l 70 z245 C dX12_operand_70 ez245 ?_
                exact r_lret 71 Rt dX12_operand_71 (z230, z231, 0) (show -2147483648 ≤ (Int64.toInt z245) ∧ (Int64.toInt z245) ≤ 2147483647 ∧ 0 ≤ (Int32.toInt z230) ∧ (Int32.toInt z230) ≤ 3 ∧ 0 ≤ (Int64.toInt z231) ∧ (Int64.toInt z231) ≤ 1500 ∧ 0 ≤ (Int32.toInt 0) ∧ (Int32.toInt 0) ≤ 1 ∧ ((1 ≤ (Int32.toInt z230)) ∨ ((Int32.toInt x7) = 0 ∧ (Int32.toInt z230) = 0 ∧ (Int64.toInt y0) ≤ (Int64.toInt z231))) from ⟨(by first | omega | ((repeat' apply And.intro) <;> first | trivial | rfl | assumption | omega | decide | exact Or.inl rfl | exact Or.inr (Or.inl rfl) | exact Or.inr (Or.inr rfl) | exact Or.inr (Or.inr (by assumption)))), (by first | omega | ((repeat' apply And.intro) <;> first | trivial | rfl | assumption | omega | decide | exact Or.inl rfl | exact Or.inr (Or.inl rfl) | exact Or.inr (Or.inr rfl) | exact Or.inr (Or.inr (by assumption)))), (show _ ∧ _ from ⟨p237, p238⟩).1, (show _ ∧ _ from ⟨p237, p238⟩).2, (show _ ∧ _ from ⟨p239, p240⟩).1, (show _ ∧ _ from ⟨p239, p240⟩).2, (by decide), (by decide), (by first | omega | ((repeat' apply And.intro) <;> first | trivial | rfl | assumption | omega | decide | exact Or.inl rfl | exact Or.inr (Or.inl rfl) | exact Or.inr (Or.inr rfl) | exact Or.inr (Or.inr (by assumption))))⟩) [0, 1] (by decide) rfl (Nat.le_of_ble_eq_true rfl) (Nat.le_of_ble_eq_true rfl)
              obtain ⟨k246, k247, k248, k249⟩ := p241
              exact absurd trivial (by omega)
            obtain ⟨k250, k251, k252, k253⟩ := p225
            exact absurd trivial (by omega)
          obtain ⟨k254, k255, k256, k257⟩ := p209
          exact absurd trivial (by omega)
        obtain ⟨k258, k259, k260, k261⟩ := p194
        refine r_bipush 46 24 C dX12_operand_46 (by decide) ?_
        obtain ⟨z262, ez262⟩ : ∃ z_9, r185 <<< (24 &&& 31) = z_9 := ⟨_, rfl⟩
        have gz262 := fb_rng z262
        refine r_ishl 48 z262 C dX12_operand_48 ez262 ?_
        refine r_aload_n 49 0 C dX12_operand_49 rfl ?_
        refine r_callVi 50 C dX12_operand_50 [.int z262] [(h0, .inr (11, [.ref h1, .int x1, .ref h2, .int x2, .int x3, .int x4, .ref h3, .ref h4, .ref h5, .ref h6, .int x5, .int x6, .int z183, .ref h7, .ref h8, .ref h9, .ref h10, .int x8, .int x9, .int x10, .long z184, .int x11, .int x12, .long y1, .long y2, .ref h11, .ref h12, .ref h13, .ref h14, .long y3, .int 0, .ref h15, .int x14, .int x15, .int x16, .int x17, .ref h16, .ref h17, .ref h18, .ref h19, .ref h20, .ref h21, .ref h22, .ref h23, .ref h24, .ref h25, .ref h26, .int x18, .int x19, .int x20, .int x21, .int x22, .int x23, .int x24, .long y4, .int x25, .ref h27, .ref h28, .long y5, .long y6, .int x26, .ref h29, .int x27, .ref h30, .ref h31, .ref h32, .ref h33, .int x28, .int x29, .int x30, .int x31, .ref h34, .ref h35, .int x32, .int x33, .ref h36])), (h1, .inl (gB g, 1500, .inl fn0))] [] (fun sz => c50_X12_dictByte l g h0 h1 x1 h2 x2 x3 x4 h3 h4 h5 h6 x5 x6 z183 h7 h8 h9 h10 x8 x9 x10 z184 x11 x12 y1 y2 h11 h12 h13 h14 y3 0 h15 x14 x15 x16 x17 h16 h17 h18 h19 h20 h21 h22 h23 h24 h25 h26 x18 x19 x20 x21 x22 x23 x24 y4 x25 h27 h28 y5 y6 x26 h29 x27 h30 h31 h32 h33 x28 x29 x30 x31 h34 h35 x32 x33 h36 fn0 i_x1 i_x2 i_x4 ⟨p190, p191⟩ i_x8 ⟨p192, p193⟩ i_x11 i_x12 i_y1 i_y2 i_y3 (by decide) i_x14 i_x15 i_x16 i_x17 i_x19 i_x20 i_x21 i_x22 i_x23 i_x25 i_x26 i_x27 i_x28 i_x29 i_x30 i_x31 i_x32 i_x33 sz) gX12_operand_X12_dictByte rfl ⟨rfl, rfl⟩ 0 (by decide) ⟨Nat.le_of_ble_eq_true rfl, Nat.le_of_ble_eq_true rfl⟩ 0 rfl rfl [0, 1] [] rfl rfl (by decide) (by decide) (by decide) rfl rfl (Nat.le_of_ble_eq_true rfl) ⟨Nat.le_of_ble_eq_true rfl, Nat.le_of_ble_eq_true rfl⟩ (fun r265 u267 w266 => ?_)
        obtain ⟨z263, z264⟩ := u267
        refine r_ws [(h0, .inr (11, [.ref h1, .int x1, .ref h2, .int x2, .int x3, .int x4, .ref h3, .ref h4, .ref h5, .ref h6, .int x5, .int x6, .int z263, .ref h7, .ref h8, .ref h9, .ref h10, .int x8, .int x9, .int x10, .long z264, .int x11, .int x12, .long y1, .long y2, .ref h11, .ref h12, .ref h13, .ref h14, .long y3, .int 0, .ref h15, .int x14, .int x15, .int x16, .int x17, .ref h16, .ref h17, .ref h18, .ref h19, .ref h20, .ref h21, .ref h22, .ref h23, .ref h24, .ref h25, .ref h26, .int x18, .int x19, .int x20, .int x21, .int x22, .int x23, .int x24, .long y4, .int x25, .ref h27, .ref h28, .long y5, .long y6, .int x26, .ref h29, .int x27, .ref h30, .ref h31, .ref h32, .ref h33, .int x28, .int x29, .int x30, .int x31, .ref h34, .ref h35, .int x32, .int x33, .ref h36])), (h1, .inl (gB g, 1500, .inl fn0))] rfl ?_
        have p268 : 0 ≤ (Int32.toInt r265) := w266.1
        have p269 : (Int32.toInt r265) ≤ 255 := w266.2.1
        have p270 : 0 ≤ (Int32.toInt z263) := w266.2.2.1
        have p271 : (Int32.toInt z263) ≤ 3 := w266.2.2.2.1
        have p272 : 0 ≤ (Int64.toInt z264) := w266.2.2.2.2.1
        have p273 : (Int64.toInt z264) ≤ 1500 := w266.2.2.2.2.2.1
        have p274 : ((1 ≤ (Int32.toInt z263) ∧ (Int64.toInt z264) = (Int64.toInt z184)) ∨ ((Int32.toInt z183) = 0 ∧ (Int32.toInt z263) = 0 ∧ (Int64.toInt z264) = (Int64.toInt z184) + 1 ∧ (Int64.toInt z184) < (Int64.toInt y3))) := w266.2.2.2.2.2.2
        rcases p274 with ⟨k275, k276⟩ | p274
        · skip
          refine r_bipush 53 16 C dX12_operand_53 (by decide) ?_
          obtain ⟨z277, ez277⟩ : ∃ z_9, r265 <<< (16 &&& 31) = z_9 := ⟨_, rfl⟩
          have gz277 := fb_rng z277
          refine r_ishl 55 z277 C dX12_operand_55 ez277 ?_
          obtain ⟨z278, ez278⟩ : ∃ z_9, z262 ||| z277 = z_9 := ⟨_, rfl⟩
          have gz278 := fb_rng z278
          refine r_ior 56 z278 C dX12_operand_56 ez278 ?_
          refine r_aload_n 57 0 C dX12_operand_57 rfl ?_
          refine r_callVi 58 C dX12_operand_58 [.int z278] [(h0, .inr (11, [.ref h1, .int x1, .ref h2, .int x2, .int x3, .int x4, .ref h3, .ref h4, .ref h5, .ref h6, .int x5, .int x6, .int z263, .ref h7, .ref h8, .ref h9, .ref h10, .int x8, .int x9, .int x10, .long z264, .int x11, .int x12, .long y1, .long y2, .ref h11, .ref h12, .ref h13, .ref h14, .long y3, .int 0, .ref h15, .int x14, .int x15, .int x16, .int x17, .ref h16, .ref h17, .ref h18, .ref h19, .ref h20, .ref h21, .ref h22, .ref h23, .ref h24, .ref h25, .ref h26, .int x18, .int x19, .int x20, .int x21, .int x22, .int x23, .int x24, .long y4, .int x25, .ref h27, .ref h28, .long y5, .long y6, .int x26, .ref h29, .int x27, .ref h30, .ref h31, .ref h32, .ref h33, .int x28, .int x29, .int x30, .int x31, .ref h34, .ref h35, .int x32, .int x33, .ref h36])), (h1, .inl (gB g, 1500, .inl fn0))] [] (fun sz => c50_X12_dictByte l g h0 h1 x1 h2 x2 x3 x4 h3 h4 h5 h6 x5 x6 z263 h7 h8 h9 h10 x8 x9 x10 z264 x11 x12 y1 y2 h11 h12 h13 h14 y3 0 h15 x14 x15 x16 x17 h16 h17 h18 h19 h20 h21 h22 h23 h24 h25 h26 x18 x19 x20 x21 x22 x23 x24 y4 x25 h27 h28 y5 y6 x26 h29 x27 h30 h31 h32 h33 x28 x29 x30 x31 h34 h35 x32 x33 h36 fn0 i_x1 i_x2 i_x4 ⟨p270, p271⟩ i_x8 ⟨p272, p273⟩ i_x11 i_x12 i_y1 i_y2 i_y3 (by decide) i_x14 i_x15 i_x16 i_x17 i_x19 i_x20 i_x21 i_x22 i_x23 i_x25 i_x26 i_x27 i_x28 i_x29 i_x30 i_x31 i_x32 i_x33 sz) gX12_operand_X12_dictByte rfl ⟨rfl, rfl⟩ 0 (by decide) ⟨Nat.le_of_ble_eq_true rfl, Nat.le_of_ble_eq_true rfl⟩ 0 rfl rfl [0, 1] [] rfl rfl (by decide) (by decide) (by decide) rfl rfl (Nat.le_of_ble_eq_true rfl) ⟨Nat.le_of_ble_eq_true rfl, Nat.le_of_ble_eq_true rfl⟩ (fun r281 u283 w282 => ?_)
          obtain ⟨z279, z280⟩ := u283
          refine r_ws [(h0, .inr (11, [.ref h1, .int x1, .ref h2, .int x2, .int x3, .int x4, .ref h3, .ref h4, .ref h5, .ref h6, .int x5, .int x6, .int z279, .ref h7, .ref h8, .ref h9, .ref h10, .int x8, .int x9, .int x10, .long z280, .int x11, .int x12, .long y1, .long y2, .ref h11, .ref h12, .ref h13, .ref h14, .long y3, .int 0, .ref h15, .int x14, .int x15, .int x16, .int x17, .ref h16, .ref h17, .ref h18, .ref h19, .ref h20, .ref h21, .ref h22, .ref h23, .ref h24, .ref h25, .ref h26, .int x18, .int x19, .int x20, .int x21, .int x22, .int x23, .int x24, .long y4, .int x25, .ref h27, .ref h28, .long y5, .long y6, .int x26, .ref h29, .int x27, .ref h30, .ref h31, .ref h32, .ref h33, .int x28, .int x29, .int x30, .int x31, .ref h34, .ref h35, .int x32, .int x33, .ref h36])), (h1, .inl (gB g, 1500, .inl fn0))] rfl ?_
          have p284 : 0 ≤ (Int32.toInt r281) := w282.1
          have p285 : (Int32.toInt r281) ≤ 255 := w282.2.1
          have p286 : 0 ≤ (Int32.toInt z279) := w282.2.2.1
          have p287 : (Int32.toInt z279) ≤ 3 := w282.2.2.2.1
          have p288 : 0 ≤ (Int64.toInt z280) := w282.2.2.2.2.1
          have p289 : (Int64.toInt z280) ≤ 1500 := w282.2.2.2.2.2.1
          have p290 : ((1 ≤ (Int32.toInt z279) ∧ (Int64.toInt z280) = (Int64.toInt z264)) ∨ ((Int32.toInt z263) = 0 ∧ (Int32.toInt z279) = 0 ∧ (Int64.toInt z280) = (Int64.toInt z264) + 1 ∧ (Int64.toInt z264) < (Int64.toInt y3))) := w282.2.2.2.2.2.2
          rcases p290 with ⟨k291, k292⟩ | p290
          · skip
            refine r_bipush 61 8 C dX12_operand_61 (by decide) ?_
            obtain ⟨z293, ez293⟩ : ∃ z_9, r281 <<< (8 &&& 31) = z_9 := ⟨_, rfl⟩
            have gz293 := fb_rng z293
            refine r_ishl 63 z293 C dX12_operand_63 ez293 ?_
            obtain ⟨z294, ez294⟩ : ∃ z_9, z278 ||| z293 = z_9 := ⟨_, rfl⟩
            have gz294 := fb_rng z294
            refine r_ior 64 z294 C dX12_operand_64 ez294 ?_
            refine r_aload_n 65 0 C dX12_operand_65 rfl ?_
            refine r_callVi 66 C dX12_operand_66 [.int z294] [(h0, .inr (11, [.ref h1, .int x1, .ref h2, .int x2, .int x3, .int x4, .ref h3, .ref h4, .ref h5, .ref h6, .int x5, .int x6, .int z279, .ref h7, .ref h8, .ref h9, .ref h10, .int x8, .int x9, .int x10, .long z280, .int x11, .int x12, .long y1, .long y2, .ref h11, .ref h12, .ref h13, .ref h14, .long y3, .int 0, .ref h15, .int x14, .int x15, .int x16, .int x17, .ref h16, .ref h17, .ref h18, .ref h19, .ref h20, .ref h21, .ref h22, .ref h23, .ref h24, .ref h25, .ref h26, .int x18, .int x19, .int x20, .int x21, .int x22, .int x23, .int x24, .long y4, .int x25, .ref h27, .ref h28, .long y5, .long y6, .int x26, .ref h29, .int x27, .ref h30, .ref h31, .ref h32, .ref h33, .int x28, .int x29, .int x30, .int x31, .ref h34, .ref h35, .int x32, .int x33, .ref h36])), (h1, .inl (gB g, 1500, .inl fn0))] [] (fun sz => c50_X12_dictByte l g h0 h1 x1 h2 x2 x3 x4 h3 h4 h5 h6 x5 x6 z279 h7 h8 h9 h10 x8 x9 x10 z280 x11 x12 y1 y2 h11 h12 h13 h14 y3 0 h15 x14 x15 x16 x17 h16 h17 h18 h19 h20 h21 h22 h23 h24 h25 h26 x18 x19 x20 x21 x22 x23 x24 y4 x25 h27 h28 y5 y6 x26 h29 x27 h30 h31 h32 h33 x28 x29 x30 x31 h34 h35 x32 x33 h36 fn0 i_x1 i_x2 i_x4 ⟨p286, p287⟩ i_x8 ⟨p288, p289⟩ i_x11 i_x12 i_y1 i_y2 i_y3 (by decide) i_x14 i_x15 i_x16 i_x17 i_x19 i_x20 i_x21 i_x22 i_x23 i_x25 i_x26 i_x27 i_x28 i_x29 i_x30 i_x31 i_x32 i_x33 sz) gX12_operand_X12_dictByte rfl ⟨rfl, rfl⟩ 0 (by decide) ⟨Nat.le_of_ble_eq_true rfl, Nat.le_of_ble_eq_true rfl⟩ 0 rfl rfl [0, 1] [] rfl rfl (by decide) (by decide) (by decide) rfl rfl (Nat.le_of_ble_eq_true rfl) ⟨Nat.le_of_ble_eq_true rfl, Nat.le_of_ble_eq_true rfl⟩ (fun r297 u299 w298 => ?_)
            obtain ⟨z295, z296⟩ := u299
            refine r_ws [(h0, .inr (11, [.ref h1, .int x1, .ref h2, .int x2, .int x3, .int x4, .ref h3, .ref h4, .ref h5, .ref h6, .int x5, .int x6, .int z295, .ref h7, .ref h8, .ref h9, .ref h10, .int x8, .int x9, .int x10, .long z296, .int x11, .int x12, .long y1, .long y2, .ref h11, .ref h12, .ref h13, .ref h14, .long y3, .int 0, .ref h15, .int x14, .int x15, .int x16, .int x17, .ref h16, .ref h17, .ref h18, .ref h19, .ref h20, .ref h21, .ref h22, .ref h23, .ref h24, .ref h25, .ref h26, .int x18, .int x19, .int x20, .int x21, .int x22, .int x23, .int x24, .long y4, .int x25, .ref h27, .ref h28, .long y5, .long y6, .int x26, .ref h29, .int x27, .ref h30, .ref h31, .ref h32, .ref h33, .int x28, .int x29, .int x30, .int x31, .ref h34, .ref h35, .int x32, .int x33, .ref h36])), (h1, .inl (gB g, 1500, .inl fn0))] rfl ?_
            have p300 : 0 ≤ (Int32.toInt r297) := w298.1
            have p301 : (Int32.toInt r297) ≤ 255 := w298.2.1
            have p302 : 0 ≤ (Int32.toInt z295) := w298.2.2.1
            have p303 : (Int32.toInt z295) ≤ 3 := w298.2.2.2.1
            have p304 : 0 ≤ (Int64.toInt z296) := w298.2.2.2.2.1
            have p305 : (Int64.toInt z296) ≤ 1500 := w298.2.2.2.2.2.1
            have p306 : ((1 ≤ (Int32.toInt z295) ∧ (Int64.toInt z296) = (Int64.toInt z280)) ∨ ((Int32.toInt z279) = 0 ∧ (Int32.toInt z295) = 0 ∧ (Int64.toInt z296) = (Int64.toInt z280) + 1 ∧ (Int64.toInt z280) < (Int64.toInt y3))) := w298.2.2.2.2.2.2
            rcases p306 with ⟨k307, k308⟩ | p306
            · skip
              obtain ⟨z309, ez309⟩ : ∃ z_9, z294 ||| r297 = z_9 := ⟨_, rfl⟩
              have gz309 := fb_rng z309
              refine r_ior 69 z309 C dX12_operand_69 ez309 ?_
              obtain ⟨z310, ez310⟩ : ∃ z_9, Int32.toInt64 z309 = z_9 := ⟨_, rfl⟩
              have tz310 : (Int64.toInt z310) = (Int32.toInt z309) := by rw [← ez310]; exact Int32.toInt_toInt64 _
              refine r_i2l 70 z310 C dX12_operand_70 ez310 ?_
              exact r_lret 71 Rt dX12_operand_71 (z295, z296, 0) (show -2147483648 ≤ (Int64.toInt z310) ∧ (Int64.toInt z310) ≤ 2147483647 ∧ 0 ≤ (Int32.toInt z295) ∧ (Int32.toInt z295) ≤ 3 ∧ 0 ≤ (Int64.toInt z296) ∧ (Int64.toInt z296) ≤ 1500 ∧ 0 ≤ (Int32.toInt 0) ∧ (Int32.toInt 0) ≤ 1 ∧ ((1 ≤ (Int32.toInt z295)) ∨ ((Int32.toInt x7) = 0 ∧ (Int32.toInt z295) = 0 ∧ (Int64.toInt y0) ≤ (Int64.toInt z296))) from ⟨(by first | omega | ((repeat' apply And.intro) <;> first | trivial | rfl | assumption | omega | decide | exact Or.inl rfl | exact Or.inr (Or.inl rfl) | exact Or.inr (Or.inr rfl) | exact Or.inr (Or.inr (by assumption)))), (by first | omega | ((repeat' apply And.intro) <;> first | trivial | rfl | assumption | omega | decide | exact Or.inl rfl | exact Or.inr (Or.inl rfl) | exact Or.inr (Or.inr rfl) | exact Or.inr (Or.inr (by assumption)))), (show _ ∧ _ from ⟨p302, p303⟩).1, (show _ ∧ _ from ⟨p302, p303⟩).2, (show _ ∧ _ from ⟨p304, p305⟩).1, (show _ ∧ _ from ⟨p304, p305⟩).2, (by decide), (by decide), (by first | omega | ((repeat' apply And.intro) <;> first | trivial | rfl | assumption | omega | decide | exact Or.inl rfl | exact Or.inr (Or.inl rfl) | exact Or.inr (Or.inr rfl) | exact Or.inr (Or.inr (by assumption))))⟩) [0, 1] (by decide) rfl (Nat.le_of_ble_eq_true rfl) (Nat.le_of_ble_eq_true rfl)
            obtain ⟨k311, k312, k313, k314⟩ := p306
            exact absurd trivial (by omega)
          obtain ⟨k315, k316, k317, k318⟩ := p290
          exact absurd trivial (by omega)
        obtain ⟨k319, k320, k321, k322⟩ := p274
        refine r_bipush 53 16 C dX12_operand_53 (by decide) ?_
        obtain ⟨z323, ez323⟩ : ∃ z_9, r265 <<< (16 &&& 31) = z_9 := ⟨_, rfl⟩
        have gz323 := fb_rng z323
        refine r_ishl 55 z323 C dX12_operand_55 ez323 ?_
        obtain ⟨z324, ez324⟩ : ∃ z_9, z262 ||| z323 = z_9 := ⟨_, rfl⟩
        have gz324 := fb_rng z324
        refine r_ior 56 z324 C dX12_operand_56 ez324 ?_
        refine r_aload_n 57 0 C dX12_operand_57 rfl ?_
        refine r_callVi 58 C dX12_operand_58 [.int z324] [(h0, .inr (11, [.ref h1, .int x1, .ref h2, .int x2, .int x3, .int x4, .ref h3, .ref h4, .ref h5, .ref h6, .int x5, .int x6, .int z263, .ref h7, .ref h8, .ref h9, .ref h10, .int x8, .int x9, .int x10, .long z264, .int x11, .int x12, .long y1, .long y2, .ref h11, .ref h12, .ref h13, .ref h14, .long y3, .int 0, .ref h15, .int x14, .int x15, .int x16, .int x17, .ref h16, .ref h17, .ref h18, .ref h19, .ref h20, .ref h21, .ref h22, .ref h23, .ref h24, .ref h25, .ref h26, .int x18, .int x19, .int x20, .int x21, .int x22, .int x23, .int x24, .long y4, .int x25, .ref h27, .ref h28, .long y5, .long y6, .int x26, .ref h29, .int x27, .ref h30, .ref h31, .ref h32, .ref h33, .int x28, .int x29, .int x30, .int x31, .ref h34, .ref h35, .int x32, .int x33, .ref h36])), (h1, .inl (gB g, 1500, .inl fn0))] [] (fun sz => c50_X12_dictByte l g h0 h1 x1 h2 x2 x3 x4 h3 h4 h5 h6 x5 x6 z263 h7 h8 h9 h10 x8 x9 x10 z264 x11 x12 y1 y2 h11 h12 h13 h14 y3 0 h15 x14 x15 x16 x17 h16 h17 h18 h19 h20 h21 h22 h23 h24 h25 h26 x18 x19 x20 x21 x22 x23 x24 y4 x25 h27 h28 y5 y6 x26 h29 x27 h30 h31 h32 h33 x28 x29 x30 x31 h34 h35 x32 x33 h36 fn0 i_x1 i_x2 i_x4 ⟨p270, p271⟩ i_x8 ⟨p272, p273⟩ i_x11 i_x12 i_y1 i_y2 i_y3 (by decide) i_x14 i_x15 i_x16 i_x17 i_x19 i_x20 i_x21 i_x22 i_x23 i_x25 i_x26 i_x27 i_x28 i_x29 i_x30 i_x31 i_x32 i_x33 sz) gX12_operand_X12_dictByte rfl ⟨rfl, rfl⟩ 0 (by decide) ⟨Nat.le_of_ble_eq_true rfl, Nat.le_of_ble_eq_true rfl⟩ 0 rfl rfl [0, 1] [] rfl rfl (by decide) (by decide) (by decide) rfl rfl (Nat.le_of_ble_eq_true rfl) ⟨Nat.le_of_ble_eq_true rfl, Nat.le_of_ble_eq_true rfl⟩ (fun r327 u329 w328 => ?_)
        obtain ⟨z325, z326⟩ := u329
        refine r_ws [(h0, .inr (11, [.ref h1, .int x1, .ref h2, .int x2, .int x3, .int x4, .ref h3, .ref h4, .ref h5, .ref h6, .int x5, .int x6, .int z325, .ref h7, .ref h8, .ref h9, .ref h10, .int x8, .int x9, .int x10, .long z326, .int x11, .int x12, .long y1, .long y2, .ref h11, .ref h12, .ref h13, .ref h14, .long y3, .int 0, .ref h15, .int x14, .int x15, .int x16, .int x17, .ref h16, .ref h17, .ref h18, .ref h19, .ref h20, .ref h21, .ref h22, .ref h23, .ref h24, .ref h25, .ref h26, .int x18, .int x19, .int x20, .int x21, .int x22, .int x23, .int x24, .long y4, .int x25, .ref h27, .ref h28, .long y5, .long y6, .int x26, .ref h29, .int x27, .ref h30, .ref h31, .ref h32, .ref h33, .int x28, .int x29, .int x30, .int x31, .ref h34, .ref h35, .int x32, .int x33, .ref h36])), (h1, .inl (gB g, 1500, .inl fn0))] rfl ?_
        have p330 : 0 ≤ (Int32.toInt r327) := w328.1
        have p331 : (Int32.toInt r327) ≤ 255 := w328.2.1
        have p332 : 0 ≤ (Int32.toInt z325) := w328.2.2.1
        have p333 : (Int32.toInt z325) ≤ 3 := w328.2.2.2.1
        have p334 : 0 ≤ (Int64.toInt z326) := w328.2.2.2.2.1
        have p335 : (Int64.toInt z326) ≤ 1500 := w328.2.2.2.2.2.1
        have p336 : ((1 ≤ (Int32.toInt z325) ∧ (Int64.toInt z326) = (Int64.toInt z264)) ∨ ((Int32.toInt z263) = 0 ∧ (Int32.toInt z325) = 0 ∧ (Int64.toInt z326) = (Int64.toInt z264) + 1 ∧ (Int64.toInt z264) < (Int64.toInt y3))) := w328.2.2.2.2.2.2
        rcases p336 with ⟨k337, k338⟩ | p336
        · skip
          refine r_bipush 61 8 C dX12_operand_61 (by decide) ?_
          obtain ⟨z339, ez339⟩ : ∃ z_9, r327 <<< (8 &&& 31) = z_9 := ⟨_, rfl⟩
          have gz339 := fb_rng z339
          refine r_ishl 63 z339 C dX12_operand_63 ez339 ?_
          obtain ⟨z340, ez340⟩ : ∃ z_9, z324 ||| z339 = z_9 := ⟨_, rfl⟩
          have gz340 := fb_rng z340
          refine r_ior 64 z340 C dX12_operand_64 ez340 ?_
          refine r_aload_n 65 0 C dX12_operand_65 rfl ?_
          refine r_callVi 66 C dX12_operand_66 [.int z340] [(h0, .inr (11, [.ref h1, .int x1, .ref h2, .int x2, .int x3, .int x4, .ref h3, .ref h4, .ref h5, .ref h6, .int x5, .int x6, .int z325, .ref h7, .ref h8, .ref h9, .ref h10, .int x8, .int x9, .int x10, .long z326, .int x11, .int x12, .long y1, .long y2, .ref h11, .ref h12, .ref h13, .ref h14, .long y3, .int 0, .ref h15, .int x14, .int x15, .int x16, .int x17, .ref h16, .ref h17, .ref h18, .ref h19, .ref h20, .ref h21, .ref h22, .ref h23, .ref h24, .ref h25, .ref h26, .int x18, .int x19, .int x20, .int x21, .int x22, .int x23, .int x24, .long y4, .int x25, .ref h27, .ref h28, .long y5, .long y6, .int x26, .ref h29, .int x27, .ref h30, .ref h31, .ref h32, .ref h33, .int x28, .int x29, .int x30, .int x31, .ref h34, .ref h35, .int x32, .int x33, .ref h36])), (h1, .inl (gB g, 1500, .inl fn0))] [] (fun sz => c50_X12_dictByte l g h0 h1 x1 h2 x2 x3 x4 h3 h4 h5 h6 x5 x6 z325 h7 h8 h9 h10 x8 x9 x10 z326 x11 x12 y1 y2 h11 h12 h13 h14 y3 0 h15 x14 x15 x16 x17 h16 h17 h18 h19 h20 h21 h22 h23 h24 h25 h26 x18 x19 x20 x21 x22 x23 x24 y4 x25 h27 h28 y5 y6 x26 h29 x27 h30 h31 h32 h33 x28 x29 x30 x31 h34 h35 x32 x33 h36 fn0 i_x1 i_x2 i_x4 ⟨p332, p333⟩ i_x8 ⟨p334, p335⟩ i_x11 i_x12 i_y1 i_y2 i_y3 (by decide) i_x14 i_x15 i_x16 i_x17 i_x19 i_x20 i_x21 i_x22 i_x23 i_x25 i_x26 i_x27 i_x28 i_x29 i_x30 i_x31 i_x32 i_x33 sz) gX12_operand_X12_dictByte rfl ⟨rfl, rfl⟩ 0 (by decide) ⟨Nat.le_of_ble_eq_true rfl, Nat.le_of_ble_eq_true rfl⟩ 0 rfl rfl [0, 1] [] rfl rfl (by decide) (by decide) (by decide) rfl rfl (Nat.le_of_ble_eq_true rfl) ⟨Nat.le_of_ble_eq_true rfl, Nat.le_of_ble_eq_true rfl⟩ (fun r343 u345 w344 => ?_)
          obtain ⟨z341, z342⟩ := u345
          refine r_ws [(h0, .inr (11, [.ref h1, .int x1, .ref h2, .int x2, .int x3, .int x4, .ref h3, .ref h4, .ref h5, .ref h6, .int x5, .int x6, .int z341, .ref h7, .ref h8, .ref h9, .ref h10, .int x8, .int x9, .int x10, .long z342, .int x11, .int x12, .long y1, .long y2, .ref h11, .ref h12, .ref h13, .ref h14, .long y3, .int 0, .ref h15, .int x14, .int x15, .int x16, .int x17, .ref h16, .ref h17, .ref h18, .ref h19, .ref h20, .ref h21, .ref h22, .ref h23, .ref h24, .ref h25, .ref h26, .int x18, .int x19, .int x20, .int x21, .int x22, .int x23, .int x24, .long y4, .int x25, .ref h27, .ref h28, .long y5, .long y6, .int x26, .ref h29, .int x27, .ref h30, .ref h31, .ref h32, .ref h33, .int x28, .int x29, .int x30, .int x31, .ref h34, .ref h35, .int x32, .int x33, .ref h36])), (h1, .inl (gB g, 1500, .inl fn0))] rfl ?_
          have p346 : 0 ≤ (Int32.toInt r343) := w344.1
          have p347 : (Int32.toInt r343) ≤ 255 := w344.2.1
          have p348 : 0 ≤ (Int32.toInt z341) := w344.2.2.1
          have p349 : (Int32.toInt z341) ≤ 3 := w344.2.2.2.1
          have p350 : 0 ≤ (Int64.toInt z342) := w344.2.2.2.2.1
          have p351 : (Int64.toInt z342) ≤ 1500 := w344.2.2.2.2.2.1
          have p352 : ((1 ≤ (Int32.toInt z341) ∧ (Int64.toInt z342) = (Int64.toInt z326)) ∨ ((Int32.toInt z325) = 0 ∧ (Int32.toInt z341) = 0 ∧ (Int64.toInt z342) = (Int64.toInt z326) + 1 ∧ (Int64.toInt z326) < (Int64.toInt y3))) := w344.2.2.2.2.2.2
          rcases p352 with ⟨k353, k354⟩ | p352
          · skip
            obtain ⟨z355, ez355⟩ : ∃ z_9, z340 ||| r343 = z_9 := ⟨_, rfl⟩
            have gz355 := fb_rng z355
            refine r_ior 69 z355 C dX12_operand_69 ez355 ?_
            obtain ⟨z356, ez356⟩ : ∃ z_9, Int32.toInt64 z355 = z_9 := ⟨_, rfl⟩
            have tz356 : (Int64.toInt z356) = (Int32.toInt z355) := by rw [← ez356]; exact Int32.toInt_toInt64 _
            refine r_i2l 70 z356 C dX12_operand_70 ez356 ?_
            exact r_lret 71 Rt dX12_operand_71 (z341, z342, 0) (show -2147483648 ≤ (Int64.toInt z356) ∧ (Int64.toInt z356) ≤ 2147483647 ∧ 0 ≤ (Int32.toInt z341) ∧ (Int32.toInt z341) ≤ 3 ∧ 0 ≤ (Int64.toInt z342) ∧ (Int64.toInt z342) ≤ 1500 ∧ 0 ≤ (Int32.toInt 0) ∧ (Int32.toInt 0) ≤ 1 ∧ ((1 ≤ (Int32.toInt z341)) ∨ ((Int32.toInt x7) = 0 ∧ (Int32.toInt z341) = 0 ∧ (Int64.toInt y0) ≤ (Int64.toInt z342))) from ⟨(by first | omega | ((repeat' apply And.intro) <;> first | trivial | rfl | assumption | omega | decide | exact Or.inl rfl | exact Or.inr (Or.inl rfl) | exact Or.inr (Or.inr rfl) | exact Or.inr (Or.inr (by assumption)))), (by first | omega | ((repeat' apply And.intro) <;> first | trivial | rfl | assumption | omega | decide | exact Or.inl rfl | exact Or.inr (Or.inl rfl) | exact Or.inr (Or.inr rfl) | exact Or.inr (Or.inr (by assumption)))), (show _ ∧ _ from ⟨p348, p349⟩).1, (show _ ∧ _ from ⟨p348, p349⟩).2, (show _ ∧ _ from ⟨p350, p351⟩).1, (show _ ∧ _ from ⟨p350, p351⟩).2, (by decide), (by decide), (by first | omega | ((repeat' apply And.intro) <;> first | trivial | rfl | assumption | omega | decide | exact Or.inl rfl | exact Or.inr (Or.inl rfl) | exact Or.inr (Or.inr rfl) | exact Or.inr (Or.inr (by assumption))))⟩) [0, 1] (by decide) rfl (Nat.le_of_ble_eq_true rfl) (Nat.le_of_ble_eq_true rfl)
          obtain ⟨k357, k358, k359, k360⟩ := p352
          exact absurd trivial (by omega)
        obtain ⟨k361, k362, k363, k364⟩ := p336
        refine r_bipush 61 8 C dX12_operand_61 (by decide) ?_
        obtain ⟨z365, ez365⟩ : ∃ z_9, r327 <<< (8 &&& 31) = z_9 := ⟨_, rfl⟩
        have gz365 := fb_rng z365
        refine r_ishl 63 z365 C dX12_operand_63 ez365 ?_
        obtain ⟨z366, ez366⟩ : ∃ z_9, z324 ||| z365 = z_9 := ⟨_, rfl⟩
        have gz366 := fb_rng z366
        refine r_ior 64 z366 C dX12_operand_64 ez366 ?_
        refine r_aload_n 65 0 C dX12_operand_65 rfl ?_
        refine r_callVi 66 C dX12_operand_66 [.int z366] [(h0, .inr (11, [.ref h1, .int x1, .ref h2, .int x2, .int x3, .int x4, .ref h3, .ref h4, .ref h5, .ref h6, .int x5, .int x6, .int z325, .ref h7, .ref h8, .ref h9, .ref h10, .int x8, .int x9, .int x10, .long z326, .int x11, .int x12, .long y1, .long y2, .ref h11, .ref h12, .ref h13, .ref h14, .long y3, .int 0, .ref h15, .int x14, .int x15, .int x16, .int x17, .ref h16, .ref h17, .ref h18, .ref h19, .ref h20, .ref h21, .ref h22, .ref h23, .ref h24, .ref h25, .ref h26, .int x18, .int x19, .int x20, .int x21, .int x22, .int x23, .int x24, .long y4, .int x25, .ref h27, .ref h28, .long y5, .long y6, .int x26, .ref h29, .int x27, .ref h30, .ref h31, .ref h32, .ref h33, .int x28, .int x29, .int x30, .int x31, .ref h34, .ref h35, .int x32, .int x33, .ref h36])), (h1, .inl (gB g, 1500, .inl fn0))] [] (fun sz => c50_X12_dictByte l g h0 h1 x1 h2 x2 x3 x4 h3 h4 h5 h6 x5 x6 z325 h7 h8 h9 h10 x8 x9 x10 z326 x11 x12 y1 y2 h11 h12 h13 h14 y3 0 h15 x14 x15 x16 x17 h16 h17 h18 h19 h20 h21 h22 h23 h24 h25 h26 x18 x19 x20 x21 x22 x23 x24 y4 x25 h27 h28 y5 y6 x26 h29 x27 h30 h31 h32 h33 x28 x29 x30 x31 h34 h35 x32 x33 h36 fn0 i_x1 i_x2 i_x4 ⟨p332, p333⟩ i_x8 ⟨p334, p335⟩ i_x11 i_x12 i_y1 i_y2 i_y3 (by decide) i_x14 i_x15 i_x16 i_x17 i_x19 i_x20 i_x21 i_x22 i_x23 i_x25 i_x26 i_x27 i_x28 i_x29 i_x30 i_x31 i_x32 i_x33 sz) gX12_operand_X12_dictByte rfl ⟨rfl, rfl⟩ 0 (by decide) ⟨Nat.le_of_ble_eq_true rfl, Nat.le_of_ble_eq_true rfl⟩ 0 rfl rfl [0, 1] [] rfl rfl (by decide) (by decide) (by decide) rfl rfl (Nat.le_of_ble_eq_true rfl) ⟨Nat.le_of_ble_eq_true rfl, Nat.le_of_ble_eq_true rfl⟩ (fun r369 u371 w370 => ?_)
        obtain ⟨z367, z368⟩ := u371
        refine r_ws [(h0, .inr (11, [.ref h1, .int x1, .ref h2, .int x2, .int x3, .int x4, .ref h3, .ref h4, .ref h5, .ref h6, .int x5, .int x6, .int z367, .ref h7, .ref h8, .ref h9, .ref h10, .int x8, .int x9, .int x10, .long z368, .int x11, .int x12, .long y1, .long y2, .ref h11, .ref h12, .ref h13, .ref h14, .long y3, .int 0, .ref h15, .int x14, .int x15, .int x16, .int x17, .ref h16, .ref h17, .ref h18, .ref h19, .ref h20, .ref h21, .ref h22, .ref h23, .ref h24, .ref h25, .ref h26, .int x18, .int x19, .int x20, .int x21, .int x22, .int x23, .int x24, .long y4, .int x25, .ref h27, .ref h28, .long y5, .long y6, .int x26, .ref h29, .int x27, .ref h30, .ref h31, .ref h32, .ref h33, .int x28, .int x29, .int x30, .int x31, .ref h34, .ref h35, .int x32, .int x33, .ref h36])), (h1, .inl (gB g, 1500, .inl fn0))] rfl ?_
        have p372 : 0 ≤ (Int32.toInt r369) := w370.1
        have p373 : (Int32.toInt r369) ≤ 255 := w370.2.1
        have p374 : 0 ≤ (Int32.toInt z367) := w370.2.2.1
        have p375 : (Int32.toInt z367) ≤ 3 := w370.2.2.2.1
        have p376 : 0 ≤ (Int64.toInt z368) := w370.2.2.2.2.1
        have p377 : (Int64.toInt z368) ≤ 1500 := w370.2.2.2.2.2.1
        have p378 : ((1 ≤ (Int32.toInt z367) ∧ (Int64.toInt z368) = (Int64.toInt z326)) ∨ ((Int32.toInt z325) = 0 ∧ (Int32.toInt z367) = 0 ∧ (Int64.toInt z368) = (Int64.toInt z326) + 1 ∧ (Int64.toInt z326) < (Int64.toInt y3))) := w370.2.2.2.2.2.2
        rcases p378 with ⟨k379, k380⟩ | p378
        · skip
          obtain ⟨z381, ez381⟩ : ∃ z_9, z366 ||| r369 = z_9 := ⟨_, rfl⟩
          have gz381 := fb_rng z381
          refine r_ior 69 z381 C dX12_operand_69 ez381 ?_
          obtain ⟨z382, ez382⟩ : ∃ z_9, Int32.toInt64 z381 = z_9 := ⟨_, rfl⟩
          have tz382 : (Int64.toInt z382) = (Int32.toInt z381) := by rw [← ez382]; exact Int32.toInt_toInt64 _
          refine r_i2l 70 z382 C dX12_operand_70 ez382 ?_
          exact r_lret 71 Rt dX12_operand_71 (z367, z368, 0) (show -2147483648 ≤ (Int64.toInt z382) ∧ (Int64.toInt z382) ≤ 2147483647 ∧ 0 ≤ (Int32.toInt z367) ∧ (Int32.toInt z367) ≤ 3 ∧ 0 ≤ (Int64.toInt z368) ∧ (Int64.toInt z368) ≤ 1500 ∧ 0 ≤ (Int32.toInt 0) ∧ (Int32.toInt 0) ≤ 1 ∧ ((1 ≤ (Int32.toInt z367)) ∨ ((Int32.toInt x7) = 0 ∧ (Int32.toInt z367) = 0 ∧ (Int64.toInt y0) ≤ (Int64.toInt z368))) from ⟨(by first | omega | ((repeat' apply And.intro) <;> first | trivial | rfl | assumption | omega | decide | exact Or.inl rfl | exact Or.inr (Or.inl rfl) | exact Or.inr (Or.inr rfl) | exact Or.inr (Or.inr (by assumption)))), (by first | omega | ((repeat' apply And.intro) <;> first | trivial | rfl | assumption | omega | decide | exact Or.inl rfl | exact Or.inr (Or.inl rfl) | exact Or.inr (Or.inr rfl) | exact Or.inr (Or.inr (by assumption)))), (show _ ∧ _ from ⟨p374, p375⟩).1, (show _ ∧ _ from ⟨p374, p375⟩).2, (show _ ∧ _ from ⟨p376, p377⟩).1, (show _ ∧ _ from ⟨p376, p377⟩).2, (by decide), (by decide), (by first | omega | ((repeat' apply And.intro) <;> first | trivial | rfl | assumption | omega | decide | exact Or.inl rfl | exact Or.inr (Or.inl rfl) | exact Or.inr (Or.inr rfl) | exact Or.inr (Or.inr (by assumption))))⟩) [0, 1] (by decide) rfl (Nat.le_of_ble_eq_true rfl) (Nat.le_of_ble_eq_true rfl)
        obtain ⟨k383, k384, k385, k386⟩ := p378
        obtain ⟨z387, ez387⟩ : ∃ z_9, z366 ||| r369 = z_9 := ⟨_, rfl⟩
        have gz387 := fb_rng z387
        refine r_ior 69 z387 C dX12_operand_69 ez387 ?_
        obtain ⟨z388, ez388⟩ : ∃ z_9, Int32.toInt64 z387 = z_9 := ⟨_, rfl⟩
        have tz388 : (Int64.toInt z388) = (Int32.toInt z387) := by rw [← ez388]; exact Int32.toInt_toInt64 _
        refine r_i2l 70 z388 C dX12_operand_70 ez388 ?_
        exact r_lret 71 Rt dX12_operand_71 (z367, z368, 0) (show -2147483648 ≤ (Int64.toInt z388) ∧ (Int64.toInt z388) ≤ 2147483647 ∧ 0 ≤ (Int32.toInt z367) ∧ (Int32.toInt z367) ≤ 3 ∧ 0 ≤ (Int64.toInt z368) ∧ (Int64.toInt z368) ≤ 1500 ∧ 0 ≤ (Int32.toInt 0) ∧ (Int32.toInt 0) ≤ 1 ∧ ((1 ≤ (Int32.toInt z367)) ∨ ((Int32.toInt x7) = 0 ∧ (Int32.toInt z367) = 0 ∧ (Int64.toInt y0) ≤ (Int64.toInt z368))) from ⟨(by first | omega | ((repeat' apply And.intro) <;> first | trivial | rfl | assumption | omega | decide | exact Or.inl rfl | exact Or.inr (Or.inl rfl) | exact Or.inr (Or.inr rfl) | exact Or.inr (Or.inr (by assumption)))), (by first | omega | ((repeat' apply And.intro) <;> first | trivial | rfl | assumption | omega | decide | exact Or.inl rfl | exact Or.inr (Or.inl rfl) | exact Or.inr (Or.inr rfl) | exact Or.inr (Or.inr (by assumption)))), (show _ ∧ _ from ⟨p374, p375⟩).1, (show _ ∧ _ from ⟨p374, p375⟩).2, (show _ ∧ _ from ⟨p376, p377⟩).1, (show _ ∧ _ from ⟨p376, p377⟩).2, (by decide), (by decide), (by first | omega | ((repeat' apply And.intro) <;> first | trivial | rfl | assumption | omega | decide | exact Or.inl rfl | exact Or.inr (Or.inl rfl) | exact Or.inr (Or.inr rfl) | exact Or.inr (Or.inr (by assumption))))⟩) [0, 1] (by decide) rfl (Nat.le_of_ble_eq_true rfl) (Nat.le_of_ble_eq_true rfl)
    · skip
      have k389 : (Int32.toInt x0) = 28 := (fa_eq x0 28).mp c3
      refine r_aload_n 21 0 C dX12_operand_21 rfl ?_
      refine r_callVi 22 C dX12_operand_22 [] [(h0, .inr (11, [.ref h1, .int x1, .ref h2, .int x2, .int x3, .int x4, .ref h3, .ref h4, .ref h5, .ref h6, .int x5, .int x6, .int x7, .ref h7, .ref h8, .ref h9, .ref h10, .int x8, .int x9, .int x10, .long y0, .int x11, .int x12, .long y1, .long y2, .ref h11, .ref h12, .ref h13, .ref h14, .long y3, .int 0, .ref h15, .int x14, .int x15, .int x16, .int x17, .ref h16, .ref h17, .ref h18, .ref h19, .ref h20, .ref h21, .ref h22, .ref h23, .ref h24, .ref h25, .ref h26, .int x18, .int x19, .int x20, .int x21, .int x22, .int x23, .int x24, .long y4, .int x25, .ref h27, .ref h28, .long y5, .long y6, .int x26, .ref h29, .int x27, .ref h30, .ref h31, .ref h32, .ref h33, .int x28, .int x29, .int x30, .int x31, .ref h34, .ref h35, .int x32, .int x33, .ref h36])), (h1, .inl (gB g, 1500, .inl fn0))] [] (fun sz => c50_X12_dictByte l g h0 h1 x1 h2 x2 x3 x4 h3 h4 h5 h6 x5 x6 x7 h7 h8 h9 h10 x8 x9 x10 y0 x11 x12 y1 y2 h11 h12 h13 h14 y3 0 h15 x14 x15 x16 x17 h16 h17 h18 h19 h20 h21 h22 h23 h24 h25 h26 x18 x19 x20 x21 x22 x23 x24 y4 x25 h27 h28 y5 y6 x26 h29 x27 h30 h31 h32 h33 x28 x29 x30 x31 h34 h35 x32 x33 h36 fn0 i_x1 i_x2 i_x4 i_x7 i_x8 i_y0 i_x11 i_x12 i_y1 i_y2 i_y3 (by decide) i_x14 i_x15 i_x16 i_x17 i_x19 i_x20 i_x21 i_x22 i_x23 i_x25 i_x26 i_x27 i_x28 i_x29 i_x30 i_x31 i_x32 i_x33 sz) gX12_operand_X12_dictByte rfl ⟨rfl, rfl⟩ 0 (by decide) ⟨Nat.le_of_ble_eq_true rfl, Nat.le_of_ble_eq_true rfl⟩ 0 rfl rfl [0, 1] [] rfl rfl (by decide) (by decide) (by decide) rfl rfl (Nat.le_of_ble_eq_true rfl) ⟨Nat.le_of_ble_eq_true rfl, Nat.le_of_ble_eq_true rfl⟩ (fun r392 u394 w393 => ?_)
      obtain ⟨z390, z391⟩ := u394
      refine r_ws [(h0, .inr (11, [.ref h1, .int x1, .ref h2, .int x2, .int x3, .int x4, .ref h3, .ref h4, .ref h5, .ref h6, .int x5, .int x6, .int z390, .ref h7, .ref h8, .ref h9, .ref h10, .int x8, .int x9, .int x10, .long z391, .int x11, .int x12, .long y1, .long y2, .ref h11, .ref h12, .ref h13, .ref h14, .long y3, .int 0, .ref h15, .int x14, .int x15, .int x16, .int x17, .ref h16, .ref h17, .ref h18, .ref h19, .ref h20, .ref h21, .ref h22, .ref h23, .ref h24, .ref h25, .ref h26, .int x18, .int x19, .int x20, .int x21, .int x22, .int x23, .int x24, .long y4, .int x25, .ref h27, .ref h28, .long y5, .long y6, .int x26, .ref h29, .int x27, .ref h30, .ref h31, .ref h32, .ref h33, .int x28, .int x29, .int x30, .int x31, .ref h34, .ref h35, .int x32, .int x33, .ref h36])), (h1, .inl (gB g, 1500, .inl fn0))] rfl ?_
      have p395 : 0 ≤ (Int32.toInt r392) := w393.1
      have p396 : (Int32.toInt r392) ≤ 255 := w393.2.1
      have p397 : 0 ≤ (Int32.toInt z390) := w393.2.2.1
      have p398 : (Int32.toInt z390) ≤ 3 := w393.2.2.2.1
      have p399 : 0 ≤ (Int64.toInt z391) := w393.2.2.2.2.1
      have p400 : (Int64.toInt z391) ≤ 1500 := w393.2.2.2.2.2.1
      have p401 : ((1 ≤ (Int32.toInt z390) ∧ (Int64.toInt z391) = (Int64.toInt y0)) ∨ ((Int32.toInt x7) = 0 ∧ (Int32.toInt z390) = 0 ∧ (Int64.toInt z391) = (Int64.toInt y0) + 1 ∧ (Int64.toInt y0) < (Int64.toInt y3))) := w393.2.2.2.2.2.2
      rcases p401 with ⟨k402, k403⟩ | p401
      · skip
        refine r_bipush 25 8 C dX12_operand_25 (by decide) ?_
        obtain ⟨z404, ez404⟩ : ∃ z_9, r392 <<< (8 &&& 31) = z_9 := ⟨_, rfl⟩
        have gz404 := fb_rng z404
        refine r_ishl 27 z404 C dX12_operand_27 ez404 ?_
        refine r_aload_n 28 0 C dX12_operand_28 rfl ?_
        refine r_callVi 29 C dX12_operand_29 [.int z404] [(h0, .inr (11, [.ref h1, .int x1, .ref h2, .int x2, .int x3, .int x4, .ref h3, .ref h4, .ref h5, .ref h6, .int x5, .int x6, .int z390, .ref h7, .ref h8, .ref h9, .ref h10, .int x8, .int x9, .int x10, .long z391, .int x11, .int x12, .long y1, .long y2, .ref h11, .ref h12, .ref h13, .ref h14, .long y3, .int 0, .ref h15, .int x14, .int x15, .int x16, .int x17, .ref h16, .ref h17, .ref h18, .ref h19, .ref h20, .ref h21, .ref h22, .ref h23, .ref h24, .ref h25, .ref h26, .int x18, .int x19, .int x20, .int x21, .int x22, .int x23, .int x24, .long y4, .int x25, .ref h27, .ref h28, .long y5, .long y6, .int x26, .ref h29, .int x27, .ref h30, .ref h31, .ref h32, .ref h33, .int x28, .int x29, .int x30, .int x31, .ref h34, .ref h35, .int x32, .int x33, .ref h36])), (h1, .inl (gB g, 1500, .inl fn0))] [] (fun sz => c50_X12_dictByte l g h0 h1 x1 h2 x2 x3 x4 h3 h4 h5 h6 x5 x6 z390 h7 h8 h9 h10 x8 x9 x10 z391 x11 x12 y1 y2 h11 h12 h13 h14 y3 0 h15 x14 x15 x16 x17 h16 h17 h18 h19 h20 h21 h22 h23 h24 h25 h26 x18 x19 x20 x21 x22 x23 x24 y4 x25 h27 h28 y5 y6 x26 h29 x27 h30 h31 h32 h33 x28 x29 x30 x31 h34 h35 x32 x33 h36 fn0 i_x1 i_x2 i_x4 ⟨p397, p398⟩ i_x8 ⟨p399, p400⟩ i_x11 i_x12 i_y1 i_y2 i_y3 (by decide) i_x14 i_x15 i_x16 i_x17 i_x19 i_x20 i_x21 i_x22 i_x23 i_x25 i_x26 i_x27 i_x28 i_x29 i_x30 i_x31 i_x32 i_x33 sz) gX12_operand_X12_dictByte rfl ⟨rfl, rfl⟩ 0 (by decide) ⟨Nat.le_of_ble_eq_true rfl, Nat.le_of_ble_eq_true rfl⟩ 0 rfl rfl [0, 1] [] rfl rfl (by decide) (by decide) (by decide) rfl rfl (Nat.le_of_ble_eq_true rfl) ⟨Nat.le_of_ble_eq_true rfl, Nat.le_of_ble_eq_true rfl⟩ (fun r407 u409 w408 => ?_)
        obtain ⟨z405, z406⟩ := u409
        refine r_ws [(h0, .inr (11, [.ref h1, .int x1, .ref h2, .int x2, .int x3, .int x4, .ref h3, .ref h4, .ref h5, .ref h6, .int x5, .int x6, .int z405, .ref h7, .ref h8, .ref h9, .ref h10, .int x8, .int x9, .int x10, .long z406, .int x11, .int x12, .long y1, .long y2, .ref h11, .ref h12, .ref h13, .ref h14, .long y3, .int 0, .ref h15, .int x14, .int x15, .int x16, .int x17, .ref h16, .ref h17, .ref h18, .ref h19, .ref h20, .ref h21, .ref h22, .ref h23, .ref h24, .ref h25, .ref h26, .int x18, .int x19, .int x20, .int x21, .int x22, .int x23, .int x24, .long y4, .int x25, .ref h27, .ref h28, .long y5, .long y6, .int x26, .ref h29, .int x27, .ref h30, .ref h31, .ref h32, .ref h33, .int x28, .int x29, .int x30, .int x31, .ref h34, .ref h35, .int x32, .int x33, .ref h36])), (h1, .inl (gB g, 1500, .inl fn0))] rfl ?_
        have p410 : 0 ≤ (Int32.toInt r407) := w408.1
        have p411 : (Int32.toInt r407) ≤ 255 := w408.2.1
        have p412 : 0 ≤ (Int32.toInt z405) := w408.2.2.1
        have p413 : (Int32.toInt z405) ≤ 3 := w408.2.2.2.1
        have p414 : 0 ≤ (Int64.toInt z406) := w408.2.2.2.2.1
        have p415 : (Int64.toInt z406) ≤ 1500 := w408.2.2.2.2.2.1
        have p416 : ((1 ≤ (Int32.toInt z405) ∧ (Int64.toInt z406) = (Int64.toInt z391)) ∨ ((Int32.toInt z390) = 0 ∧ (Int32.toInt z405) = 0 ∧ (Int64.toInt z406) = (Int64.toInt z391) + 1 ∧ (Int64.toInt z391) < (Int64.toInt y3))) := w408.2.2.2.2.2.2
        rcases p416 with ⟨k417, k418⟩ | p416
        · skip
          obtain ⟨z419, ez419⟩ : ∃ z_9, z404 ||| r407 = z_9 := ⟨_, rfl⟩
          have gz419 := fb_rng z419
          refine r_ior 32 z419 C dX12_operand_32 ez419 ?_
          obtain ⟨z420, ez420⟩ : ∃ z_9, (Int32.toInt16 z419).toInt32 = z_9 := ⟨_, rfl⟩
          have gz420 := fb_rng z420
          refine r_i2s 33 z420 C dX12_operand_33 ez420 ?_
          obtain ⟨z421, ez421⟩ : ∃ z_9, Int32.toInt64 z420 = z_9 := ⟨_, rfl⟩
          have tz421 : (Int64.toInt z421) = (Int32.toInt z420) := by rw [← ez421]; exact Int32.toInt_toInt64 _
          refine r_i2l 34 z421 C dX12_operand_34 ez421 ?_
          exact r_lret 35 Rt dX12_operand_35 (z405, z406, 0) (show -2147483648 ≤ (Int64.toInt z421) ∧ (Int64.toInt z421) ≤ 2147483647 ∧ 0 ≤ (Int32.toInt z405) ∧ (Int32.toInt z405) ≤ 3 ∧ 0 ≤ (Int64.toInt z406) ∧ (Int64.toInt z406) ≤ 1500 ∧ 0 ≤ (Int32.toInt 0) ∧ (Int32.toInt 0) ≤ 1 ∧ ((1 ≤ (Int32.toInt z405)) ∨ ((Int32.toInt x7) = 0 ∧ (Int32.toInt z405) = 0 ∧ (Int64.toInt y0) ≤ (Int64.toInt z406))) from ⟨(by first | omega | ((repeat' apply And.intro) <;> first | trivial | rfl | assumption | omega | decide | exact Or.inl rfl | exact Or.inr (Or.inl rfl) | exact Or.inr (Or.inr rfl) | exact Or.inr (Or.inr (by assumption)))), (by first | omega | ((repeat' apply And.intro) <;> first | trivial | rfl | assumption | omega | decide | exact Or.inl rfl | exact Or.inr (Or.inl rfl) | exact Or.inr (Or.inr rfl) | exact Or.inr (Or.inr (by assumption)))), (show _ ∧ _ from ⟨p412, p413⟩).1, (show _ ∧ _ from ⟨p412, p413⟩).2, (show _ ∧ _ from ⟨p414, p415⟩).1, (show _ ∧ _ from ⟨p414, p415⟩).2, (by decide), (by decide), (by first | omega | ((repeat' apply And.intro) <;> first | trivial | rfl | assumption | omega | decide | exact Or.inl rfl | exact Or.inr (Or.inl rfl) | exact Or.inr (Or.inr rfl) | exact Or.inr (Or.inr (by assumption))))⟩) [0, 1] (by decide) rfl (Nat.le_of_ble_eq_true rfl) (Nat.le_of_ble_eq_true rfl)
        obtain ⟨k422, k423, k424, k425⟩ := p416
        exact absurd trivial (by omega)
      obtain ⟨k426, k427, k428, k429⟩ := p401
      refine r_bipush 25 8 C dX12_operand_25 (by decide) ?_
      obtain ⟨z430, ez430⟩ : ∃ z_9, r392 <<< (8 &&& 31) = z_9 := ⟨_, rfl⟩
      have gz430 := fb_rng z430
      refine r_ishl 27 z430 C dX12_operand_27 ez430 ?_
      refine r_aload_n 28 0 C dX12_operand_28 rfl ?_
      refine r_callVi 29 C dX12_operand_29 [.int z430] [(h0, .inr (11, [.ref h1, .int x1, .ref h2, .int x2, .int x3, .int x4, .ref h3, .ref h4, .ref h5, .ref h6, .int x5, .int x6, .int z390, .ref h7, .ref h8, .ref h9, .ref h10, .int x8, .int x9, .int x10, .long z391, .int x11, .int x12, .long y1, .long y2, .ref h11, .ref h12, .ref h13, .ref h14, .long y3, .int 0, .ref h15, .int x14, .int x15, .int x16, .int x17, .ref h16, .ref h17, .ref h18, .ref h19, .ref h20, .ref h21, .ref h22, .ref h23, .ref h24, .ref h25, .ref h26, .int x18, .int x19, .int x20, .int x21, .int x22, .int x23, .int x24, .long y4, .int x25, .ref h27, .ref h28, .long y5, .long y6, .int x26, .ref h29, .int x27, .ref h30, .ref h31, .ref h32, .ref h33, .int x28, .int x29, .int x30, .int x31, .ref h34, .ref h35, .int x32, .int x33, .ref h36])), (h1, .inl (gB g, 1500, .inl fn0))] [] (fun sz => c50_X12_dictByte l g h0 h1 x1 h2 x2 x3 x4 h3 h4 h5 h6 x5 x6 z390 h7 h8 h9 h10 x8 x9 x10 z391 x11 x12 y1 y2 h11 h12 h13 h14 y3 0 h15 x14 x15 x16 x17 h16 h17 h18 h19 h20 h21 h22 h23 h24 h25 h26 x18 x19 x20 x21 x22 x23 x24 y4 x25 h27 h28 y5 y6 x26 h29 x27 h30 h31 h32 h33 x28 x29 x30 x31 h34 h35 x32 x33 h36 fn0 i_x1 i_x2 i_x4 ⟨p397, p398⟩ i_x8 ⟨p399, p400⟩ i_x11 i_x12 i_y1 i_y2 i_y3 (by decide) i_x14 i_x15 i_x16 i_x17 i_x19 i_x20 i_x21 i_x22 i_x23 i_x25 i_x26 i_x27 i_x28 i_x29 i_x30 i_x31 i_x32 i_x33 sz) gX12_operand_X12_dictByte rfl ⟨rfl, rfl⟩ 0 (by decide) ⟨Nat.le_of_ble_eq_true rfl, Nat.le_of_ble_eq_true rfl⟩ 0 rfl rfl [0, 1] [] rfl rfl (by decide) (by decide) (by decide) rfl rfl (Nat.le_of_ble_eq_true rfl) ⟨Nat.le_of_ble_eq_true rfl, Nat.le_of_ble_eq_true rfl⟩ (fun r433 u435 w434 => ?_)
      obtain ⟨z431, z432⟩ := u435
      refine r_ws [(h0, .inr (11, [.ref h1, .int x1, .ref h2, .int x2, .int x3, .int x4, .ref h3, .ref h4, .ref h5, .ref h6, .int x5, .int x6, .int z431, .ref h7, .ref h8, .ref h9, .ref h10, .int x8, .int x9, .int x10, .long z432, .int x11, .int x12, .long y1, .long y2, .ref h11, .ref h12, .ref h13, .ref h14, .long y3, .int 0, .ref h15, .int x14, .int x15, .int x16, .int x17, .ref h16, .ref h17, .ref h18, .ref h19, .ref h20, .ref h21, .ref h22, .ref h23, .ref h24, .ref h25, .ref h26, .int x18, .int x19, .int x20, .int x21, .int x22, .int x23, .int x24, .long y4, .int x25, .ref h27, .ref h28, .long y5, .long y6, .int x26, .ref h29, .int x27, .ref h30, .ref h31, .ref h32, .ref h33, .int x28, .int x29, .int x30, .int x31, .ref h34, .ref h35, .int x32, .int x33, .ref h36])), (h1, .inl (gB g, 1500, .inl fn0))] rfl ?_
      have p436 : 0 ≤ (Int32.toInt r433) := w434.1
      have p437 : (Int32.toInt r433) ≤ 255 := w434.2.1
      have p438 : 0 ≤ (Int32.toInt z431) := w434.2.2.1
      have p439 : (Int32.toInt z431) ≤ 3 := w434.2.2.2.1
      have p440 : 0 ≤ (Int64.toInt z432) := w434.2.2.2.2.1
      have p441 : (Int64.toInt z432) ≤ 1500 := w434.2.2.2.2.2.1
      have p442 : ((1 ≤ (Int32.toInt z431) ∧ (Int64.toInt z432) = (Int64.toInt z391)) ∨ ((Int32.toInt z390) = 0 ∧ (Int32.toInt z431) = 0 ∧ (Int64.toInt z432) = (Int64.toInt z391) + 1 ∧ (Int64.toInt z391) < (Int64.toInt y3))) := w434.2.2.2.2.2.2
      rcases p442 with ⟨k443, k444⟩ | p442
      · skip
        obtain ⟨z445, ez445⟩ : ∃ z_9, z430 ||| r433 = z_9 := ⟨_, rfl⟩
        have gz445 := fb_rng z445
        refine r_ior 32 z445 C dX12_operand_32 ez445 ?_
        obtain ⟨z446, ez446⟩ : ∃ z_9, (Int32.toInt16 z445).toInt32 = z_9 := ⟨_, rfl⟩
        have gz446 := fb_rng z446
        refine r_i2s 33 z446 C dX12_operand_33 ez446 ?_
        obtain ⟨z447, ez447⟩ : ∃ z_9, Int32.toInt64 z446 = z_9 := ⟨_, rfl⟩
        have tz447 : (Int64.toInt z447) = (Int32.toInt z446) := by rw [← ez447]; exact Int32.toInt_toInt64 _
        refine r_i2l 34 z447 C dX12_operand_34 ez447 ?_
        exact r_lret 35 Rt dX12_operand_35 (z431, z432, 0) (show -2147483648 ≤ (Int64.toInt z447) ∧ (Int64.toInt z447) ≤ 2147483647 ∧ 0 ≤ (Int32.toInt z431) ∧ (Int32.toInt z431) ≤ 3 ∧ 0 ≤ (Int64.toInt z432) ∧ (Int64.toInt z432) ≤ 1500 ∧ 0 ≤ (Int32.toInt 0) ∧ (Int32.toInt 0) ≤ 1 ∧ ((1 ≤ (Int32.toInt z431)) ∨ ((Int32.toInt x7) = 0 ∧ (Int32.toInt z431) = 0 ∧ (Int64.toInt y0) ≤ (Int64.toInt z432))) from ⟨(by first | omega | ((repeat' apply And.intro) <;> first | trivial | rfl | assumption | omega | decide | exact Or.inl rfl | exact Or.inr (Or.inl rfl) | exact Or.inr (Or.inr rfl) | exact Or.inr (Or.inr (by assumption)))), (by first | omega | ((repeat' apply And.intro) <;> first | trivial | rfl | assumption | omega | decide | exact Or.inl rfl | exact Or.inr (Or.inl rfl) | exact Or.inr (Or.inr rfl) | exact Or.inr (Or.inr (by assumption)))), (show _ ∧ _ from ⟨p438, p439⟩).1, (show _ ∧ _ from ⟨p438, p439⟩).2, (show _ ∧ _ from ⟨p440, p441⟩).1, (show _ ∧ _ from ⟨p440, p441⟩).2, (by decide), (by decide), (by first | omega | ((repeat' apply And.intro) <;> first | trivial | rfl | assumption | omega | decide | exact Or.inl rfl | exact Or.inr (Or.inl rfl) | exact Or.inr (Or.inr rfl) | exact Or.inr (Or.inr (by assumption))))⟩) [0, 1] (by decide) rfl (Nat.le_of_ble_eq_true rfl) (Nat.le_of_ble_eq_true rfl)
      obtain ⟨k448, k449, k450, k451⟩ := p442
      obtain ⟨z452, ez452⟩ : ∃ z_9, z430 ||| r433 = z_9 := ⟨_, rfl⟩
      have gz452 := fb_rng z452
      refine r_ior 32 z452 C dX12_operand_32 ez452 ?_
      obtain ⟨z453, ez453⟩ : ∃ z_9, (Int32.toInt16 z452).toInt32 = z_9 := ⟨_, rfl⟩
      have gz453 := fb_rng z453
      refine r_i2s 33 z453 C dX12_operand_33 ez453 ?_
      obtain ⟨z454, ez454⟩ : ∃ z_9, Int32.toInt64 z453 = z_9 := ⟨_, rfl⟩
      have tz454 : (Int64.toInt z454) = (Int32.toInt z453) := by rw [← ez454]; exact Int32.toInt_toInt64 _
      refine r_i2l 34 z454 C dX12_operand_34 ez454 ?_
      exact r_lret 35 Rt dX12_operand_35 (z431, z432, 0) (show -2147483648 ≤ (Int64.toInt z454) ∧ (Int64.toInt z454) ≤ 2147483647 ∧ 0 ≤ (Int32.toInt z431) ∧ (Int32.toInt z431) ≤ 3 ∧ 0 ≤ (Int64.toInt z432) ∧ (Int64.toInt z432) ≤ 1500 ∧ 0 ≤ (Int32.toInt 0) ∧ (Int32.toInt 0) ≤ 1 ∧ ((1 ≤ (Int32.toInt z431)) ∨ ((Int32.toInt x7) = 0 ∧ (Int32.toInt z431) = 0 ∧ (Int64.toInt y0) ≤ (Int64.toInt z432))) from ⟨(by first | omega | ((repeat' apply And.intro) <;> first | trivial | rfl | assumption | omega | decide | exact Or.inl rfl | exact Or.inr (Or.inl rfl) | exact Or.inr (Or.inr rfl) | exact Or.inr (Or.inr (by assumption)))), (by first | omega | ((repeat' apply And.intro) <;> first | trivial | rfl | assumption | omega | decide | exact Or.inl rfl | exact Or.inr (Or.inl rfl) | exact Or.inr (Or.inr rfl) | exact Or.inr (Or.inr (by assumption)))), (show _ ∧ _ from ⟨p438, p439⟩).1, (show _ ∧ _ from ⟨p438, p439⟩).2, (show _ ∧ _ from ⟨p440, p441⟩).1, (show _ ∧ _ from ⟨p440, p441⟩).2, (by decide), (by decide), (by first | omega | ((repeat' apply And.intro) <;> first | trivial | rfl | assumption | omega | decide | exact Or.inl rfl | exact Or.inr (Or.inl rfl) | exact Or.inr (Or.inr rfl) | exact Or.inr (Or.inr (by assumption))))⟩) [0, 1] (by decide) rfl (Nat.le_of_ble_eq_true rfl) (Nat.le_of_ble_eq_true rfl)
  · skip
    have k455 : (Int32.toInt x0) = 30 := (fa_eq x0 30).mp c1
    refine r_iconst 7 1 C dX12_operand_7 (by decide) ?_
    refine r_goto 8 12 C dX12_operand_8 (by decide) ?_
    refine r_put 12 C dX12_operand_12 (k := 30) 0 rfl rfl hiX12 tyX12 tyX12_ok nmX12 (by decide) rfl (mg 1 rfl) (Or.inl rfl) rfl rfl rfl rfl (Nat.le_of_ble_eq_true rfl) [(h0, .inr (11, [.ref h1, .int x1, .ref h2, .int x2, .int x3, .int x4, .ref h3, .ref h4, .ref h5, .ref h6, .int x5, .int x6, .int x7, .ref h7, .ref h8, .ref h9, .ref h10, .int x8, .int x9, .int x10, .long y0, .int x11, .int x12, .long y1, .long y2, .ref h11, .ref h12, .ref h13, .ref h14, .long y3, .int 1, .ref h15, .int x14, .int x15, .int x16, .int x17, .ref h16, .ref h17, .ref h18, .ref h19, .ref h20, .ref h21, .ref h22, .ref h23, .ref h24, .ref h25, .ref h26, .int x18, .int x19, .int x20, .int x21, .int x22, .int x23, .int x24, .long y4, .int x25, .ref h27, .ref h28, .long y5, .long y6, .int x26, .ref h29, .int x27, .ref h30, .ref h31, .ref h32, .ref h33, .int x28, .int x29, .int x30, .int x31, .ref h34, .ref h35, .int x32, .int x33, .ref h36])), (h1, .inl (gB g, 1500, .inl fn0))] rfl ?_
    refine r_iload_n 15 1 C dX12_operand_15 rfl ?_
    refine r_bipush 16 28 C dX12_operand_16 (by decide) ?_
    refine r_icmp_ne_t 18 36 C dX12_operand_18 (by decide) (fun h_9 => by have h_8 : (Int32.toInt x0) = 28 := (fa_eq x0 28).mp h_9; omega) ?_
    refine r_iload_n 36 1 C dX12_operand_36 rfl ?_
    refine r_bipush 37 29 C dX12_operand_37 (by decide) ?_
    refine r_icmp_ne_t 39 72 C dX12_operand_39 (by decide) (fun h_9 => by have h_8 : (Int32.toInt x0) = 29 := (fa_eq x0 29).mp h_9; omega) ?_
    refine r_iload_n 72 1 C dX12_operand_72 rfl ?_
    refine r_bipush 73 32 C dX12_operand_73 (by decide) ?_
    refine r_icmp_lt_t 75 92 C dX12_operand_75 (by decide) ((fa_lt x0 32).mpr (by show (Int32.toInt x0) < 32; omega)) ?_
    refine r_iload_n 92 1 C dX12_operand_92 rfl ?_
    refine r_sipush 93 247 C dX12_operand_93 (by decide) ?_
    refine r_icmp_lt_t 96 125 C dX12_operand_96 (by decide) ((fa_lt x0 247).mpr (by show (Int32.toInt x0) < 247; omega)) ?_
    refine r_iload_n 125 1 C dX12_operand_125 rfl ?_
    refine r_sipush 126 251 C dX12_operand_126 (by decide) ?_
    refine r_icmp_lt_t 129 159 C dX12_operand_129 (by decide) ((fa_lt x0 251).mpr (by show (Int32.toInt x0) < 251; omega)) ?_
    refine r_iload_n 159 1 C dX12_operand_159 rfl ?_
    refine r_bipush 160 30 C dX12_operand_160 (by decide) ?_
    refine r_icmp_eq_t 162 169 C dX12_operand_162 (by decide) ((fa_eq x0 30).mpr (by show (Int32.toInt x0) = 30; omega)) ?_
    refine r_iconst 169 0 C dX12_operand_169 (by decide) ?_
    refine r_istore_n 170 C dX12_operand_170 [(2, .int 0), (0, .ref h0), (1, .int x0)] (by decide) rfl ?_
    refine r_iload_n 171 0 C dX12_operand_171 rfl ?_
    refine r_if_eq_t 172 189 C dX12_operand_172 (by decide) (by decide) ?_
    have lp460 : ∀ (n459 : Nat) (z456 : Int32) (z457 : Int32) (z458 : Int64), (0 ≤ (Int32.toInt z456) ∧ (Int32.toInt z456) ≤ 1) → (0 ≤ (Int32.toInt z457) ∧ (Int32.toInt z457) ≤ 3) → (0 ≤ (Int64.toInt z458) ∧ (Int64.toInt z458) ≤ 1500) → ((Int64.toInt y0) ≤ (Int64.toInt z458) ∧ (1 ≤ (Int32.toInt z457) ∨ (Int32.toInt x7) = 0)) → Int.toNat (4 * (1501 - (Int64.toInt z458)) + (3 - (Int32.toInt z457))) < n459 → WW p l e ({ frames := 2, cells := 0, slots := 0, locals := 42 } : Room) s m args below meth c A Q g 4 0 0 [(h0, .inr (11, [.ref h1, .int x1, .ref h2, .int x2, .int x3, .int x4, .ref h3, .ref h4, .ref h5, .ref h6, .int x5, .int x6, .int z457, .ref h7, .ref h8, .ref h9, .ref h10, .int x8, .int x9, .int x10, .long z458, .int x11, .int x12, .long y1, .long y2, .ref h11, .ref h12, .ref h13, .ref h14, .long y3, .int 1, .ref h15, .int x14, .int x15, .int x16, .int x17, .ref h16, .ref h17, .ref h18, .ref h19, .ref h20, .ref h21, .ref h22, .ref h23, .ref h24, .ref h25, .ref h26, .int x18, .int x19, .int x20, .int x21, .int x22, .int x23, .int x24, .long y4, .int x25, .ref h27, .ref h28, .long y5, .long y6, .int x26, .ref h29, .int x27, .ref h30, .ref h31, .ref h32, .ref h33, .int x28, .int x29, .int x30, .int x31, .ref h34, .ref h35, .int x32, .int x33, .ref h36])), (h1, .inl (gB g, 1500, .inl fn0))] 189 [(2, .int z456), (0, .ref h0), (1, .int x0)] [] := by
      intro n459
      induction n459 with
      | zero => intro z456 z457 z458 i463 i464 i465 j466 hm462; exact absurd hm462 (Nat.not_lt_zero _)
      | succ n459 ih461 =>
        intro z456 z457 z458 i463 i464 i465 j466 hm462
        obtain ⟨i463a, i463b⟩ := i463
        obtain ⟨i464a, i464b⟩ := i464
        obtain ⟨i465a, i465b⟩ := i465
        refine r_iload_n 189 0 C dX12_operand_189 rfl ?_
        refine r_if_ne 190 270 C dX12_operand_190 (by decide) (fun c467 => ?_) (fun c467 => ?_)
        · skip
          have k468 : ¬ ((Int32.toInt z456) = 0) := fun h_9 => c467 ((fa_eq z456 0).mpr h_9)
          refine r_lconst 270 0 C dX12_operand_270 (by decide) ?_
          exact r_lret 271 Rt dX12_operand_271 (z457, z458, 1) (show -2147483648 ≤ (Int64.toInt 0) ∧ (Int64.toInt 0) ≤ 2147483647 ∧ 0 ≤ (Int32.toInt z457) ∧ (Int32.toInt z457) ≤ 3 ∧ 0 ≤ (Int64.toInt z458) ∧ (Int64.toInt z458) ≤ 1500 ∧ 0 ≤ (Int32.toInt 1) ∧ (Int32.toInt 1) ≤ 1 ∧ ((1 ≤ (Int32.toInt z457)) ∨ ((Int32.toInt x7) = 0 ∧ (Int32.toInt z457) = 0 ∧ (Int64.toInt y0) ≤ (Int64.toInt z458))) from ⟨(by decide), (by decide), (show _ ∧ _ from ⟨i464a, i464b⟩).1, (show _ ∧ _ from ⟨i464a, i464b⟩).2, (show _ ∧ _ from ⟨i465a, i465b⟩).1, (show _ ∧ _ from ⟨i465a, i465b⟩).2, (by decide), (by decide), (by first | omega | ((repeat' apply And.intro) <;> first | trivial | rfl | assumption | omega | decide | exact Or.inl rfl | exact Or.inr (Or.inl rfl) | exact Or.inr (Or.inr rfl) | exact Or.inr (Or.inr (by assumption))))⟩) [0, 1] (by decide) rfl (Nat.le_of_ble_eq_true rfl) (Nat.le_of_ble_eq_true rfl)
        · skip
          have k469 : (Int32.toInt z456) = 0 := (fa_eq z456 0).mp c467
          refine r_aload_n 193 1 C dX12_operand_193 rfl ?_
          refine r_get 194 C dX12_operand_194 (k := 12) 0 rfl rfl hiX12 (by decide) rfl (mg 2 rfl) (Or.inl rfl) rfl ?_
          refine r_if_ne 197 270 C dX12_operand_197 (by decide) (fun c470 => ?_) (fun c470 => ?_)
          · skip
            have k471 : ¬ ((Int32.toInt z457) = 0) := fun h_9 => c470 ((fa_eq z457 0).mpr h_9)
            refine r_lconst 270 0 C dX12_operand_270 (by decide) ?_
            exact r_lret 271 Rt dX12_operand_271 (z457, z458, 1) (show -2147483648 ≤ (Int64.toInt 0) ∧ (Int64.toInt 0) ≤ 2147483647 ∧ 0 ≤ (Int32.toInt z457) ∧ (Int32.toInt z457) ≤ 3 ∧ 0 ≤ (Int64.toInt z458) ∧ (Int64.toInt z458) ≤ 1500 ∧ 0 ≤ (Int32.toInt 1) ∧ (Int32.toInt 1) ≤ 1 ∧ ((1 ≤ (Int32.toInt z457)) ∨ ((Int32.toInt x7) = 0 ∧ (Int32.toInt z457) = 0 ∧ (Int64.toInt y0) ≤ (Int64.toInt z458))) from ⟨(by decide), (by decide), (show _ ∧ _ from ⟨i464a, i464b⟩).1, (show _ ∧ _ from ⟨i464a, i464b⟩).2, (show _ ∧ _ from ⟨i465a, i465b⟩).1, (show _ ∧ _ from ⟨i465a, i465b⟩).2, (by decide), (by decide), (by first | omega | ((repeat' apply And.intro) <;> first | trivial | rfl | assumption | omega | decide | exact Or.inl rfl | exact Or.inr (Or.inl rfl) | exact Or.inr (Or.inr rfl) | exact Or.inr (Or.inr (by assumption))))⟩) [0, 1] (by decide) rfl (Nat.le_of_ble_eq_true rfl) (Nat.le_of_ble_eq_true rfl)
          · skip
            have k472 : (Int32.toInt z457) = 0 := (fa_eq z457 0).mp c470
            refine r_aload_n 200 1 C dX12_operand_200 rfl ?_
            refine r_callVi 201 C dX12_operand_201 [] [(h0, .inr (11, [.ref h1, .int x1, .ref h2, .int x2, .int x3, .int x4, .ref h3, .ref h4, .ref h5, .ref h6, .int x5, .int x6, .int z457, .ref h7, .ref h8, .ref h9, .ref h10, .int x8, .int x9, .int x10, .long z458, .int x11, .int x12, .long y1, .long y2, .ref h11, .ref h12, .ref h13, .ref h14, .long y3, .int 1, .ref h15, .int x14, .int x15, .int x16, .int x17, .ref h16, .ref h17, .ref h18, .ref h19, .ref h20, .ref h21, .ref h22, .ref h23, .ref h24, .ref h25, .ref h26, .int x18, .int x19, .int x20, .int x21, .int x22, .int x23, .int x24, .long y4, .int x25, .ref h27, .ref h28, .long y5, .long y6, .int x26, .ref h29, .int x27, .ref h30, .ref h31, .ref h32, .ref h33, .int x28, .int x29, .int x30, .int x31, .ref h34, .ref h35, .int x32, .int x33, .ref h36])), (h1, .inl (gB g, 1500, .inl fn0))] [] (fun sz => c50_X12_dictByte l g h0 h1 x1 h2 x2 x3 x4 h3 h4 h5 h6 x5 x6 z457 h7 h8 h9 h10 x8 x9 x10 z458 x11 x12 y1 y2 h11 h12 h13 h14 y3 1 h15 x14 x15 x16 x17 h16 h17 h18 h19 h20 h21 h22 h23 h24 h25 h26 x18 x19 x20 x21 x22 x23 x24 y4 x25 h27 h28 y5 y6 x26 h29 x27 h30 h31 h32 h33 x28 x29 x30 x31 h34 h35 x32 x33 h36 fn0 i_x1 i_x2 i_x4 ⟨i464a, i464b⟩ i_x8 ⟨i465a, i465b⟩ i_x11 i_x12 i_y1 i_y2 i_y3 (by decide) i_x14 i_x15 i_x16 i_x17 i_x19 i_x20 i_x21 i_x22 i_x23 i_x25 i_x26 i_x27 i_x28 i_x29 i_x30 i_x31 i_x32 i_x33 sz) gX12_operand_X12_dictByte rfl ⟨rfl, rfl⟩ 0 (by decide) ⟨Nat.le_of_ble_eq_true rfl, Nat.le_of_ble_eq_true rfl⟩ 0 rfl rfl [0, 1] [] rfl rfl (by decide) (by decide) (by decide) rfl rfl (Nat.le_of_ble_eq_true rfl) ⟨Nat.le_of_ble_eq_true rfl, Nat.le_of_ble_eq_true rfl⟩ (fun r475 u477 w476 => ?_)
            obtain ⟨z473, z474⟩ := u477
            refine r_ws [(h0, .inr (11, [.ref h1, .int x1, .ref h2, .int x2, .int x3, .int x4, .ref h3, .ref h4, .ref h5, .ref h6, .int x5, .int x6, .int z473, .ref h7, .ref h8, .ref h9, .ref h10, .int x8, .int x9, .int x10, .long z474, .int x11, .int x12, .long y1, .long y2, .ref h11, .ref h12, .ref h13, .ref h14, .long y3, .int 1, .ref h15, .int x14, .int x15, .int x16, .int x17, .ref h16, .ref h17, .ref h18, .ref h19, .ref h20, .ref h21, .ref h22, .ref h23, .ref h24, .ref h25, .ref h26, .int x18, .int x19, .int x20, .int x21, .int x22, .int x23, .int x24, .long y4, .int x25, .ref h27, .ref h28, .long y5, .long y6, .int x26, .ref h29, .int x27, .ref h30, .ref h31, .ref h32, .ref h33, .int x28, .int x29, .int x30, .int x31, .ref h34, .ref h35, .int x32, .int x33, .ref h36])), (h1, .inl (gB g, 1500, .inl fn0))] rfl ?_
            have p478 : 0 ≤ (Int32.toInt r475) := w476.1
            have p479 : (Int32.toInt r475) ≤ 255 := w476.2.1
            have p480 : 0 ≤ (Int32.toInt z473) := w476.2.2.1
            have p481 : (Int32.toInt z473) ≤ 3 := w476.2.2.2.1
            have p482 : 0 ≤ (Int64.toInt z474) := w476.2.2.2.2.1
            have p483 : (Int64.toInt z474) ≤ 1500 := w476.2.2.2.2.2.1
            have p484 : ((1 ≤ (Int32.toInt z473) ∧ (Int64.toInt z474) = (Int64.toInt z458)) ∨ ((Int32.toInt z457) = 0 ∧ (Int32.toInt z473) = 0 ∧ (Int64.toInt z474) = (Int64.toInt z458) + 1 ∧ (Int64.toInt z458) < (Int64.toInt y3))) := w476.2.2.2.2.2.2
            rcases p484 with ⟨k485, k486⟩ | p484
            · skip
              refine r_istore_n 204 C dX12_operand_204 [(3, .int r475), (2, .int z456), (0, .ref h0), (1, .int x0)] (by decide) rfl ?_
              refine r_iload_n 205 0 C dX12_operand_205 rfl ?_
              refine r_iconst 206 4 C dX12_operand_206 (by decide) ?_
              obtain ⟨z487, ez487⟩ : ∃ z_9, r475 >>> (4 &&& 31) = z_9 := ⟨_, rfl⟩
              have tz487 : (Int32.toInt z487) = (Int32.toInt r475) / 16 := by rw [← ez487]; exact shr_4 r475
              refine r_ishr 207 z487 C dX12_operand_207 ez487 ?_
              refine r_bipush 208 13 C dX12_operand_208 (by decide) ?_
              refine r_icmp_eq 210 230 C dX12_operand_210 (by decide) (fun c488 => ?_) (fun c488 => ?_)
              · skip
                have k489 : (Int32.toInt z487) = 13 := (fa_eq z487 13).mp c488
                refine r_aload_n 230 2 C dX12_operand_230 rfl ?_
                refine r_iconst 231 2 C dX12_operand_231 (by decide) ?_
                refine r_callVi 232 C dX12_operand_232 [] [(h0, .inr (11, [.ref h1, .int x1, .ref h2, .int x2, .int x3, .int x4, .ref h3, .ref h4, .ref h5, .ref h6, .int x5, .int x6, .int z473, .ref h7, .ref h8, .ref h9, .ref h10, .int x8, .int x9, .int x10, .long z474, .int x11, .int x12, .long y1, .long y2, .ref h11, .ref h12, .ref h13, .ref h14, .long y3, .int 1, .ref h15, .int x14, .int x15, .int x16, .int x17, .ref h16, .ref h17, .ref h18, .ref h19, .ref h20, .ref h21, .ref h22, .ref h23, .ref h24, .ref h25, .ref h26, .int x18, .int x19, .int x20, .int x21, .int x22, .int x23, .int x24, .long y4, .int x25, .ref h27, .ref h28, .long y5, .long y6, .int x26, .ref h29, .int x27, .ref h30, .ref h31, .ref h32, .ref h33, .int x28, .int x29, .int x30, .int x31, .ref h34, .ref h35, .int x32, .int x33, .ref h36]))] [(h1, .inl (gB g, 1500, .inl fn0))] (fun sz => c17_X12_fails l g h0 2 h1 x1 h2 x2 x3 x4 h3 h4 h5 h6 x5 x6 z473 h7 h8 h9 h10 x8 x9 x10 z474 x11 x12 y1 y2 h11 h12 h13 h14 y3 1 h15 x14 x15 x16 x17 h16 h17 h18 h19 h20 h21 h22 h23 h24 h25 h26 x18 x19 x20 x21 x22 x23 x24 y4 x25 h27 h28 y5 y6 x26 h29 x27 h30 h31 h32 h33 x28 x29 x30 x31 h34 h35 x32 x33 h36 (by decide) i_x1 i_x2 i_x4 ⟨p480, p481⟩ i_x8 i_x11 i_x12 i_y1 i_y2 (by decide) i_x14 i_x15 i_x16 i_x17 i_x19 i_x20 i_x21 i_x22 i_x23 i_x25 i_x26 i_x27 i_x28 i_x29 i_x30 i_x31 i_x32 i_x33 sz) gX12_operand_X12_fails rfl ⟨rfl, rfl⟩ 1 (by decide) ⟨Nat.le_of_ble_eq_true rfl, Nat.le_of_ble_eq_true rfl⟩ 0 rfl rfl [0] [1] rfl rfl (by decide) (by decide) (by decide) rfl rfl (Nat.le_of_ble_eq_true rfl) ⟨Nat.le_of_ble_eq_true rfl, Nat.le_of_ble_eq_true rfl⟩ (fun r491 z490 w492 => ?_)
                refine r_ws [(h1, .inl (gB g, 1500, .inl fn0)), (h0, .inr (11, [.ref h1, .int x1, .ref h2, .int x2, .int x3, .int x4, .ref h3, .ref h4, .ref h5, .ref h6, .int x5, .int x6, .int z490, .ref h7, .ref h8, .ref h9, .ref h10, .int x8, .int x9, .int x10, .long z474, .int x11, .int x12, .long y1, .long y2, .ref h11, .ref h12, .ref h13, .ref h14, .long y3, .int 1, .ref h15, .int x14, .int x15, .int x16, .int x17, .ref h16, .ref h17, .ref h18, .ref h19, .ref h20, .ref h21, .ref h22, .ref h23, .ref h24, .ref h25, .ref h26, .int x18, .int x19, .int x20, .int x21, .int x22, .int x23, .int x24, .long y4, .int x25, .ref h27, .ref h28, .long y5, .long y6, .int x26, .ref h29, .int x27, .ref h30, .ref h31, .ref h32, .ref h33, .int x28, .int x29, .int x30, .int x31, .ref h34, .ref h35, .int x32, .int x33, .ref h36]))] rfl ?_
                have p493 : 0 = r491 := (w492.1).symm
                subst p493
                have p494 : 0 ≤ (Int32.toInt z490) := w492.2.1
                have p495 : (Int32.toInt z490) ≤ 3 := w492.2.2.1
                have p496 : (1 ≤ (Int32.toInt z490)) := w492.2.2.2
                refine r_if_eq_t 235 242 C dX12_operand_235 (by decide) (by decide) ?_
                refine r_lconst 242 0 C dX12_operand_242 (by decide) ?_
                exact r_lret 243 Rt dX12_operand_243 (z490, z474, 1) (show -2147483648 ≤ (Int64.toInt 0) ∧ (Int64.toInt 0) ≤ 2147483647 ∧ 0 ≤ (Int32.toInt z490) ∧ (Int32.toInt z490) ≤ 3 ∧ 0 ≤ (Int64.toInt z474) ∧ (Int64.toInt z474) ≤ 1500 ∧ 0 ≤ (Int32.toInt 1) ∧ (Int32.toInt 1) ≤ 1 ∧ ((1 ≤ (Int32.toInt z490)) ∨ ((Int32.toInt x7) = 0 ∧ (Int32.toInt z490) = 0 ∧ (Int64.toInt y0) ≤ (Int64.toInt z474))) from ⟨(by decide), (by decide), (show _ ∧ _ from ⟨p494, p495⟩).1, (show _ ∧ _ from ⟨p494, p495⟩).2, (show _ ∧ _ from ⟨p482, p483⟩).1, (show _ ∧ _ from ⟨p482, p483⟩).2, (by decide), (by decide), (by first | omega | ((repeat' apply And.intro) <;> first | trivial | rfl | assumption | omega | decide | exact Or.inl rfl | exact Or.inr (Or.inl rfl) | exact Or.inr (Or.inr rfl) | exact Or.inr (Or.inr (by assumption))))⟩) [1, 0] (by decide) rfl (Nat.le_of_ble_eq_true rfl) (Nat.le_of_ble_eq_true rfl)
              · skip
                have k497 : ¬ ((Int32.toInt z487) = 13) := fun h_9 => c488 ((fa_eq z487 13).mpr h_9)
                refine r_iload_n 213 0 C dX12_operand_213 rfl ?_
                refine r_iconst 214 4 C dX12_operand_214 (by decide) ?_
                refine r_ishr 215 z487 C dX12_operand_215 ez487 ?_
                refine r_bipush 216 15 C dX12_operand_216 (by decide) ?_
                refine r_icmp_eq 218 244 C dX12_operand_218 (by decide) (fun c498 => ?_) (fun c498 => ?_)
                · skip
                  have k499 : (Int32.toInt z487) = 15 := (fa_eq z487 15).mp c498
                  refine r_iload_n 244 0 C dX12_operand_244 rfl ?_
                  refine r_iconst 245 4 C dX12_operand_245 (by decide) ?_
                  refine r_ishr 246 z487 C dX12_operand_246 ez487 ?_
                  refine r_bipush 247 15 C dX12_operand_247 (by decide) ?_
                  refine r_icmp_eq_t 249 261 C dX12_operand_249 (by decide) ((fa_eq z487 15).mpr (by show (Int32.toInt z487) = 15; omega)) ?_
                  refine r_iconst 261 1 C dX12_operand_261 (by decide) ?_
                  refine r_goto 262 266 C dX12_operand_262 (by decide) ?_
                  refine r_istore_n 266 C dX12_operand_266 [(2, .int 1), (3, .int r475), (0, .ref h0), (1, .int x0)] (by decide) rfl ?_
                  refine r_goto 267 189 C dX12_operand_267 (by decide) ?_
                  refine r_lv [(2, .int 1), (0, .ref h0), (1, .int x0)] [0, 2, 3] rfl ?_
                  exact ih461 1 z473 z474 (by decide) ⟨p480, p481⟩ ⟨p482, p483⟩ (by show (Int64.toInt y0) ≤ (Int64.toInt z474) ∧ (1 ≤ (Int32.toInt z473) ∨ (Int32.toInt x7) = 0); omega) (by show Int.toNat (4 * (1501 - (Int64.toInt z474)) + (3 - (Int32.toInt z473))) < n459; omega)
                · skip
                  have k500 : ¬ ((Int32.toInt z487) = 15) := fun h_9 => c498 ((fa_eq z487 15).mpr h_9)
                  refine r_iload_n 221 0 C dX12_operand_221 rfl ?_
                  refine r_bipush 222 15 C dX12_operand_222 (by decide) ?_
                  obtain ⟨z501, ez501⟩ : ∃ z_9, r475 &&& 15 = z_9 := ⟨_, rfl⟩
                  have tz501 : 0 ≤ (Int32.toInt z501) ∧ (Int32.toInt z501) ≤ 15 := by rw [← ez501]; exact and_15 r475
                  refine r_iand 224 z501 C dX12_operand_224 ez501 ?_
                  refine r_bipush 225 13 C dX12_operand_225 (by decide) ?_
                  refine r_icmp_ne 227 244 C dX12_operand_227 (by decide) (fun c502 => ?_) (fun c502 => ?_)
                  · skip
                    have k503 : ¬ ((Int32.toInt z501) = 13) := fun h_9 => c502 ((fa_eq z501 13).mpr h_9)
                    refine r_iload_n 244 0 C dX12_operand_244 rfl ?_
                    refine r_iconst 245 4 C dX12_operand_245 (by decide) ?_
                    refine r_ishr 246 z487 C dX12_operand_246 ez487 ?_
                    refine r_bipush 247 15 C dX12_operand_247 (by decide) ?_
                    refine r_icmp_eq_f 249 261 C dX12_operand_249 (by decide) (fun h_9 => by have h_8 : (Int32.toInt z487) = 15 := (fa_eq z487 15).mp h_9; omega) ?_
                    refine r_iload_n 252 0 C dX12_operand_252 rfl ?_
                    refine r_bipush 253 15 C dX12_operand_253 (by decide) ?_
                    refine r_iand 255 z501 C dX12_operand_255 ez501 ?_
                    refine r_bipush 256 15 C dX12_operand_256 (by decide) ?_
                    refine r_icmp_ne 258 265 C dX12_operand_258 (by decide) (fun c504 => ?_) (fun c504 => ?_)
                    · skip
                      have k505 : ¬ ((Int32.toInt z501) = 15) := fun h_9 => c504 ((fa_eq z501 15).mpr h_9)
                      refine r_iconst 265 0 C dX12_operand_265 (by decide) ?_
                      refine r_istore_n 266 C dX12_operand_266 [(2, .int 0), (3, .int r475), (0, .ref h0), (1, .int x0)] (by decide) rfl ?_
                      refine r_goto 267 189 C dX12_operand_267 (by decide) ?_
                      refine r_lv [(2, .int 0), (0, .ref h0), (1, .int x0)] [0, 2, 3] rfl ?_
                      exact ih461 0 z473 z474 (by decide) ⟨p480, p481⟩ ⟨p482, p483⟩ (by show (Int64.toInt y0) ≤ (Int64.toInt z474) ∧ (1 ≤ (Int32.toInt z473) ∨ (Int32.toInt x7) = 0); omega) (by show Int.toNat (4 * (1501 - (Int64.toInt z474)) + (3 - (Int32.toInt z473))) < n459; omega)
                    · skip
                      have k506 : (Int32.toInt z501) = 15 := (fa_eq z501 15).mp c504
                      refine r_iconst 261 1 C dX12_operand_261 (by decide) ?_
                      refine r_goto 262 266 C dX12_operand_262 (by decide) ?_
                      refine r_istore_n 266 C dX12_operand_266 [(2, .int 1), (3, .int r475), (0, .ref h0), (1, .int x0)] (by decide) rfl ?_
                      refine r_goto 267 189 C dX12_operand_267 (by decide) ?_
                      refine r_lv [(2, .int 1), (0, .ref h0), (1, .int x0)] [0, 2, 3] rfl ?_
                      exact ih461 1 z473 z474 (by decide) ⟨p480, p481⟩ ⟨p482, p483⟩ (by show (Int64.toInt y0) ≤ (Int64.toInt z474) ∧ (1 ≤ (Int32.toInt z473) ∨ (Int32.toInt x7) = 0); omega) (by show Int.toNat (4 * (1501 - (Int64.toInt z474)) + (3 - (Int32.toInt z473))) < n459; omega)
                  · skip
                    have k507 : (Int32.toInt z501) = 13 := (fa_eq z501 13).mp c502
                    refine r_aload_n 230 2 C dX12_operand_230 rfl ?_
                    refine r_iconst 231 2 C dX12_operand_231 (by decide) ?_
                    refine r_callVi 232 C dX12_operand_232 [] [(h0, .inr (11, [.ref h1, .int x1, .ref h2, .int x2, .int x3, .int x4, .ref h3, .ref h4, .ref h5, .ref h6, .int x5, .int x6, .int z473, .ref h7, .ref h8, .ref h9, .ref h10, .int x8, .int x9, .int x10, .long z474, .int x11, .int x12, .long y1, .long y2, .ref h11, .ref h12, .ref h13, .ref h14, .long y3, .int 1, .ref h15, .int x14, .int x15, .int x16, .int x17, .ref h16, .ref h17, .ref h18, .ref h19, .ref h20, .ref h21, .ref h22, .ref h23, .ref h24, .ref h25, .ref h26, .int x18, .int x19, .int x20, .int x21, .int x22, .int x23, .int x24, .long y4, .int x25, .ref h27, .ref h28, .long y5, .long y6, .int x26, .ref h29, .int x27, .ref h30, .ref h31, .ref h32, .ref h33, .int x28, .int x29, .int x30, .int x31, .ref h34, .ref h35, .int x32, .int x33, .ref h36]))] [(h1, .inl (gB g, 1500, .inl fn0))] (fun sz => c17_X12_fails l g h0 2 h1 x1 h2 x2 x3 x4 h3 h4 h5 h6 x5 x6 z473 h7 h8 h9 h10 x8 x9 x10 z474 x11 x12 y1 y2 h11 h12 h13 h14 y3 1 h15 x14 x15 x16 x17 h16 h17 h18 h19 h20 h21 h22 h23 h24 h25 h26 x18 x19 x20 x21 x22 x23 x24 y4 x25 h27 h28 y5 y6 x26 h29 x27 h30 h31 h32 h33 x28 x29 x30 x31 h34 h35 x32 x33 h36 (by decide) i_x1 i_x2 i_x4 ⟨p480, p481⟩ i_x8 i_x11 i_x12 i_y1 i_y2 (by decide) i_x14 i_x15 i_x16 i_x17 i_x19 i_x20 i_x21 i_x22 i_x23 i_x25 i_x26 i_x27 i_x28 i_x29 i_x30 i_x31 i_x32 i_x33 sz) gX12_operand_X12_fails rfl ⟨rfl, rfl⟩ 1 (by decide) ⟨Nat.le_of_ble_eq_true rfl, Nat.le_of_ble_eq_true rfl⟩ 0 rfl rfl [0] [1] rfl rfl (by decide) (by decide) (by decide) rfl rfl (Nat.le_of_ble_eq_true rfl) ⟨Nat.le_of_ble_eq_true rfl, Nat.le_of_ble_eq_true rfl⟩ (fun r509 z508 w510 => ?_)
                    refine r_ws [(h1, .inl (gB g, 1500, .inl fn0)), (h0, .inr (11, [.ref h1, .int x1, .ref h2, .int x2, .int x3, .int x4, .ref h3, .ref h4, .ref h5, .ref h6, .int x5, .int x6, .int z508, .ref h7, .ref h8, .ref h9, .ref h10, .int x8, .int x9, .int x10, .long z474, .int x11, .int x12, .long y1, .long y2, .ref h11, .ref h12, .ref h13, .ref h14, .long y3, .int 1, .ref h15, .int x14, .int x15, .int x16, .int x17, .ref h16, .ref h17, .ref h18, .ref h19, .ref h20, .ref h21, .ref h22, .ref h23, .ref h24, .ref h25, .ref h26, .int x18, .int x19, .int x20, .int x21, .int x22, .int x23, .int x24, .long y4, .int x25, .ref h27, .ref h28, .long y5, .long y6, .int x26, .ref h29, .int x27, .ref h30, .ref h31, .ref h32, .ref h33, .int x28, .int x29, .int x30, .int x31, .ref h34, .ref h35, .int x32, .int x33, .ref h36]))] rfl ?_
                    have p511 : 0 = r509 := (w510.1).symm
                    subst p511
                    have p512 : 0 ≤ (Int32.toInt z508) := w510.2.1
                    have p513 : (Int32.toInt z508) ≤ 3 := w510.2.2.1
                    have p514 : (1 ≤ (Int32.toInt z508)) := w510.2.2.2
                    refine r_if_eq_t 235 242 C dX12_operand_235 (by decide) (by decide) ?_
                    refine r_lconst 242 0 C dX12_operand_242 (by decide) ?_
                    exact r_lret 243 Rt dX12_operand_243 (z508, z474, 1) (show -2147483648 ≤ (Int64.toInt 0) ∧ (Int64.toInt 0) ≤ 2147483647 ∧ 0 ≤ (Int32.toInt z508) ∧ (Int32.toInt z508) ≤ 3 ∧ 0 ≤ (Int64.toInt z474) ∧ (Int64.toInt z474) ≤ 1500 ∧ 0 ≤ (Int32.toInt 1) ∧ (Int32.toInt 1) ≤ 1 ∧ ((1 ≤ (Int32.toInt z508)) ∨ ((Int32.toInt x7) = 0 ∧ (Int32.toInt z508) = 0 ∧ (Int64.toInt y0) ≤ (Int64.toInt z474))) from ⟨(by decide), (by decide), (show _ ∧ _ from ⟨p512, p513⟩).1, (show _ ∧ _ from ⟨p512, p513⟩).2, (show _ ∧ _ from ⟨p482, p483⟩).1, (show _ ∧ _ from ⟨p482, p483⟩).2, (by decide), (by decide), (by first | omega | ((repeat' apply And.intro) <;> first | trivial | rfl | assumption | omega | decide | exact Or.inl rfl | exact Or.inr (Or.inl rfl) | exact Or.inr (Or.inr rfl) | exact Or.inr (Or.inr (by assumption))))⟩) [1, 0] (by decide) rfl (Nat.le_of_ble_eq_true rfl) (Nat.le_of_ble_eq_true rfl)
            obtain ⟨k515, k516, k517, k518⟩ := p484
            refine r_istore_n 204 C dX12_operand_204 [(3, .int r475), (2, .int z456), (0, .ref h0), (1, .int x0)] (by decide) rfl ?_
            refine r_iload_n 205 0 C dX12_operand_205 rfl ?_
            refine r_iconst 206 4 C dX12_operand_206 (by decide) ?_
            obtain ⟨z519, ez519⟩ : ∃ z_9, r475 >>> (4 &&& 31) = z_9 := ⟨_, rfl⟩
            have tz519 : (Int32.toInt z519) = (Int32.toInt r475) / 16 := by rw [← ez519]; exact shr_4 r475
            refine r_ishr 207 z519 C dX12_operand_207 ez519 ?_
            refine r_bipush 208 13 C dX12_operand_208 (by decide) ?_
            refine r_icmp_eq 210 230 C dX12_operand_210 (by decide) (fun c520 => ?_) (fun c520 => ?_)
            · skip
              have k521 : (Int32.toInt z519) = 13 := (fa_eq z519 13).mp c520
              refine r_aload_n 230 2 C dX12_operand_230 rfl ?_
              refine r_iconst 231 2 C dX12_operand_231 (by decide) ?_
              refine r_callVi 232 C dX12_operand_232 [] [(h0, .inr (11, [.ref h1, .int x1, .ref h2, .int x2, .int x3, .int x4, .ref h3, .ref h4, .ref h5, .ref h6, .int x5, .int x6, .int z473, .ref h7, .ref h8, .ref h9, .ref h10, .int x8, .int x9, .int x10, .long z474, .int x11, .int x12, .long y1, .long y2, .ref h11, .ref h12, .ref h13, .ref h14, .long y3, .int 1, .ref h15, .int x14, .int x15, .int x16, .int x17, .ref h16, .ref h17, .ref h18, .ref h19, .ref h20, .ref h21, .ref h22, .ref h23, .ref h24, .ref h25, .ref h26, .int x18, .int x19, .int x20, .int x21, .int x22, .int x23, .int x24, .long y4, .int x25, .ref h27, .ref h28, .long y5, .long y6, .int x26, .ref h29, .int x27, .ref h30, .ref h31, .ref h32, .ref h33, .int x28, .int x29, .int x30, .int x31, .ref h34, .ref h35, .int x32, .int x33, .ref h36]))] [(h1, .inl (gB g, 1500, .inl fn0))] (fun sz => c17_X12_fails l g h0 2 h1 x1 h2 x2 x3 x4 h3 h4 h5 h6 x5 x6 z473 h7 h8 h9 h10 x8 x9 x10 z474 x11 x12 y1 y2 h11 h12 h13 h14 y3 1 h15 x14 x15 x16 x17 h16 h17 h18 h19 h20 h21 h22 h23 h24 h25 h26 x18 x19 x20 x21 x22 x23 x24 y4 x25 h27 h28 y5 y6 x26 h29 x27 h30 h31 h32 h33 x28 x29 x30 x31 h34 h35 x32 x33 h36 (by decide) i_x1 i_x2 i_x4 ⟨p480, p481⟩ i_x8 i_x11 i_x12 i_y1 i_y2 (by decide) i_x14 i_x15 i_x16 i_x17 i_x19 i_x20 i_x21 i_x22 i_x23 i_x25 i_x26 i_x27 i_x28 i_x29 i_x30 i_x31 i_x32 i_x33 sz) gX12_operand_X12_fails rfl ⟨rfl, rfl⟩ 1 (by decide) ⟨Nat.le_of_ble_eq_true rfl, Nat.le_of_ble_eq_true rfl⟩ 0 rfl rfl [0] [1] rfl rfl (by decide) (by decide) (by decide) rfl rfl (Nat.le_of_ble_eq_true rfl) ⟨Nat.le_of_ble_eq_true rfl, Nat.le_of_ble_eq_true rfl⟩ (fun r523 z522 w524 => ?_)
              refine r_ws [(h1, .inl (gB g, 1500, .inl fn0)), (h0, .inr (11, [.ref h1, .int x1, .ref h2, .int x2, .int x3, .int x4, .ref h3, .ref h4, .ref h5, .ref h6, .int x5, .int x6, .int z522, .ref h7, .ref h8, .ref h9, .ref h10, .int x8, .int x9, .int x10, .long z474, .int x11, .int x12, .long y1, .long y2, .ref h11, .ref h12, .ref h13, .ref h14, .long y3, .int 1, .ref h15, .int x14, .int x15, .int x16, .int x17, .ref h16, .ref h17, .ref h18, .ref h19, .ref h20, .ref h21, .ref h22, .ref h23, .ref h24, .ref h25, .ref h26, .int x18, .int x19, .int x20, .int x21, .int x22, .int x23, .int x24, .long y4, .int x25, .ref h27, .ref h28, .long y5, .long y6, .int x26, .ref h29, .int x27, .ref h30, .ref h31, .ref h32, .ref h33, .int x28, .int x29, .int x30, .int x31, .ref h34, .ref h35, .int x32, .int x33, .ref h36]))] rfl ?_
              have p525 : 0 = r523 := (w524.1).symm
              subst p525
              have p526 : 0 ≤ (Int32.toInt z522) := w524.2.1
              have p527 : (Int32.toInt z522) ≤ 3 := w524.2.2.1
              have p528 : (1 ≤ (Int32.toInt z522)) := w524.2.2.2
              refine r_if_eq_t 235 242 C dX12_operand_235 (by decide) (by decide) ?_
              refine r_lconst 242 0 C dX12_operand_242 (by decide) ?_
              exact r_lret 243 Rt dX12_operand_243 (z522, z474, 1) (show -2147483648 ≤ (Int64.toInt 0) ∧ (Int64.toInt 0) ≤ 2147483647 ∧ 0 ≤ (Int32.toInt z522) ∧ (Int32.toInt z522) ≤ 3 ∧ 0 ≤ (Int64.toInt z474) ∧ (Int64.toInt z474) ≤ 1500 ∧ 0 ≤ (Int32.toInt 1) ∧ (Int32.toInt 1) ≤ 1 ∧ ((1 ≤ (Int32.toInt z522)) ∨ ((Int32.toInt x7) = 0 ∧ (Int32.toInt z522) = 0 ∧ (Int64.toInt y0) ≤ (Int64.toInt z474))) from ⟨(by decide), (by decide), (show _ ∧ _ from ⟨p526, p527⟩).1, (show _ ∧ _ from ⟨p526, p527⟩).2, (show _ ∧ _ from ⟨p482, p483⟩).1, (show _ ∧ _ from ⟨p482, p483⟩).2, (by decide), (by decide), (by first | omega | ((repeat' apply And.intro) <;> first | trivial | rfl | assumption | omega | decide | exact Or.inl rfl | exact Or.inr (Or.inl rfl) | exact Or.inr (Or.inr rfl) | exact Or.inr (Or.inr (by assumption))))⟩) [1, 0] (by decide) rfl (Nat.le_of_ble_eq_true rfl) (Nat.le_of_ble_eq_true rfl)
            · skip
              have k529 : ¬ ((Int32.toInt z519) = 13) := fun h_9 => c520 ((fa_eq z519 13).mpr h_9)
              refine r_iload_n 213 0 C dX12_operand_213 rfl ?_
              refine r_iconst 214 4 C dX12_operand_214 (by decide) ?_
              refine r_ishr 215 z519 C dX12_operand_215 ez519 ?_
              refine r_bipush 216 15 C dX12_operand_216 (by decide) ?_
              refine r_icmp_eq 218 244 C dX12_operand_218 (by decide) (fun c530 => ?_) (fun c530 => ?_)
              · skip
                have k531 : (Int32.toInt z519) = 15 := (fa_eq z519 15).mp c530
                refine r_iload_n 244 0 C dX12_operand_244 rfl ?_
                refine r_iconst 245 4 C dX12_operand_245 (by decide) ?_
                refine r_ishr 246 z519 C dX12_operand_246 ez519 ?_
                refine r_bipush 247 15 C dX12_operand_247 (by decide) ?_
                refine r_icmp_eq_t 249 261 C dX12_operand_249 (by decide) ((fa_eq z519 15).mpr (by show (Int32.toInt z519) = 15; omega)) ?_
                refine r_iconst 261 1 C dX12_operand_261 (by decide) ?_
                refine r_goto 262 266 C dX12_operand_262 (by decide) ?_
                refine r_istore_n 266 C dX12_operand_266 [(2, .int 1), (3, .int r475), (0, .ref h0), (1, .int x0)] (by decide) rfl ?_
                refine r_goto 267 189 C dX12_operand_267 (by decide) ?_
                refine r_lv [(2, .int 1), (0, .ref h0), (1, .int x0)] [0, 2, 3] rfl ?_
                exact ih461 1 z473 z474 (by decide) ⟨p480, p481⟩ ⟨p482, p483⟩ (by show (Int64.toInt y0) ≤ (Int64.toInt z474) ∧ (1 ≤ (Int32.toInt z473) ∨ (Int32.toInt x7) = 0); omega) (by show Int.toNat (4 * (1501 - (Int64.toInt z474)) + (3 - (Int32.toInt z473))) < n459; omega)
              · skip
                have k532 : ¬ ((Int32.toInt z519) = 15) := fun h_9 => c530 ((fa_eq z519 15).mpr h_9)
                refine r_iload_n 221 0 C dX12_operand_221 rfl ?_
                refine r_bipush 222 15 C dX12_operand_222 (by decide) ?_
                obtain ⟨z533, ez533⟩ : ∃ z_9, r475 &&& 15 = z_9 := ⟨_, rfl⟩
                have tz533 : 0 ≤ (Int32.toInt z533) ∧ (Int32.toInt z533) ≤ 15 := by rw [← ez533]; exact and_15 r475
                refine r_iand 224 z533 C dX12_operand_224 ez533 ?_
                refine r_bipush 225 13 C dX12_operand_225 (by decide) ?_
                refine r_icmp_ne 227 244 C dX12_operand_227 (by decide) (fun c534 => ?_) (fun c534 => ?_)
                · skip
                  have k535 : ¬ ((Int32.toInt z533) = 13) := fun h_9 => c534 ((fa_eq z533 13).mpr h_9)
                  refine r_iload_n 244 0 C dX12_operand_244 rfl ?_
                  refine r_iconst 245 4 C dX12_operand_245 (by decide) ?_
                  refine r_ishr 246 z519 C dX12_operand_246 ez519 ?_
                  refine r_bipush 247 15 C dX12_operand_247 (by decide) ?_
                  refine r_icmp_eq_f 249 261 C dX12_operand_249 (by decide) (fun h_9 => by have h_8 : (Int32.toInt z519) = 15 := (fa_eq z519 15).mp h_9; omega) ?_
                  refine r_iload_n 252 0 C dX12_operand_252 rfl ?_
                  refine r_bipush 253 15 C dX12_operand_253 (by decide) ?_
                  refine r_iand 255 z533 C dX12_operand_255 ez533 ?_
                  refine r_bipush 256 15 C dX12_operand_256 (by decide) ?_
                  refine r_icmp_ne 258 265 C dX12_operand_258 (by decide) (fun c536 => ?_) (fun c536 => ?_)
                  · skip
                    have k537 : ¬ ((Int32.toInt z533) = 15) := fun h_9 => c536 ((fa_eq z533 15).mpr h_9)
                    refine r_iconst 265 0 C dX12_operand_265 (by decide) ?_
                    refine r_istore_n 266 C dX12_operand_266 [(2, .int 0), (3, .int r475), (0, .ref h0), (1, .int x0)] (by decide) rfl ?_
                    refine r_goto 267 189 C dX12_operand_267 (by decide) ?_
                    refine r_lv [(2, .int 0), (0, .ref h0), (1, .int x0)] [0, 2, 3] rfl ?_
                    exact ih461 0 z473 z474 (by decide) ⟨p480, p481⟩ ⟨p482, p483⟩ (by show (Int64.toInt y0) ≤ (Int64.toInt z474) ∧ (1 ≤ (Int32.toInt z473) ∨ (Int32.toInt x7) = 0); omega) (by show Int.toNat (4 * (1501 - (Int64.toInt z474)) + (3 - (Int32.toInt z473))) < n459; omega)
                  · skip
                    have k538 : (Int32.toInt z533) = 15 := (fa_eq z533 15).mp c536
                    refine r_iconst 261 1 C dX12_operand_261 (by decide) ?_
                    refine r_goto 262 266 C dX12_operand_262 (by decide) ?_
                    refine r_istore_n 266 C dX12_operand_266 [(2, .int 1), (3, .int r475), (0, .ref h0), (1, .int x0)] (by decide) rfl ?_
                    refine r_goto 267 189 C dX12_operand_267 (by decide) ?_
                    refine r_lv [(2, .int 1), (0, .ref h0), (1, .int x0)] [0, 2, 3] rfl ?_
                    exact ih461 1 z473 z474 (by decide) ⟨p480, p481⟩ ⟨p482, p483⟩ (by show (Int64.toInt y0) ≤ (Int64.toInt z474) ∧ (1 ≤ (Int32.toInt z473) ∨ (Int32.toInt x7) = 0); omega) (by show Int.toNat (4 * (1501 - (Int64.toInt z474)) + (3 - (Int32.toInt z473))) < n459; omega)
                · skip
                  have k539 : (Int32.toInt z533) = 13 := (fa_eq z533 13).mp c534
                  refine r_aload_n 230 2 C dX12_operand_230 rfl ?_
                  refine r_iconst 231 2 C dX12_operand_231 (by decide) ?_
                  refine r_callVi 232 C dX12_operand_232 [] [(h0, .inr (11, [.ref h1, .int x1, .ref h2, .int x2, .int x3, .int x4, .ref h3, .ref h4, .ref h5, .ref h6, .int x5, .int x6, .int z473, .ref h7, .ref h8, .ref h9, .ref h10, .int x8, .int x9, .int x10, .long z474, .int x11, .int x12, .long y1, .long y2, .ref h11, .ref h12, .ref h13, .ref h14, .long y3, .int 1, .ref h15, .int x14, .int x15, .int x16, .int x17, .ref h16, .ref h17, .ref h18, .ref h19, .ref h20, .ref h21, .ref h22, .ref h23, .ref h24, .ref h25, .ref h26, .int x18, .int x19, .int x20, .int x21, .int x22, .int x23, .int x24, .long y4, .int x25, .ref h27, .ref h28, .long y5, .long y6, .int x26, .ref h29, .int x27, .ref h30, .ref h31, .ref h32, .ref h33, .int x28, .int x29, .int x30, .int x31, .ref h34, .ref h35, .int x32, .int x33, .ref h36]))] [(h1, .inl (gB g, 1500, .inl fn0))] (fun sz => c17_X12_fails l g h0 2 h1 x1 h2 x2 x3 x4 h3 h4 h5 h6 x5 x6 z473 h7 h8 h9 h10 x8 x9 x10 z474 x11 x12 y1 y2 h11 h12 h13 h14 y3 1 h15 x14 x15 x16 x17 h16 h17 h18 h19 h20 h21 h22 h23 h24 h25 h26 x18 x19 x20 x21 x22 x23 x24 y4 x25 h27 h28 y5 y6 x26 h29 x27 h30 h31 h32 h33 x28 x29 x30 x31 h34 h35 x32 x33 h36 (by decide) i_x1 i_x2 i_x4 ⟨p480, p481⟩ i_x8 i_x11 i_x12 i_y1 i_y2 (by decide) i_x14 i_x15 i_x16 i_x17 i_x19 i_x20 i_x21 i_x22 i_x23 i_x25 i_x26 i_x27 i_x28 i_x29 i_x30 i_x31 i_x32 i_x33 sz) gX12_operand_X12_fails rfl ⟨rfl, rfl⟩ 1 (by decide) ⟨Nat.le_of_ble_eq_true rfl, Nat.le_of_ble_eq_true rfl⟩ 0 rfl rfl [0] [1] rfl rfl (by decide) (by decide) (by decide) rfl rfl (Nat.le_of_ble_eq_true rfl) ⟨Nat.le_of_ble_eq_true rfl, Nat.le_of_ble_eq_true rfl⟩ (fun r541 z540 w542 => ?_)
                  refine r_ws [(h1, .inl (gB g, 1500, .inl fn0)), (h0, .inr (11, [.ref h1, .int x1, .ref h2, .int x2, .int x3, .int x4, .ref h3, .ref h4, .ref h5, .ref h6, .int x5, .int x6, .int z540, .ref h7, .ref h8, .ref h9, .ref h10, .int x8, .int x9, .int x10, .long z474, .int x11, .int x12, .long y1, .long y2, .ref h11, .ref h12, .ref h13, .ref h14, .long y3, .int 1, .ref h15, .int x14, .int x15, .int x16, .int x17, .ref h16, .ref h17, .ref h18, .ref h19, .ref h20, .ref h21, .ref h22, .ref h23, .ref h24, .ref h25, .ref h26, .int x18, .int x19, .int x20, .int x21, .int x22, .int x23, .int x24, .long y4, .int x25, .ref h27, .ref h28, .long y5, .long y6, .int x26, .ref h29, .int x27, .ref h30, .ref h31, .ref h32, .ref h33, .int x28, .int x29, .int x30, .int x31, .ref h34, .ref h35, .int x32, .int x33, .ref h36]))] rfl ?_
                  have p543 : 0 = r541 := (w542.1).symm
                  subst p543
                  have p544 : 0 ≤ (Int32.toInt z540) := w542.2.1
                  have p545 : (Int32.toInt z540) ≤ 3 := w542.2.2.1
                  have p546 : (1 ≤ (Int32.toInt z540)) := w542.2.2.2
                  refine r_if_eq_t 235 242 C dX12_operand_235 (by decide) (by decide) ?_
                  refine r_lconst 242 0 C dX12_operand_242 (by decide) ?_
                  exact r_lret 243 Rt dX12_operand_243 (z540, z474, 1) (show -2147483648 ≤ (Int64.toInt 0) ∧ (Int64.toInt 0) ≤ 2147483647 ∧ 0 ≤ (Int32.toInt z540) ∧ (Int32.toInt z540) ≤ 3 ∧ 0 ≤ (Int64.toInt z474) ∧ (Int64.toInt z474) ≤ 1500 ∧ 0 ≤ (Int32.toInt 1) ∧ (Int32.toInt 1) ≤ 1 ∧ ((1 ≤ (Int32.toInt z540)) ∨ ((Int32.toInt x7) = 0 ∧ (Int32.toInt z540) = 0 ∧ (Int64.toInt y0) ≤ (Int64.toInt z474))) from ⟨(by decide), (by decide), (show _ ∧ _ from ⟨p544, p545⟩).1, (show _ ∧ _ from ⟨p544, p545⟩).2, (show _ ∧ _ from ⟨p482, p483⟩).1, (show _ ∧ _ from ⟨p482, p483⟩).2, (by decide), (by decide), (by first | omega | ((repeat' apply And.intro) <;> first | trivial | rfl | assumption | omega | decide | exact Or.inl rfl | exact Or.inr (Or.inl rfl) | exact Or.inr (Or.inr rfl) | exact Or.inr (Or.inr (by assumption))))⟩) [1, 0] (by decide) rfl (Nat.le_of_ble_eq_true rfl) (Nat.le_of_ble_eq_true rfl)
    exact lp460 _ 0 x7 y0 (by decide) i_x7 i_y0 (by show (Int64.toInt y0) ≤ (Int64.toInt y0) ∧ (1 ≤ (Int32.toInt x7) ∨ (Int32.toInt x7) = 0); omega) (Nat.lt_succ_self _)
