set_option maxHeartbeats 4000000 in
set_option maxRecDepth 100000 in
theorem c319_X11_drawn (l : Launch) (g : GD) (h0 : Nat) (h1 : Nat) (h2 : Nat) (x0 : Int32) (h3 : Nat) (h4 : Nat) (h5 : Nat) (h6 : Nat) (h7 : Nat) (h8 : Nat) (h9 : Nat) (h10 : Nat) (h11 : Nat) (x1 : Int32) (x2 : Int32) (y0 : Int64) (y1 : Int64) (x3 : Int32) (h12 : Nat) (vv0 : Value) (x4 : Int32) (x5 : Int32) (y2 : Int64) (x6 : Int32) (x7 : Int32) (x8 : Int32) (x9 : Int32) (h13 : Nat) (h14 : Nat) (h15 : Nat) (x10 : Int32) (x11 : Int32) (h16 : Nat) (h17 : Nat) (x12 : Int32) (h18 : Nat) (x13 : Int32) (i_x1 : (0 ≤ (Int32.toInt x1) ∧ (Int32.toInt x1) ≤ 400)) (i_x2 : (0 ≤ (Int32.toInt x2) ∧ (Int32.toInt x2) ≤ 400)) (i_x3 : (0 ≤ (Int32.toInt x3) ∧ (Int32.toInt x3) ≤ 1)) (i_x9 : (0 ≤ (Int32.toInt x9) ∧ (Int32.toInt x9) ≤ 1)) (i_x10 : (0 ≤ (Int32.toInt x10) ∧ (Int32.toInt x10) ≤ 10)) (i_x11 : (0 ≤ (Int32.toInt x11) ∧ (Int32.toInt x11) ≤ 1)) (i_x12 : (0 ≤ (Int32.toInt x12) ∧ (Int32.toInt x12) ≤ 7)) (i_x13 : (0 ≤ (Int32.toInt x13) ∧ (Int32.toInt x13) ≤ 24)) (sz : Nat) : Met l yX11_drawn wsX11_drawn ({ frames := 1, cells := 0, slots := 0, locals := 20 }) (va_Pc [.ref h0, .int x0] (PW g [(h0, .inr (10, [.ref h3, .ref h4, .ref h5, .ref h6, .ref h7, .ref h8, .ref h1, .ref h9, .ref h2, .ref h2])), (h1, .inr (5, [.ref h10, .ref h11, .int x1, .int x2, .long y0, .long y1, .int x3])), (h2, .inr (8, [.ref h12, .ref h1, vv0, .int x4, .int x5, .long y2, .int x6, .int x7, .int x8, .int x9, .ref h13, .ref h14, .ref h15, .int x10, .int x11, .ref h16, .ref h17, .int x12, .ref h18, .int x13]))] sz)) (va_Qi (fun (r : Int32) (_ : Unit) => True) (BW g (va_A [(h0, .inr (10, [.ref h3, .ref h4, .ref h5, .ref h6, .ref h7, .ref h8, .ref h1, .ref h9, .ref h2, .ref h2])), (h1, .inr (5, [.ref h10, .ref h11, .int x1, .int x2, .long y0, .long y1, .int x3])), (h2, .inr (8, [.ref h12, .ref h1, vv0, .int x4, .int x5, .long y2, .int x6, .int x7, .int x8, .int x9, .ref h13, .ref h14, .ref h15, .int x10, .int x11, .ref h16, .ref h17, .int x12, .ref h18, .int x13]))] sz) (fun _ : Unit => [(h0, .inr (10, [.ref h3, .ref h4, .ref h5, .ref h6, .ref h7, .ref h8, .ref h1, .ref h9, .ref h2, .ref h2])), (h1, .inr (5, [.ref h10, .ref h11, .int x1, .int x2, .long y0, .long y1, .int x3])), (h2, .inr (8, [.ref h12, .ref h1, vv0, .int x4, .int x5, .long y2, .int x6, .int x7, .int x8, .int x9, .ref h13, .ref h14, .ref h15, .int x10, .int x11, .ref h16, .ref h17, .int x12, .ref h18, .int x13]))])) (va_A [(h0, .inr (10, [.ref h3, .ref h4, .ref h5, .ref h6, .ref h7, .ref h8, .ref h1, .ref h9, .ref h2, .ref h2])), (h1, .inr (5, [.ref h10, .ref h11, .int x1, .int x2, .long y0, .long y1, .int x3])), (h2, .inr (8, [.ref h12, .ref h1, vv0, .int x4, .int x5, .long y2, .int x6, .int x7, .int x8, .int x9, .ref h13, .ref h14, .ref h15, .int x10, .int x11, .ref h16, .ref h17, .int x12, .ref h18, .int x13]))] sz)) 0 0 (va_A [(h0, .inr (10, [.ref h3, .ref h4, .ref h5, .ref h6, .ref h7, .ref h8, .ref h1, .ref h9, .ref h2, .ref h2])), (h1, .inr (5, [.ref h10, .ref h11, .int x1, .int x2, .long y0, .long y1, .int x3])), (h2, .inr (8, [.ref h12, .ref h1, vv0, .int x4, .int x5, .long y2, .int x6, .int x7, .int x8, .int x9, .ref h13, .ref h14, .ref h15, .int x10, .int x11, .ref h16, .ref h17, .int x12, .ref h18, .int x13]))] sz) := by
  refine met_i RX11 (by decide) rfl rfl (Nat.le_of_ble_eq_true rfl) [(0, .ref h0), (1, .int x0)] rfl ?_
  intro p e s m args below meth c A Q C hnm Rt
  have gx0 := fb_rng x0
  have hiX11 : ∀ w ∈ wsX110, w ∈ wsX11_drawn := fun w h => List.mem_cons_of_mem _ (List.mem_append_left _ (List.mem_append_left _ (List.mem_append_left _ (List.mem_append_right _ (h)))))
  have hiX9 : ∀ w ∈ wsX90, w ∈ wsX11_drawn := fun w h => List.mem_cons_of_mem _ (List.mem_append_left _ (List.mem_append_right _ (h)))
  refine r_aload_n 0 0 C dX11_drawn_0 rfl ?_
  refine r_get 1 C dX11_drawn_1 (k := 9) 0 rfl rfl hiX11 (by decide) rfl (mg 1 rfl) (Or.inl rfl) rfl ?_
  refine r_ifnonnull 4 9 C dX11_drawn_4 (by decide) ?_
  refine r_iload_n 9 1 C dX11_drawn_9 rfl ?_
  by_cases c1 : x0 = 0
  · skip
    have k2 : (Int32.toInt x0) = 0 := (fa_eq x0 0).mp c1
    refine r_tableIn 10 40 0 C dX11_drawn_10 c1 (by decide) (by decide) rfl (by decide) ?_
    refine r_aload_n 40 0 C dX11_drawn_40 rfl ?_
    refine r_get 41 C dX11_drawn_41 (k := 6) 0 rfl rfl hiX11 (by decide) rfl (mg 2 rfl) (Or.inl rfl) rfl ?_
    refine r_callVi 44 C dX11_drawn_44 [] [(h1, .inr (5, [.ref h10, .ref h11, .int x1, .int x2, .long y0, .long y1, .int x3]))] [(h0, .inr (10, [.ref h3, .ref h4, .ref h5, .ref h6, .ref h7, .ref h8, .ref h1, .ref h9, .ref h2, .ref h2])), (h2, .inr (8, [.ref h12, .ref h1, vv0, .int x4, .int x5, .long y2, .int x6, .int x7, .int x8, .int x9, .ref h13, .ref h14, .ref h15, .int x10, .int x11, .ref h16, .ref h17, .int x12, .ref h18, .int x13]))] (fun sz => c315_X6_size l g h1 h10 h11 x1 x2 y0 y1 x3 i_x1 i_x2 i_x3 sz) gX11_drawn_X6_size rfl ⟨rfl, rfl⟩ 0 (by decide) ⟨Nat.le_of_ble_eq_true rfl, Nat.le_of_ble_eq_true rfl⟩ 1 rfl rfl [1] [0, 2] rfl rfl (by decide) (by decide) (by decide) rfl rfl (Nat.le_of_ble_eq_true rfl) ⟨Nat.le_of_ble_eq_true rfl, Nat.le_of_ble_eq_true rfl⟩ (fun r3 _ w4 => ?_)
    refine r_ws [(h0, .inr (10, [.ref h3, .ref h4, .ref h5, .ref h6, .ref h7, .ref h8, .ref h1, .ref h9, .ref h2, .ref h2])), (h2, .inr (8, [.ref h12, .ref h1, vv0, .int x4, .int x5, .long y2, .int x6, .int x7, .int x8, .int x9, .ref h13, .ref h14, .ref h15, .int x10, .int x11, .ref h16, .ref h17, .int x12, .ref h18, .int x13])), (h1, .inr (5, [.ref h10, .ref h11, .int x1, .int x2, .long y0, .long y1, .int x3]))] rfl ?_
    have p5 : x1 = r3 := (w4).symm
    subst p5
    exact r_iret 47 Rt dX11_drawn_47 () trivial [0, 2, 1] (by decide) rfl (Nat.le_of_ble_eq_true rfl) (Nat.le_of_ble_eq_true rfl)
  · skip
    have k6 : ¬ ((Int32.toInt x0) = 0) := fun h_9 => c1 ((fa_eq x0 0).mpr h_9)
    by_cases c7 : x0 = 1
    · skip
      have k8 : (Int32.toInt x0) = 1 := (fa_eq x0 1).mp c7
      refine r_tableIn 10 48 1 C dX11_drawn_10 c7 (by decide) (by decide) rfl (by decide) ?_
      refine r_aload_n 48 0 C dX11_drawn_48 rfl ?_
      refine r_get 49 C dX11_drawn_49 (k := 9) 0 rfl rfl hiX11 (by decide) rfl (mg 1 rfl) (Or.inl rfl) rfl ?_
      refine r_get 52 C dX11_drawn_52 (k := 3) 2 rfl rfl hiX9 (by decide) rfl (mg 3 rfl) (Or.inl rfl) rfl ?_
      exact r_iret 55 Rt dX11_drawn_55 () trivial [0, 1, 2] (by decide) rfl (Nat.le_of_ble_eq_true rfl) (Nat.le_of_ble_eq_true rfl)
    · skip
      have k9 : ¬ ((Int32.toInt x0) = 1) := fun h_9 => c7 ((fa_eq x0 1).mpr h_9)
      by_cases c10 : x0 = 2
      · skip
        have k11 : (Int32.toInt x0) = 2 := (fa_eq x0 2).mp c10
        refine r_tableIn 10 56 2 C dX11_drawn_10 c10 (by decide) (by decide) rfl (by decide) ?_
        refine r_aload_n 56 0 C dX11_drawn_56 rfl ?_
        refine r_get 57 C dX11_drawn_57 (k := 9) 0 rfl rfl hiX11 (by decide) rfl (mg 1 rfl) (Or.inl rfl) rfl ?_
        refine r_get 60 C dX11_drawn_60 (k := 4) 2 rfl rfl hiX9 (by decide) rfl (mg 4 rfl) (Or.inl rfl) rfl ?_
        exact r_iret 63 Rt dX11_drawn_63 () trivial [0, 1, 2] (by decide) rfl (Nat.le_of_ble_eq_true rfl) (Nat.le_of_ble_eq_true rfl)
      · skip
        have k12 : ¬ ((Int32.toInt x0) = 2) := fun h_9 => c10 ((fa_eq x0 2).mpr h_9)
        by_cases c13 : x0 = 3
        · skip
          have k14 : (Int32.toInt x0) = 3 := (fa_eq x0 3).mp c13
          refine r_tableIn 10 64 3 C dX11_drawn_10 c13 (by decide) (by decide) rfl (by decide) ?_
          refine r_aload_n 64 0 C dX11_drawn_64 rfl ?_
          refine r_get 65 C dX11_drawn_65 (k := 9) 0 rfl rfl hiX11 (by decide) rfl (mg 1 rfl) (Or.inl rfl) rfl ?_
          refine r_callUi 68 C dX11_drawn_68 [] [(h2, .inr (8, [.ref h12, .ref h1, vv0, .int x4, .int x5, .long y2, .int x6, .int x7, .int x8, .int x9, .ref h13, .ref h14, .ref h15, .int x10, .int x11, .ref h16, .ref h17, .int x12, .ref h18, .int x13]))] [(h0, .inr (10, [.ref h3, .ref h4, .ref h5, .ref h6, .ref h7, .ref h8, .ref h1, .ref h9, .ref h2, .ref h2])), (h1, .inr (5, [.ref h10, .ref h11, .int x1, .int x2, .long y0, .long y1, .int x3]))] (fun sz => c318_X4_bytesDone l g h2 h12 h1 (vv0) x4 x5 y2 x6 x7 x8 x9 h13 h14 h15 x10 x11 h16 h17 x12 h18 x13 i_x9 i_x10 i_x11 i_x12 i_x13 sz) gX11_drawn_X4_bytesDone_u151X9 rfl ⟨rfl, rfl⟩ 0 rfl (by decide) ⟨Nat.le_of_ble_eq_true rfl, Nat.le_of_ble_eq_true rfl⟩ 2 rfl rfl [2] [0, 1] rfl rfl (by decide) (by decide) (by decide) rfl rfl (Nat.le_of_ble_eq_true rfl) ⟨Nat.le_of_ble_eq_true rfl, Nat.le_of_ble_eq_true rfl⟩ (fun r15 _ w16 => ?_)
          refine r_ws [(h0, .inr (10, [.ref h3, .ref h4, .ref h5, .ref h6, .ref h7, .ref h8, .ref h1, .ref h9, .ref h2, .ref h2])), (h1, .inr (5, [.ref h10, .ref h11, .int x1, .int x2, .long y0, .long y1, .int x3])), (h2, .inr (8, [.ref h12, .ref h1, vv0, .int x4, .int x5, .long y2, .int x6, .int x7, .int x8, .int x9, .ref h13, .ref h14, .ref h15, .int x10, .int x11, .ref h16, .ref h17, .int x12, .ref h18, .int x13]))] rfl ?_
          have gr15 := fb_rng r15
          exact r_iret 71 Rt dX11_drawn_71 () trivial [0, 1, 2] (by decide) rfl (Nat.le_of_ble_eq_true rfl) (Nat.le_of_ble_eq_true rfl)
        · skip
          have k17 : ¬ ((Int32.toInt x0) = 3) := fun h_9 => c13 ((fa_eq x0 3).mpr h_9)
          refine r_tableOut 10 72 C dX11_drawn_10 (by omega) (by decide) ?_
          refine r_iconst 72 (-1) C dX11_drawn_72 (by decide) ?_
          exact r_iret 73 Rt dX11_drawn_73 () trivial [0, 1, 2] (by decide) rfl (Nat.le_of_ble_eq_true rfl) (Nat.le_of_ble_eq_true rfl)
set_option maxHeartbeats 4000000 in
set_option maxRecDepth 100000 in
theorem c320_X11_width (l : Launch) (g : GD) (h0 : Nat) (h1 : Nat) (h2 : Nat) (h3 : Nat) (h4 : Nat) (h5 : Nat) (h6 : Nat) (h7 : Nat) (h8 : Nat) (h9 : Nat) (sz : Nat) : Met l yX11_width wsX11_width ({ frames := 0, cells := 0, slots := 0, locals := 0 }) (va_Pc [.ref h0] (PW g [(h0, .inr (10, [.ref h1, .ref h2, .ref h3, .ref h4, .ref h5, .ref h6, .ref h7, .ref h8, .ref h9, .null]))] sz)) (va_Ql (fun (r : Int64) (_ : Unit) => r = 0) (BW g (va_A [(h0, .inr (10, [.ref h1, .ref h2, .ref h3, .ref h4, .ref h5, .ref h6, .ref h7, .ref h8, .ref h9, .null]))] sz) (fun _ : Unit => [(h0, .inr (10, [.ref h1, .ref h2, .ref h3, .ref h4, .ref h5, .ref h6, .ref h7, .ref h8, .ref h9, .null]))])) (va_A [(h0, .inr (10, [.ref h1, .ref h2, .ref h3, .ref h4, .ref h5, .ref h6, .ref h7, .ref h8, .ref h9, .null]))] sz)) 0 0 (va_A [(h0, .inr (10, [.ref h1, .ref h2, .ref h3, .ref h4, .ref h5, .ref h6, .ref h7, .ref h8, .ref h9, .null]))] sz) := by
  refine met_l RX11 (by decide) rfl rfl (Nat.le_of_ble_eq_true rfl) [(0, .ref h0)] rfl ?_
  intro p e s m args below meth c A Q C hnm Rt
  have hiX11 : ∀ w ∈ wsX110, w ∈ wsX11_width := fun w h => List.mem_cons_of_mem _ (List.mem_append_left _ (List.mem_append_left _ (List.mem_append_right _ (h))))
  refine r_aload_n 0 0 C dX11_width_0 rfl ?_
  refine r_get 1 C dX11_width_1 (k := 9) 0 rfl rfl hiX11 (by decide) rfl (mg 1 rfl) (Or.inl rfl) rfl ?_
  refine r_ifnonnullN 4 C dX11_width_4 ?_
  refine r_lconst 7 0 C dX11_width_7 (by decide) ?_
  refine r_goto 8 18 C dX11_width_8 (by decide) ?_
  exact r_lret 18 Rt dX11_width_18 () (show 0 = 0 from (by ((repeat' apply And.intro) <;> first | trivial | rfl | assumption | omega | decide | exact Or.inl rfl | exact Or.inr (Or.inl rfl) | exact Or.inr (Or.inr rfl)))) [0] (by decide) rfl (Nat.le_of_ble_eq_true rfl) (Nat.le_of_ble_eq_true rfl)
set_option maxHeartbeats 4000000 in
set_option maxRecDepth 100000 in
theorem c321_X11_width (l : Launch) (g : GD) (h0 : Nat) (h1 : Nat) (h2 : Nat) (h3 : Nat) (h4 : Nat) (h5 : Nat) (h6 : Nat) (h7 : Nat) (h8 : Nat) (h9 : Nat) (h10 : Nat) (vv0 : Value) (x0 : Int32) (x1 : Int32) (y0 : Int64) (x2 : Int32) (x3 : Int32) (x4 : Int32) (x5 : Int32) (h11 : Nat) (h12 : Nat) (h13 : Nat) (x6 : Int32) (x7 : Int32) (i_x5 : (0 ≤ (Int32.toInt x5) ∧ (Int32.toInt x5) ≤ 1)) (i_x6 : (0 ≤ (Int32.toInt x6) ∧ (Int32.toInt x6) ≤ 10)) (i_x7 : (0 ≤ (Int32.toInt x7) ∧ (Int32.toInt x7) ≤ 1)) (sz : Nat) : Met l yX11_width wsX11_width ({ frames := 0, cells := 0, slots := 0, locals := 0 }) (va_Pc [.ref h0] (PW g [(h0, .inr (10, [.ref h2, .ref h3, .ref h4, .ref h5, .ref h6, .ref h7, .ref h8, .ref h1, .ref h9, .ref h1])), (h1, .inr (0, [.ref h10, .ref h8, vv0, .int x0, .int x1, .long y0, .int x2, .int x3, .int x4, .int x5, .ref h11, .ref h12, .ref h13, .int x6, .int x7]))] sz)) (va_Ql (fun (r : Int64) (_ : Unit) => r = y0) (BW g (va_A [(h0, .inr (10, [.ref h2, .ref h3, .ref h4, .ref h5, .ref h6, .ref h7, .ref h8, .ref h1, .ref h9, .ref h1])), (h1, .inr (0, [.ref h10, .ref h8, vv0, .int x0, .int x1, .long y0, .int x2, .int x3, .int x4, .int x5, .ref h11, .ref h12, .ref h13, .int x6, .int x7]))] sz) (fun _ : Unit => [(h0, .inr (10, [.ref h2, .ref h3, .ref h4, .ref h5, .ref h6, .ref h7, .ref h8, .ref h1, .ref h9, .ref h1])), (h1, .inr (0, [.ref h10, .ref h8, vv0, .int x0, .int x1, .long y0, .int x2, .int x3, .int x4, .int x5, .ref h11, .ref h12, .ref h13, .int x6, .int x7]))])) (va_A [(h0, .inr (10, [.ref h2, .ref h3, .ref h4, .ref h5, .ref h6, .ref h7, .ref h8, .ref h1, .ref h9, .ref h1])), (h1, .inr (0, [.ref h10, .ref h8, vv0, .int x0, .int x1, .long y0, .int x2, .int x3, .int x4, .int x5, .ref h11, .ref h12, .ref h13, .int x6, .int x7]))] sz)) 0 0 (va_A [(h0, .inr (10, [.ref h2, .ref h3, .ref h4, .ref h5, .ref h6, .ref h7, .ref h8, .ref h1, .ref h9, .ref h1])), (h1, .inr (0, [.ref h10, .ref h8, vv0, .int x0, .int x1, .long y0, .int x2, .int x3, .int x4, .int x5, .ref h11, .ref h12, .ref h13, .int x6, .int x7]))] sz) := by
  refine met_l RX11 (by decide) rfl rfl (Nat.le_of_ble_eq_true rfl) [(0, .ref h0)] rfl ?_
  intro p e s m args below meth c A Q C hnm Rt
  have hiX11 : ∀ w ∈ wsX110, w ∈ wsX11_width := fun w h => List.mem_cons_of_mem _ (List.mem_append_left _ (List.mem_append_left _ (List.mem_append_right _ (h))))
  have hiX0 : ∀ w ∈ wsX00, w ∈ wsX11_width := fun w h => List.mem_cons_of_mem _ (List.mem_append_left _ (List.mem_append_right _ (h)))
  refine r_aload_n 0 0 C dX11_width_0 rfl ?_
  refine r_get 1 C dX11_width_1 (k := 9) 0 rfl rfl hiX11 (by decide) rfl (mg 1 rfl) (Or.inl rfl) rfl ?_
  refine r_ifnonnull 4 11 C dX11_width_4 (by decide) ?_
  refine r_aload_n 11 0 C dX11_width_11 rfl ?_
  refine r_get 12 C dX11_width_12 (k := 9) 0 rfl rfl hiX11 (by decide) rfl (mg 1 rfl) (Or.inl rfl) rfl ?_
  refine r_get 15 C dX11_width_15 (k := 5) 1 rfl rfl hiX0 (by decide) rfl (mg 2 rfl) (Or.inl rfl) rfl ?_
  exact r_lret 18 Rt dX11_width_18 () (show y0 = y0 from (by ((repeat' apply And.intro) <;> first | trivial | rfl | assumption | omega | decide | exact Or.inl rfl | exact Or.inr (Or.inl rfl) | exact Or.inr (Or.inr rfl)))) [0, 1] (by decide) rfl (Nat.le_of_ble_eq_true rfl) (Nat.le_of_ble_eq_true rfl)
set_option maxHeartbeats 4000000 in
set_option maxRecDepth 100000 in
theorem c322_X11_width (l : Launch) (g : GD) (h0 : Nat) (h1 : Nat) (h2 : Nat) (h3 : Nat) (h4 : Nat) (h5 : Nat) (h6 : Nat) (h7 : Nat) (h8 : Nat) (h9 : Nat) (h10 : Nat) (vv0 : Value) (x0 : Int32) (x1 : Int32) (y0 : Int64) (x2 : Int32) (x3 : Int32) (x4 : Int32) (x5 : Int32) (h11 : Nat) (h12 : Nat) (h13 : Nat) (x6 : Int32) (x7 : Int32) (h14 : Nat) (h15 : Nat) (x8 : Int32) (h16 : Nat) (x9 : Int32) (i_x5 : (0 ≤ (Int32.toInt x5) ∧ (Int32.toInt x5) ≤ 1)) (i_x6 : (0 ≤ (Int32.toInt x6) ∧ (Int32.toInt x6) ≤ 10)) (i_x7 : (0 ≤ (Int32.toInt x7) ∧ (Int32.toInt x7) ≤ 1)) (i_x8 : (0 ≤ (Int32.toInt x8) ∧ (Int32.toInt x8) ≤ 7)) (i_x9 : (0 ≤ (Int32.toInt x9) ∧ (Int32.toInt x9) ≤ 24)) (sz : Nat) : Met l yX11_width wsX11_width ({ frames := 0, cells := 0, slots := 0, locals := 0 }) (va_Pc [.ref h0] (PW g [(h0, .inr (10, [.ref h2, .ref h3, .ref h4, .ref h5, .ref h6, .ref h7, .ref h8, .ref h9, .ref h1, .ref h1])), (h1, .inr (8, [.ref h10, .ref h8, vv0, .int x0, .int x1, .long y0, .int x2, .int x3, .int x4, .int x5, .ref h11, .ref h12, .ref h13, .int x6, .int x7, .ref h14, .ref h15, .int x8, .ref h16, .int x9]))] sz)) (va_Ql (fun (r : Int64) (_ : Unit) => r = y0) (BW g (va_A [(h0, .inr (10, [.ref h2, .ref h3, .ref h4, .ref h5, .ref h6, .ref h7, .ref h8, .ref h9, .ref h1, .ref h1])), (h1, .inr (8, [.ref h10, .ref h8, vv0, .int x0, .int x1, .long y0, .int x2, .int x3, .int x4, .int x5, .ref h11, .ref h12, .ref h13, .int x6, .int x7, .ref h14, .ref h15, .int x8, .ref h16, .int x9]))] sz) (fun _ : Unit => [(h0, .inr (10, [.ref h2, .ref h3, .ref h4, .ref h5, .ref h6, .ref h7, .ref h8, .ref h9, .ref h1, .ref h1])), (h1, .inr (8, [.ref h10, .ref h8, vv0, .int x0, .int x1, .long y0, .int x2, .int x3, .int x4, .int x5, .ref h11, .ref h12, .ref h13, .int x6, .int x7, .ref h14, .ref h15, .int x8, .ref h16, .int x9]))])) (va_A [(h0, .inr (10, [.ref h2, .ref h3, .ref h4, .ref h5, .ref h6, .ref h7, .ref h8, .ref h9, .ref h1, .ref h1])), (h1, .inr (8, [.ref h10, .ref h8, vv0, .int x0, .int x1, .long y0, .int x2, .int x3, .int x4, .int x5, .ref h11, .ref h12, .ref h13, .int x6, .int x7, .ref h14, .ref h15, .int x8, .ref h16, .int x9]))] sz)) 0 0 (va_A [(h0, .inr (10, [.ref h2, .ref h3, .ref h4, .ref h5, .ref h6, .ref h7, .ref h8, .ref h9, .ref h1, .ref h1])), (h1, .inr (8, [.ref h10, .ref h8, vv0, .int x0, .int x1, .long y0, .int x2, .int x3, .int x4, .int x5, .ref h11, .ref h12, .ref h13, .int x6, .int x7, .ref h14, .ref h15, .int x8, .ref h16, .int x9]))] sz) := by
  refine met_l RX11 (by decide) rfl rfl (Nat.le_of_ble_eq_true rfl) [(0, .ref h0)] rfl ?_
  intro p e s m args below meth c A Q C hnm Rt
  have hiX11 : ∀ w ∈ wsX110, w ∈ wsX11_width := fun w h => List.mem_cons_of_mem _ (List.mem_append_left _ (List.mem_append_left _ (List.mem_append_right _ (h))))
  have hiX9 : ∀ w ∈ wsX90, w ∈ wsX11_width := fun w h => List.mem_cons_of_mem _ (List.mem_append_right _ (h))
  refine r_aload_n 0 0 C dX11_width_0 rfl ?_
  refine r_get 1 C dX11_width_1 (k := 9) 0 rfl rfl hiX11 (by decide) rfl (mg 1 rfl) (Or.inl rfl) rfl ?_
  refine r_ifnonnull 4 11 C dX11_width_4 (by decide) ?_
  refine r_aload_n 11 0 C dX11_width_11 rfl ?_
  refine r_get 12 C dX11_width_12 (k := 9) 0 rfl rfl hiX11 (by decide) rfl (mg 1 rfl) (Or.inl rfl) rfl ?_
  refine r_get 15 C dX11_width_15 (k := 5) 1 rfl rfl hiX9 (by decide) rfl (mg 2 rfl) (Or.inl rfl) rfl ?_
  exact r_lret 18 Rt dX11_width_18 () (show y0 = y0 from (by ((repeat' apply And.intro) <;> first | trivial | rfl | assumption | omega | decide | exact Or.inl rfl | exact Or.inr (Or.inl rfl) | exact Or.inr (Or.inr rfl)))) [0, 1] (by decide) rfl (Nat.le_of_ble_eq_true rfl) (Nat.le_of_ble_eq_true rfl)
