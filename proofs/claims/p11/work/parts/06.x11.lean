set_option maxHeartbeats 4000000 in
set_option maxRecDepth 100000 in
theorem c293_X4_finishAll (l : Launch) (g : GD) (h0 : Nat) (h1 : Nat) (h2 : Nat) (h3 : Nat) (x0 : Int32) (x1 : Int32) (y0 : Int64) (x2 : Int32) (x3 : Int32) (x4 : Int32) (x5 : Int32) (h4 : Nat) (h5 : Nat) (h6 : Nat) (x6 : Int32) (x7 : Int32) (i_x2 : (0 ≤ (Int32.toInt x2) ∧ (Int32.toInt x2) ≤ 1500)) (i_x3 : (0 ≤ (Int32.toInt x3) ∧ (Int32.toInt x3) ≤ 1500)) (i_x4 : (0 ≤ (Int32.toInt x4) ∧ (Int32.toInt x4) ≤ 1500)) (i_x5 : (0 ≤ (Int32.toInt x5) ∧ (Int32.toInt x5) ≤ 1)) (i_x6 : (0 ≤ (Int32.toInt x6) ∧ (Int32.toInt x6) ≤ 10)) (i_x7 : (0 ≤ (Int32.toInt x7) ∧ (Int32.toInt x7) ≤ 1)) (sz : Nat) : Met l yX4_finishAll wsX4_finishAll ({ frames := 0, cells := 0, slots := 0, locals := 0 }) (va_Pc [.ref h0] (PW g [(h0, .inr (0, [.ref h1, .ref h2, .ref h3, .int x0, .int x1, .long y0, .int x2, .int x3, .int x4, .int x5, .ref h4, .ref h5, .ref h6, .int x6, .int x7]))] sz)) (va_Qv (fun (_ : Unit) => True) (BW g (va_A [(h0, .inr (0, [.ref h1, .ref h2, .ref h3, .int x0, .int x1, .long y0, .int x2, .int x3, .int x4, .int x5, .ref h4, .ref h5, .ref h6, .int x6, .int x7]))] sz) (fun _ : Unit => [(h0, .inr (0, [.ref h1, .ref h2, .ref h3, .int x0, .int x1, .long y0, .int x2, .int x3, .int x4, .int 1, .ref h4, .ref h5, .ref h6, .int x6, .int x7]))])) (va_A [(h0, .inr (0, [.ref h1, .ref h2, .ref h3, .int x0, .int x1, .long y0, .int x2, .int x3, .int x4, .int x5, .ref h4, .ref h5, .ref h6, .int x6, .int x7]))] sz)) 0 0 (va_A [(h0, .inr (0, [.ref h1, .ref h2, .ref h3, .int x0, .int x1, .long y0, .int x2, .int x3, .int x4, .int x5, .ref h4, .ref h5, .ref h6, .int x6, .int x7]))] sz) := by
  refine met_v RX4 (by decide) rfl rfl (Nat.le_of_ble_eq_true rfl) [(0, .ref h0)] rfl ?_
  intro p e s m args below meth c A Q C hnm Rt
  have hiX0 : ∀ w ∈ wsX00, w ∈ wsX4_finishAll := fun w h => List.mem_cons_of_mem _ (List.mem_append_left _ (List.mem_append_right _ (h)))
  refine r_aload_n 0 0 C dX4_finishAll_0 rfl ?_
  refine r_iconst 1 1 C dX4_finishAll_1 (by decide) ?_
  refine r_put 2 C dX4_finishAll_2 (k := 9) 0 rfl rfl hiX0 tyX0 tyX0_ok nmX0 (by decide) rfl (mg 1 rfl) (Or.inl rfl) rfl rfl rfl rfl (Nat.le_of_ble_eq_true rfl) [(h0, .inr (0, [.ref h1, .ref h2, .ref h3, .int x0, .int x1, .long y0, .int x2, .int x3, .int x4, .int 1, .ref h4, .ref h5, .ref h6, .int x6, .int x7]))] rfl ?_
  exact r_vret 5 Rt dX4_finishAll_5 () trivial [0] (by decide) rfl (Nat.le_of_ble_eq_true rfl) (Nat.le_of_ble_eq_true rfl)
set_option maxHeartbeats 4000000 in
set_option maxRecDepth 100000 in
theorem c294_X0_endLetter (l : Launch) (g : GD) (h0 : Nat) (h1 : Nat) (h2 : Nat) (h3 : Nat) (h4 : Nat) (h5 : Nat) (h6 : Nat) (x0 : Int32) (x1 : Int32) (y0 : Int64) (x2 : Int32) (x3 : Int32) (x4 : Int32) (x5 : Int32) (h7 : Nat) (h8 : Nat) (h9 : Nat) (x6 : Int32) (x7 : Int32) (h10 : Nat) (x8 : Int32) (x9 : Int32) (x10 : Int32) (x11 : Int32) (y1 : Int64) (y2 : Int64) (x12 : Int32) (h11 : Nat) (h12 : Nat) (h13 : Nat) (h14 : Nat) (x13 : Int32) (x14 : Int32) (x15 : Int32) (fm0 : Nat → Int64) (fn0 : Nat → Int32) (fm1 : Nat → Int64) (i_x2 : (0 ≤ (Int32.toInt x2) ∧ (Int32.toInt x2) ≤ 1500)) (i_x3 : (0 ≤ (Int32.toInt x3) ∧ (Int32.toInt x3) ≤ 1500)) (i_x4 : (0 ≤ (Int32.toInt x4) ∧ (Int32.toInt x4) ≤ 1500)) (i_x5 : (0 ≤ (Int32.toInt x5) ∧ (Int32.toInt x5) ≤ 1)) (i_x6 : (0 ≤ (Int32.toInt x6) ∧ (Int32.toInt x6) ≤ 10)) (i_x7 : (0 ≤ (Int32.toInt x7) ∧ (Int32.toInt x7) ≤ 1)) (i_x8 : (0 ≤ (Int32.toInt x8) ∧ (Int32.toInt x8) ≤ 48)) (i_x9 : (0 ≤ (Int32.toInt x9) ∧ (Int32.toInt x9) ≤ 48)) (i_x10 : (0 ≤ (Int32.toInt x10) ∧ (Int32.toInt x10) ≤ 400)) (i_x11 : (0 ≤ (Int32.toInt x11) ∧ (Int32.toInt x11) ≤ 400)) (i_x12 : (0 ≤ (Int32.toInt x12) ∧ (Int32.toInt x12) ≤ 1)) (sz : Nat) : Met l yX0_endLetter wsX0_endLetter ({ frames := 3, cells := 0, slots := 0, locals := 61 }) (va_Pc [.ref h0] (PW g [(h0, .inr (0, [.ref h1, .ref h2, .ref h3, .int x0, .int x1, .long y0, .int x2, .int x3, .int x4, .int x5, .ref h7, .ref h8, .ref h9, .int x6, .int x7])), (h1, .inr (6, [.ref h4, .ref h10, .int x8, .int x9])), (h2, .inr (5, [.ref h5, .ref h6, .int x10, .int x11, .long y1, .long y2, .int x12])), (h3, .inr (3, [.ref h11, .ref h12, .ref h13, .ref h14, .int x13, .int x14, .int x15])), (h4, .inl (gJ g, 48, .inr (.inl fm0))), (h5, .inl (gB g, 400, .inl fn0)), (h6, .inl (gJ g, 2400, .inr (.inl fm1)))] sz)) (va_Qi (fun (r : Int32) (u : (Int64) × (Int32) × (Int32) × (Int32) × (Nat → Int32) × (Nat → Int64)) => 0 ≤ (Int32.toInt r) ∧ (Int32.toInt r) ≤ 6 ∧ 0 ≤ (Int32.toInt (u.2.1)) ∧ (Int32.toInt (u.2.1)) ≤ 1 ∧ 0 ≤ (Int32.toInt (u.2.2.1)) ∧ (Int32.toInt (u.2.2.1)) ≤ 1 ∧ 0 ≤ (Int32.toInt (u.2.2.2.1)) ∧ (Int32.toInt (u.2.2.2.1)) ≤ 400 ∧ (((Int32.toInt (u.2.2.1)), (u.1)) : Int × Int64) = ENW (NMF x15) (NMF x14) (PA fm0 (Int32.toInt x8)) ((Int32.toInt x7), y0) ∧ OEQ (PTS (u.2.2.2.2.1) (u.2.2.2.2.2) (Int32.toInt (u.2.2.2.1))) y1 y2 (Int32.toInt x12) (Int32.toInt r) (ENO (Int32.toInt x11) (PA fm0 (Int32.toInt x8)) (Int32.toInt x7) (PTS fn0 fm1 (Int32.toInt x10), y1, y2, (Int32.toInt x12))) ∧ (((Int32.toInt r) = 0 ∧ (Int32.toInt (u.2.1)) = 1) ∨ (¬ ((Int32.toInt r) = 0) ∧ (Int32.toInt (u.2.1)) = (Int32.toInt x5)))) (BW g (va_A [(h0, .inr (0, [.ref h1, .ref h2, .ref h3, .int x0, .int x1, .long y0, .int x2, .int x3, .int x4, .int x5, .ref h7, .ref h8, .ref h9, .int x6, .int x7])), (h1, .inr (6, [.ref h4, .ref h10, .int x8, .int x9])), (h2, .inr (5, [.ref h5, .ref h6, .int x10, .int x11, .long y1, .long y2, .int x12])), (h3, .inr (3, [.ref h11, .ref h12, .ref h13, .ref h14, .int x13, .int x14, .int x15])), (h4, .inl (gJ g, 48, .inr (.inl fm0))), (h5, .inl (gB g, 400, .inl fn0)), (h6, .inl (gJ g, 2400, .inr (.inl fm1)))] sz) (fun u : (Int64) × (Int32) × (Int32) × (Int32) × (Nat → Int32) × (Nat → Int64) => [(h0, .inr (0, [.ref h1, .ref h2, .ref h3, .int x0, .int x1, .long u.1, .int x2, .int x3, .int x4, .int u.2.1, .ref h7, .ref h8, .ref h9, .int x6, .int u.2.2.1])), (h1, .inr (6, [.ref h4, .ref h10, .int x8, .int x9])), (h2, .inr (5, [.ref h5, .ref h6, .int u.2.2.2.1, .int x11, .long y1, .long y2, .int x12])), (h3, .inr (3, [.ref h11, .ref h12, .ref h13, .ref h14, .int x13, .int x14, .int x15])), (h4, .inl (gJ g, 48, .inr (.inl fm0))), (h5, .inl (gB g, 400, .inl u.2.2.2.2.1)), (h6, .inl (gJ g, 2400, .inr (.inl u.2.2.2.2.2)))])) (va_A [(h0, .inr (0, [.ref h1, .ref h2, .ref h3, .int x0, .int x1, .long y0, .int x2, .int x3, .int x4, .int x5, .ref h7, .ref h8, .ref h9, .int x6, .int x7])), (h1, .inr (6, [.ref h4, .ref h10, .int x8, .int x9])), (h2, .inr (5, [.ref h5, .ref h6, .int x10, .int x11, .long y1, .long y2, .int x12])), (h3, .inr (3, [.ref h11, .ref h12, .ref h13, .ref h14, .int x13, .int x14, .int x15])), (h4, .inl (gJ g, 48, .inr (.inl fm0))), (h5, .inl (gB g, 400, .inl fn0)), (h6, .inl (gJ g, 2400, .inr (.inl fm1)))] sz)) 0 0 (va_A [(h0, .inr (0, [.ref h1, .ref h2, .ref h3, .int x0, .int x1, .long y0, .int x2, .int x3, .int x4, .int x5, .ref h7, .ref h8, .ref h9, .int x6, .int x7])), (h1, .inr (6, [.ref h4, .ref h10, .int x8, .int x9])), (h2, .inr (5, [.ref h5, .ref h6, .int x10, .int x11, .long y1, .long y2, .int x12])), (h3, .inr (3, [.ref h11, .ref h12, .ref h13, .ref h14, .int x13, .int x14, .int x15])), (h4, .inl (gJ g, 48, .inr (.inl fm0))), (h5, .inl (gB g, 400, .inl fn0)), (h6, .inl (gJ g, 2400, .inr (.inl fm1)))] sz) := by
  refine met_i RX0 (by decide) rfl rfl (Nat.le_of_ble_eq_true rfl) [(0, .ref h0)] rfl ?_
  intro p e s m args below meth c A Q C hnm Rt
  have hiX0 : ∀ w ∈ wsX00, w ∈ wsX0_endLetter := fun w h => List.mem_cons_of_mem _ (List.mem_append_left _ (List.mem_append_left _ (List.mem_append_left _ (List.mem_append_left _ (List.mem_append_right _ (h))))))
  refine r_aload_n 0 0 C dX0_endLetter_0 rfl ?_
  refine r_aload_n 1 0 C dX0_endLetter_1 rfl ?_
  refine r_get 2 C dX0_endLetter_2 (k := 0) 0 rfl rfl hiX0 (by decide) rfl (mg 1 rfl) (Or.inr (mg 2 rfl)) rfl ?_
  refine r_callVi 5 C dX0_endLetter_5 [.ref h0] [(h1, .inr (6, [.ref h4, .ref h10, .int x8, .int x9]))] [(h0, .inr (0, [.ref h1, .ref h2, .ref h3, .int x0, .int x1, .long y0, .int x2, .int x3, .int x4, .int x5, .ref h7, .ref h8, .ref h9, .int x6, .int x7])), (h2, .inr (5, [.ref h5, .ref h6, .int x10, .int x11, .long y1, .long y2, .int x12])), (h3, .inr (3, [.ref h11, .ref h12, .ref h13, .ref h14, .int x13, .int x14, .int x15])), (h4, .inl (gJ g, 48, .inr (.inl fm0))), (h5, .inl (gB g, 400, .inl fn0)), (h6, .inl (gJ g, 2400, .inr (.inl fm1)))] (fun sz => c231_X7_size l g h1 h4 h10 x8 x9 i_x8 i_x9 sz) gX0_endLetter_X7_size rfl ⟨rfl, rfl⟩ 0 (by decide) ⟨Nat.le_of_ble_eq_true rfl, Nat.le_of_ble_eq_true rfl⟩ 1 rfl rfl [1] [0, 2, 3, 4, 5, 6] rfl rfl (by decide) (by decide) (by decide) rfl rfl (Nat.le_of_ble_eq_true rfl) ⟨Nat.le_of_ble_eq_true rfl, Nat.le_of_ble_eq_true rfl⟩ (fun r1 _ w2 => ?_)
  refine r_ws [(h0, .inr (0, [.ref h1, .ref h2, .ref h3, .int x0, .int x1, .long y0, .int x2, .int x3, .int x4, .int x5, .ref h7, .ref h8, .ref h9, .int x6, .int x7])), (h2, .inr (5, [.ref h5, .ref h6, .int x10, .int x11, .long y1, .long y2, .int x12])), (h3, .inr (3, [.ref h11, .ref h12, .ref h13, .ref h14, .int x13, .int x14, .int x15])), (h4, .inl (gJ g, 48, .inr (.inl fm0))), (h5, .inl (gB g, 400, .inl fn0)), (h6, .inl (gJ g, 2400, .inr (.inl fm1))), (h1, .inr (6, [.ref h4, .ref h10, .int x8, .int x9]))] rfl ?_
  have p3 : x8 = r1 := (w2).symm
  subst p3
  refine r_iconst 8 1 C dX0_endLetter_8 (by decide) ?_
  refine r_icmp_ne 9 16 C dX0_endLetter_9 (by decide) (fun c4 => ?_) (fun c4 => ?_)
  · skip
    have k5 : ¬ ((Int32.toInt x8) = 1) := fun h_9 => c4 ((fa_eq x8 1).mpr h_9)
    refine r_iconst 16 0 C dX0_endLetter_16 (by decide) ?_
    refine r_callVi 17 C dX0_endLetter_17 [] [(h0, .inr (0, [.ref h1, .ref h2, .ref h3, .int x0, .int x1, .long y0, .int x2, .int x3, .int x4, .int x5, .ref h7, .ref h8, .ref h9, .int x6, .int x7]))] [(h2, .inr (5, [.ref h5, .ref h6, .int x10, .int x11, .long y1, .long y2, .int x12])), (h3, .inr (3, [.ref h11, .ref h12, .ref h13, .ref h14, .int x13, .int x14, .int x15])), (h4, .inl (gJ g, 48, .inr (.inl fm0))), (h5, .inl (gB g, 400, .inl fn0)), (h6, .inl (gJ g, 2400, .inr (.inl fm1))), (h1, .inr (6, [.ref h4, .ref h10, .int x8, .int x9]))] (fun sz => c288_X0_widthsShare l g h0 0 h1 h2 h3 x0 x1 y0 x2 x3 x4 x5 h7 h8 h9 x6 x7 (by decide) i_x2 i_x3 i_x4 i_x5 i_x6 i_x7 sz) gX0_endLetter_X0_widthsShare rfl ⟨rfl, rfl⟩ 1 (by decide) ⟨Nat.le_of_ble_eq_true rfl, Nat.le_of_ble_eq_true rfl⟩ 0 rfl rfl [0] [1, 2, 3, 4, 5, 6] rfl rfl (by decide) (by decide) (by decide) rfl rfl (Nat.le_of_ble_eq_true rfl) ⟨Nat.le_of_ble_eq_true rfl, Nat.le_of_ble_eq_true rfl⟩ (fun r6 _ w7 => ?_)
    refine r_ws [(h2, .inr (5, [.ref h5, .ref h6, .int x10, .int x11, .long y1, .long y2, .int x12])), (h3, .inr (3, [.ref h11, .ref h12, .ref h13, .ref h14, .int x13, .int x14, .int x15])), (h4, .inl (gJ g, 48, .inr (.inl fm0))), (h5, .inl (gB g, 400, .inl fn0)), (h6, .inl (gJ g, 2400, .inr (.inl fm1))), (h1, .inr (6, [.ref h4, .ref h10, .int x8, .int x9])), (h0, .inr (0, [.ref h1, .ref h2, .ref h3, .int x0, .int x1, .long y0, .int x2, .int x3, .int x4, .int x5, .ref h7, .ref h8, .ref h9, .int x6, .int x7]))] rfl ?_
    have p8 : 0 ≤ (Int32.toInt r6) := w7.1
    have p9 : (Int32.toInt r6) ≤ 1 := w7.2.1
    have p10 : (((0 : Int) = 1 ∧ (Int32.toInt x7) = 0 ∧ (Int32.toInt r6) = 1) ∨ (¬ ((0 : Int) = 1 ∧ (Int32.toInt x7) = 0) ∧ (Int32.toInt r6) = 0)) := w7.2.2
    refine r_istore_n 20 C dX0_endLetter_20 [(1, .int r6), (0, .ref h0)] (by decide) rfl ?_
    refine r_aload_n 21 1 C dX0_endLetter_21 rfl ?_
    refine r_get 22 C dX0_endLetter_22 (k := 0) 6 rfl rfl hiX0 (by decide) rfl (mg 1 rfl) (Or.inr (mg 2 rfl)) rfl ?_
    refine r_callVi 25 C dX0_endLetter_25 [] [(h1, .inr (6, [.ref h4, .ref h10, .int x8, .int x9]))] [(h2, .inr (5, [.ref h5, .ref h6, .int x10, .int x11, .long y1, .long y2, .int x12])), (h3, .inr (3, [.ref h11, .ref h12, .ref h13, .ref h14, .int x13, .int x14, .int x15])), (h4, .inl (gJ g, 48, .inr (.inl fm0))), (h5, .inl (gB g, 400, .inl fn0)), (h6, .inl (gJ g, 2400, .inr (.inl fm1))), (h0, .inr (0, [.ref h1, .ref h2, .ref h3, .int x0, .int x1, .long y0, .int x2, .int x3, .int x4, .int x5, .ref h7, .ref h8, .ref h9, .int x6, .int x7]))] (fun sz => c231_X7_size l g h1 h4 h10 x8 x9 i_x8 i_x9 sz) gX0_endLetter_X7_size rfl ⟨rfl, rfl⟩ 0 (by decide) ⟨Nat.le_of_ble_eq_true rfl, Nat.le_of_ble_eq_true rfl⟩ 5 rfl rfl [5] [0, 1, 2, 3, 4, 6] rfl rfl (by decide) (by decide) (by decide) rfl rfl (Nat.le_of_ble_eq_true rfl) ⟨Nat.le_of_ble_eq_true rfl, Nat.le_of_ble_eq_true rfl⟩ (fun r11 _ w12 => ?_)
    refine r_ws [(h2, .inr (5, [.ref h5, .ref h6, .int x10, .int x11, .long y1, .long y2, .int x12])), (h3, .inr (3, [.ref h11, .ref h12, .ref h13, .ref h14, .int x13, .int x14, .int x15])), (h4, .inl (gJ g, 48, .inr (.inl fm0))), (h5, .inl (gB g, 400, .inl fn0)), (h6, .inl (gJ g, 2400, .inr (.inl fm1))), (h0, .inr (0, [.ref h1, .ref h2, .ref h3, .int x0, .int x1, .long y0, .int x2, .int x3, .int x4, .int x5, .ref h7, .ref h8, .ref h9, .int x6, .int x7])), (h1, .inr (6, [.ref h4, .ref h10, .int x8, .int x9]))] rfl ?_
    have p13 : x8 = r11 := (w12).symm
    subst p13
    refine r_iload_n 28 0 C dX0_endLetter_28 rfl ?_
    refine r_icmp_eq 29 34 C dX0_endLetter_29 (by decide) (fun c14 => ?_) (fun c14 => ?_)
    · skip
      have k15 : (Int32.toInt x8) = (Int32.toInt r6) := (fa_eq x8 r6).mp c14
      refine r_aload_n 34 1 C dX0_endLetter_34 rfl ?_
      refine r_iload_n 35 0 C dX0_endLetter_35 rfl ?_
      refine r_callVv 36 C dX0_endLetter_36 [] [(h0, .inr (0, [.ref h1, .ref h2, .ref h3, .int x0, .int x1, .long y0, .int x2, .int x3, .int x4, .int x5, .ref h7, .ref h8, .ref h9, .int x6, .int x7])), (h1, .inr (6, [.ref h4, .ref h10, .int x8, .int x9])), (h3, .inr (3, [.ref h11, .ref h12, .ref h13, .ref h14, .int x13, .int x14, .int x15])), (h4, .inl (gJ g, 48, .inr (.inl fm0)))] [(h2, .inr (5, [.ref h5, .ref h6, .int x10, .int x11, .long y1, .long y2, .int x12])), (h5, .inl (gB g, 400, .inl fn0)), (h6, .inl (gJ g, 2400, .inr (.inl fm1)))] (fun sz => c289_X0_tellWidth l g h0 h1 h3 h4 r6 h2 x0 x1 y0 x2 x3 x4 x5 h7 h8 h9 x6 x7 h10 x8 x9 h11 h12 h13 h14 x13 x14 x15 fm0 ⟨p8, p9⟩ i_x2 i_x3 i_x4 i_x5 i_x6 i_x7 i_x8 i_x9 sz) gX0_endLetter_X0_tellWidth rfl ⟨rfl, rfl⟩ 1 (by decide) ⟨Nat.le_of_ble_eq_true rfl, Nat.le_of_ble_eq_true rfl⟩ 5 rfl rfl [5, 6, 1, 2] [0, 3, 4] rfl rfl (by decide) (by decide) (by decide) rfl rfl (Nat.le_of_ble_eq_true rfl) ⟨Nat.le_of_ble_eq_true rfl, Nat.le_of_ble_eq_true rfl⟩ (fun  u19 w18 => ?_)
      obtain ⟨z16, z17⟩ := u19
      refine r_ws [(h2, .inr (5, [.ref h5, .ref h6, .int x10, .int x11, .long y1, .long y2, .int x12])), (h5, .inl (gB g, 400, .inl fn0)), (h6, .inl (gJ g, 2400, .inr (.inl fm1))), (h0, .inr (0, [.ref h1, .ref h2, .ref h3, .int x0, .int x1, .long z16, .int x2, .int x3, .int x4, .int x5, .ref h7, .ref h8, .ref h9, .int x6, .int z17])), (h1, .inr (6, [.ref h4, .ref h10, .int x8, .int x9])), (h3, .inr (3, [.ref h11, .ref h12, .ref h13, .ref h14, .int x13, .int x14, .int x15])), (h4, .inl (gJ g, 48, .inr (.inl fm0)))] rfl ?_
      have gz16 := fb_rngL z16
      have p20 : 0 ≤ (Int32.toInt z17) := w18.1
      have p21 : (Int32.toInt z17) ≤ 1 := w18.2.1
      have p22 : (((Int32.toInt z17), z16) : Int × Int64) = TWD (NMF x15) (NMF x14) (PA fm0 (Int32.toInt x8)) (Int32.toInt r6) ((Int32.toInt x7), y0) := w18.2.2
      refine r_aload_n 39 1 C dX0_endLetter_39 rfl ?_
      refine r_get 40 C dX0_endLetter_40 (k := 1) 3 rfl rfl hiX0 (by decide) rfl (mg 3 rfl) (Or.inr (mg 4 rfl)) rfl ?_
      refine r_callVi 43 C dX0_endLetter_43 [] [(h2, .inr (5, [.ref h5, .ref h6, .int x10, .int x11, .long y1, .long y2, .int x12])), (h5, .inl (gB g, 400, .inl fn0)), (h6, .inl (gJ g, 2400, .inr (.inl fm1)))] [(h0, .inr (0, [.ref h1, .ref h2, .ref h3, .int x0, .int x1, .long z16, .int x2, .int x3, .int x4, .int x5, .ref h7, .ref h8, .ref h9, .int x6, .int z17])), (h1, .inr (6, [.ref h4, .ref h10, .int x8, .int x9])), (h3, .inr (3, [.ref h11, .ref h12, .ref h13, .ref h14, .int x13, .int x14, .int x15])), (h4, .inl (gJ g, 48, .inr (.inl fm0)))] (fun sz => c290_X6_closeIfOpen l g h2 h5 h6 x10 x11 y1 y2 x12 fn0 fm1 i_x10 i_x11 i_x12 sz) gX0_endLetter_X6_closeIfOpen rfl ⟨rfl, rfl⟩ 0 (by decide) ⟨Nat.le_of_ble_eq_true rfl, Nat.le_of_ble_eq_true rfl⟩ 0 rfl rfl [0, 1, 2] [3, 4, 5, 6] rfl rfl (by decide) (by decide) (by decide) rfl rfl (Nat.le_of_ble_eq_true rfl) ⟨Nat.le_of_ble_eq_true rfl, Nat.le_of_ble_eq_true rfl⟩ (fun r26 u28 w27 => ?_)
      obtain ⟨z23, f24, f25⟩ := u28
      refine r_ws [(h0, .inr (0, [.ref h1, .ref h2, .ref h3, .int x0, .int x1, .long z16, .int x2, .int x3, .int x4, .int x5, .ref h7, .ref h8, .ref h9, .int x6, .int z17])), (h1, .inr (6, [.ref h4, .ref h10, .int x8, .int x9])), (h3, .inr (3, [.ref h11, .ref h12, .ref h13, .ref h14, .int x13, .int x14, .int x15])), (h4, .inl (gJ g, 48, .inr (.inl fm0))), (h2, .inr (5, [.ref h5, .ref h6, .int z23, .int x11, .long y1, .long y2, .int x12])), (h5, .inl (gB g, 400, .inl f24)), (h6, .inl (gJ g, 2400, .inr (.inl f25)))] rfl ?_
      have p29 : 0 ≤ (Int32.toInt r26) := w27.1
      have p30 : (Int32.toInt r26) ≤ 6 := w27.2.1
      have p31 : 0 ≤ (Int32.toInt z23) := w27.2.2.1
      have p32 : (Int32.toInt z23) ≤ 400 := w27.2.2.2.1
      have p33 : OEQ (PTS f24 f25 (Int32.toInt z23)) y1 y2 (Int32.toInt x12) (Int32.toInt r26) (CLO (Int32.toInt x11) (PTS fn0 fm1 (Int32.toInt x10), y1, y2, (Int32.toInt x12))) := w27.2.2.2.2
      refine r_istore_n 46 C dX0_endLetter_46 [(2, .int r26), (1, .int r6), (0, .ref h0)] (by decide) rfl ?_
      refine r_iload_n 47 0 C dX0_endLetter_47 rfl ?_
      refine r_if_ne 48 55 C dX0_endLetter_48 (by decide) (fun c34 => ?_) (fun c34 => ?_)
      · skip
        have k35 : ¬ ((Int32.toInt r26) = 0) := fun h_9 => c34 ((fa_eq r26 0).mpr h_9)
        refine r_iload_n 55 0 C dX0_endLetter_55 rfl ?_
        exact r_iret 56 Rt dX0_endLetter_56 (z16, x5, z17, z23, f24, f25) (show 0 ≤ (Int32.toInt r26) ∧ (Int32.toInt r26) ≤ 6 ∧ 0 ≤ (Int32.toInt x5) ∧ (Int32.toInt x5) ≤ 1 ∧ 0 ≤ (Int32.toInt z17) ∧ (Int32.toInt z17) ≤ 1 ∧ 0 ≤ (Int32.toInt z23) ∧ (Int32.toInt z23) ≤ 400 ∧ (((Int32.toInt z17), z16) : Int × Int64) = ENW (NMF x15) (NMF x14) (PA fm0 (Int32.toInt x8)) ((Int32.toInt x7), y0) ∧ OEQ (PTS f24 f25 (Int32.toInt z23)) y1 y2 (Int32.toInt x12) (Int32.toInt r26) (ENO (Int32.toInt x11) (PA fm0 (Int32.toInt x8)) (Int32.toInt x7) (PTS fn0 fm1 (Int32.toInt x10), y1, y2, (Int32.toInt x12))) ∧ (((Int32.toInt r26) = 0 ∧ (Int32.toInt x5) = 1) ∨ (¬ ((Int32.toInt r26) = 0) ∧ (Int32.toInt x5) = (Int32.toInt x5))) from ⟨(show _ ∧ _ from ⟨p29, p30⟩).1, (show _ ∧ _ from ⟨p29, p30⟩).2, i_x5.1, i_x5.2, (show _ ∧ _ from ⟨p20, p21⟩).1, (show _ ∧ _ from ⟨p20, p21⟩).2, (show _ ∧ _ from ⟨p31, p32⟩).1, (show _ ∧ _ from ⟨p31, p32⟩).2, (by first | exact enw_y ((eok_pa (by omega) (esh_pa (a := 1) (by omega) (by have h_0 : Int32.toInt 0 = 0 := rfl; have h_1 : Int32.toInt 1 = 1 := rfl; omega) (by have h_0 : Int32.toInt 0 = 0 := rfl; have h_1 : Int32.toInt 1 = 1 := rfl; omega))).mpr (by have h_0 : Int32.toInt 0 = 0 := rfl; have h_1 : Int32.toInt 1 = 1 := rfl; omega)) (esh_pa (a := 1) (by omega) (by have h_0 : Int32.toInt 0 = 0 := rfl; have h_1 : Int32.toInt 1 = 1 := rfl; omega) (by have h_0 : Int32.toInt 0 = 0 := rfl; have h_1 : Int32.toInt 1 = 1 := rfl; omega)) p22 | exact enw_y ((eok_pa (by omega) (esh_pa (a := 0) (by omega) (by have h_0 : Int32.toInt 0 = 0 := rfl; have h_1 : Int32.toInt 1 = 1 := rfl; omega) (by have h_0 : Int32.toInt 0 = 0 := rfl; have h_1 : Int32.toInt 1 = 1 := rfl; omega))).mpr (by have h_0 : Int32.toInt 0 = 0 := rfl; have h_1 : Int32.toInt 1 = 1 := rfl; omega)) (esh_pa (a := 0) (by omega) (by have h_0 : Int32.toInt 0 = 0 := rfl; have h_1 : Int32.toInt 1 = 1 := rfl; omega) (by have h_0 : Int32.toInt 0 = 0 := rfl; have h_1 : Int32.toInt 1 = 1 := rfl; omega)) p22), (by first | exact asko_y ((eok_pa (by omega) (esh_pa (a := 1) (by omega) (by have h_0 : Int32.toInt 0 = 0 := rfl; have h_1 : Int32.toInt 1 = 1 := rfl; omega) (by have h_0 : Int32.toInt 0 = 0 := rfl; have h_1 : Int32.toInt 1 = 1 := rfl; omega))).mpr (by have h_0 : Int32.toInt 0 = 0 := rfl; have h_1 : Int32.toInt 1 = 1 := rfl; omega)) p33 | exact asko_y ((eok_pa (by omega) (esh_pa (a := 0) (by omega) (by have h_0 : Int32.toInt 0 = 0 := rfl; have h_1 : Int32.toInt 1 = 1 := rfl; omega) (by have h_0 : Int32.toInt 0 = 0 := rfl; have h_1 : Int32.toInt 1 = 1 := rfl; omega))).mpr (by have h_0 : Int32.toInt 0 = 0 := rfl; have h_1 : Int32.toInt 1 = 1 := rfl; omega)) p33), (by ((repeat' apply And.intro) <;> first | trivial | rfl | assumption | omega | decide | exact Or.inl rfl | exact Or.inr (Or.inl rfl) | exact Or.inr (Or.inr rfl)))⟩) [0, 1, 4, 2, 3, 5, 6] (by decide) rfl (Nat.le_of_ble_eq_true rfl) (Nat.le_of_ble_eq_true rfl)
      · skip
        have k36 : (Int32.toInt r26) = 0 := (fa_eq r26 0).mp c34
        refine r_aload_n 51 2 C dX0_endLetter_51 rfl ?_
        refine r_callUv 52 C dX0_endLetter_52 [] [(h0, .inr (0, [.ref h1, .ref h2, .ref h3, .int x0, .int x1, .long z16, .int x2, .int x3, .int x4, .int x5, .ref h7, .ref h8, .ref h9, .int x6, .int z17]))] [(h1, .inr (6, [.ref h4, .ref h10, .int x8, .int x9])), (h3, .inr (3, [.ref h11, .ref h12, .ref h13, .ref h14, .int x13, .int x14, .int x15])), (h4, .inl (gJ g, 48, .inr (.inl fm0))), (h2, .inr (5, [.ref h5, .ref h6, .int z23, .int x11, .long y1, .long y2, .int x12])), (h5, .inl (gB g, 400, .inl f24)), (h6, .inl (gJ g, 2400, .inr (.inl f25)))] (fun sz => c293_X4_finishAll l g h0 h1 h2 h3 x0 x1 z16 x2 x3 x4 x5 h7 h8 h9 x6 z17 i_x2 i_x3 i_x4 i_x5 i_x6 ⟨p20, p21⟩ sz) gX0_endLetter_X4_finishAll_u162X0 rfl ⟨rfl, rfl⟩ 0 rfl (by decide) ⟨Nat.le_of_ble_eq_true rfl, Nat.le_of_ble_eq_true rfl⟩ 0 rfl rfl [0] [1, 2, 3, 4, 5, 6] rfl rfl (by decide) (by decide) (by decide) rfl rfl (Nat.le_of_ble_eq_true rfl) ⟨Nat.le_of_ble_eq_true rfl, Nat.le_of_ble_eq_true rfl⟩ (fun  _ w37 => ?_)
        refine r_ws [(h1, .inr (6, [.ref h4, .ref h10, .int x8, .int x9])), (h3, .inr (3, [.ref h11, .ref h12, .ref h13, .ref h14, .int x13, .int x14, .int x15])), (h4, .inl (gJ g, 48, .inr (.inl fm0))), (h2, .inr (5, [.ref h5, .ref h6, .int z23, .int x11, .long y1, .long y2, .int x12])), (h5, .inl (gB g, 400, .inl f24)), (h6, .inl (gJ g, 2400, .inr (.inl f25))), (h0, .inr (0, [.ref h1, .ref h2, .ref h3, .int x0, .int x1, .long z16, .int x2, .int x3, .int x4, .int 1, .ref h7, .ref h8, .ref h9, .int x6, .int z17]))] rfl ?_
        refine r_iload_n 55 0 C dX0_endLetter_55 rfl ?_
        exact r_iret 56 Rt dX0_endLetter_56 (z16, 1, z17, z23, f24, f25) (show 0 ≤ (Int32.toInt r26) ∧ (Int32.toInt r26) ≤ 6 ∧ 0 ≤ (Int32.toInt 1) ∧ (Int32.toInt 1) ≤ 1 ∧ 0 ≤ (Int32.toInt z17) ∧ (Int32.toInt z17) ≤ 1 ∧ 0 ≤ (Int32.toInt z23) ∧ (Int32.toInt z23) ≤ 400 ∧ (((Int32.toInt z17), z16) : Int × Int64) = ENW (NMF x15) (NMF x14) (PA fm0 (Int32.toInt x8)) ((Int32.toInt x7), y0) ∧ OEQ (PTS f24 f25 (Int32.toInt z23)) y1 y2 (Int32.toInt x12) (Int32.toInt r26) (ENO (Int32.toInt x11) (PA fm0 (Int32.toInt x8)) (Int32.toInt x7) (PTS fn0 fm1 (Int32.toInt x10), y1, y2, (Int32.toInt x12))) ∧ (((Int32.toInt r26) = 0 ∧ 1 = 1) ∨ (¬ ((Int32.toInt r26) = 0) ∧ 1 = (Int32.toInt x5))) from ⟨(show _ ∧ _ from ⟨p29, p30⟩).1, (show _ ∧ _ from ⟨p29, p30⟩).2, (by ((repeat' apply And.intro) <;> first | trivial | rfl | assumption | omega | decide | exact Or.inl rfl | exact Or.inr (Or.inl rfl) | exact Or.inr (Or.inr rfl))), (by ((repeat' apply And.intro) <;> first | trivial | rfl | assumption | omega | decide | exact Or.inl rfl | exact Or.inr (Or.inl rfl) | exact Or.inr (Or.inr rfl))), (show _ ∧ _ from ⟨p20, p21⟩).1, (show _ ∧ _ from ⟨p20, p21⟩).2, (show _ ∧ _ from ⟨p31, p32⟩).1, (show _ ∧ _ from ⟨p31, p32⟩).2, (by first | exact enw_y ((eok_pa (by omega) (esh_pa (a := 1) (by omega) (by have h_0 : Int32.toInt 0 = 0 := rfl; have h_1 : Int32.toInt 1 = 1 := rfl; omega) (by have h_0 : Int32.toInt 0 = 0 := rfl; have h_1 : Int32.toInt 1 = 1 := rfl; omega))).mpr (by have h_0 : Int32.toInt 0 = 0 := rfl; have h_1 : Int32.toInt 1 = 1 := rfl; omega)) (esh_pa (a := 1) (by omega) (by have h_0 : Int32.toInt 0 = 0 := rfl; have h_1 : Int32.toInt 1 = 1 := rfl; omega) (by have h_0 : Int32.toInt 0 = 0 := rfl; have h_1 : Int32.toInt 1 = 1 := rfl; omega)) p22 | exact enw_y ((eok_pa (by omega) (esh_pa (a := 0) (by omega) (by have h_0 : Int32.toInt 0 = 0 := rfl; have h_1 : Int32.toInt 1 = 1 := rfl; omega) (by have h_0 : Int32.toInt 0 = 0 := rfl; have h_1 : Int32.toInt 1 = 1 := rfl; omega))).mpr (by have h_0 : Int32.toInt 0 = 0 := rfl; have h_1 : Int32.toInt 1 = 1 := rfl; omega)) (esh_pa (a := 0) (by omega) (by have h_0 : Int32.toInt 0 = 0 := rfl; have h_1 : Int32.toInt 1 = 1 := rfl; omega) (by have h_0 : Int32.toInt 0 = 0 := rfl; have h_1 : Int32.toInt 1 = 1 := rfl; omega)) p22), (by first | exact asko_y ((eok_pa (by omega) (esh_pa (a := 1) (by omega) (by have h_0 : Int32.toInt 0 = 0 := rfl; have h_1 : Int32.toInt 1 = 1 := rfl; omega) (by have h_0 : Int32.toInt 0 = 0 := rfl; have h_1 : Int32.toInt 1 = 1 := rfl; omega))).mpr (by have h_0 : Int32.toInt 0 = 0 := rfl; have h_1 : Int32.toInt 1 = 1 := rfl; omega)) p33 | exact asko_y ((eok_pa (by omega) (esh_pa (a := 0) (by omega) (by have h_0 : Int32.toInt 0 = 0 := rfl; have h_1 : Int32.toInt 1 = 1 := rfl; omega) (by have h_0 : Int32.toInt 0 = 0 := rfl; have h_1 : Int32.toInt 1 = 1 := rfl; omega))).mpr (by have h_0 : Int32.toInt 0 = 0 := rfl; have h_1 : Int32.toInt 1 = 1 := rfl; omega)) p33), (by ((repeat' apply And.intro) <;> first | trivial | rfl | assumption | omega | decide | exact Or.inl rfl | exact Or.inr (Or.inl rfl) | exact Or.inr (Or.inr rfl)))⟩) [6, 0, 3, 1, 2, 4, 5] (by decide) rfl (Nat.le_of_ble_eq_true rfl) (Nat.le_of_ble_eq_true rfl)
    · skip
      have k38 : ¬ ((Int32.toInt x8) = (Int32.toInt r6)) := fun h_9 => c14 ((fa_eq x8 r6).mpr h_9)
      refine r_iconst 32 2 C dX0_endLetter_32 (by decide) ?_
      exact r_iret 33 Rt dX0_endLetter_33 (y0, x5, x7, x10, fn0, fm1) (show 0 ≤ (Int32.toInt 2) ∧ (Int32.toInt 2) ≤ 6 ∧ 0 ≤ (Int32.toInt x5) ∧ (Int32.toInt x5) ≤ 1 ∧ 0 ≤ (Int32.toInt x7) ∧ (Int32.toInt x7) ≤ 1 ∧ 0 ≤ (Int32.toInt x10) ∧ (Int32.toInt x10) ≤ 400 ∧ (((Int32.toInt x7), y0) : Int × Int64) = ENW (NMF x15) (NMF x14) (PA fm0 (Int32.toInt x8)) ((Int32.toInt x7), y0) ∧ OEQ (PTS fn0 fm1 (Int32.toInt x10)) y1 y2 (Int32.toInt x12) 2 (ENO (Int32.toInt x11) (PA fm0 (Int32.toInt x8)) (Int32.toInt x7) (PTS fn0 fm1 (Int32.toInt x10), y1, y2, (Int32.toInt x12))) ∧ ((2 = 0 ∧ (Int32.toInt x5) = 1) ∨ (¬ (2 = 0) ∧ (Int32.toInt x5) = (Int32.toInt x5))) from ⟨(by ((repeat' apply And.intro) <;> first | trivial | rfl | assumption | omega | decide | exact Or.inl rfl | exact Or.inr (Or.inl rfl) | exact Or.inr (Or.inr rfl))), (by ((repeat' apply And.intro) <;> first | trivial | rfl | assumption | omega | decide | exact Or.inl rfl | exact Or.inr (Or.inl rfl) | exact Or.inr (Or.inr rfl))), i_x5.1, i_x5.2, i_x7.1, i_x7.2, i_x10.1, i_x10.2, (by first | exact enw_n (fun h_9 => absurd ((eok_pa (by omega) (esh_pa (a := 1) (by omega) (by have h_0 : Int32.toInt 0 = 0 := rfl; have h_1 : Int32.toInt 1 = 1 := rfl; omega) (by have h_0 : Int32.toInt 0 = 0 := rfl; have h_1 : Int32.toInt 1 = 1 := rfl; omega))).mp h_9) (by have h_0 : Int32.toInt 0 = 0 := rfl; have h_1 : Int32.toInt 1 = 1 := rfl; omega)) | exact enw_n (fun h_9 => absurd ((eok_pa (by omega) (esh_pa (a := 0) (by omega) (by have h_0 : Int32.toInt 0 = 0 := rfl; have h_1 : Int32.toInt 1 = 1 := rfl; omega) (by have h_0 : Int32.toInt 0 = 0 := rfl; have h_1 : Int32.toInt 1 = 1 := rfl; omega))).mp h_9) (by have h_0 : Int32.toInt 0 = 0 := rfl; have h_1 : Int32.toInt 1 = 1 := rfl; omega))), (by first | exact asko_n (fun h_9 => absurd ((eok_pa (by omega) (esh_pa (a := 1) (by omega) (by have h_0 : Int32.toInt 0 = 0 := rfl; have h_1 : Int32.toInt 1 = 1 := rfl; omega) (by have h_0 : Int32.toInt 0 = 0 := rfl; have h_1 : Int32.toInt 1 = 1 := rfl; omega))).mp h_9) (by have h_0 : Int32.toInt 0 = 0 := rfl; have h_1 : Int32.toInt 1 = 1 := rfl; omega)) rfl rfl | exact asko_n (fun h_9 => absurd ((eok_pa (by omega) (esh_pa (a := 0) (by omega) (by have h_0 : Int32.toInt 0 = 0 := rfl; have h_1 : Int32.toInt 1 = 1 := rfl; omega) (by have h_0 : Int32.toInt 0 = 0 := rfl; have h_1 : Int32.toInt 1 = 1 := rfl; omega))).mp h_9) (by have h_0 : Int32.toInt 0 = 0 := rfl; have h_1 : Int32.toInt 1 = 1 := rfl; omega)) rfl rfl), (by ((repeat' apply And.intro) <;> first | trivial | rfl | assumption | omega | decide | exact Or.inl rfl | exact Or.inr (Or.inl rfl) | exact Or.inr (Or.inr rfl)))⟩) [5, 6, 0, 1, 2, 3, 4] (by decide) rfl (Nat.le_of_ble_eq_true rfl) (Nat.le_of_ble_eq_true rfl)
  · skip
    have k39 : (Int32.toInt x8) = 1 := (fa_eq x8 1).mp c4
    refine r_iconst 12 1 C dX0_endLetter_12 (by decide) ?_
    refine r_goto 13 17 C dX0_endLetter_13 (by decide) ?_
    refine r_callVi 17 C dX0_endLetter_17 [] [(h0, .inr (0, [.ref h1, .ref h2, .ref h3, .int x0, .int x1, .long y0, .int x2, .int x3, .int x4, .int x5, .ref h7, .ref h8, .ref h9, .int x6, .int x7]))] [(h2, .inr (5, [.ref h5, .ref h6, .int x10, .int x11, .long y1, .long y2, .int x12])), (h3, .inr (3, [.ref h11, .ref h12, .ref h13, .ref h14, .int x13, .int x14, .int x15])), (h4, .inl (gJ g, 48, .inr (.inl fm0))), (h5, .inl (gB g, 400, .inl fn0)), (h6, .inl (gJ g, 2400, .inr (.inl fm1))), (h1, .inr (6, [.ref h4, .ref h10, .int x8, .int x9]))] (fun sz => c288_X0_widthsShare l g h0 1 h1 h2 h3 x0 x1 y0 x2 x3 x4 x5 h7 h8 h9 x6 x7 (by decide) i_x2 i_x3 i_x4 i_x5 i_x6 i_x7 sz) gX0_endLetter_X0_widthsShare rfl ⟨rfl, rfl⟩ 1 (by decide) ⟨Nat.le_of_ble_eq_true rfl, Nat.le_of_ble_eq_true rfl⟩ 0 rfl rfl [0] [1, 2, 3, 4, 5, 6] rfl rfl (by decide) (by decide) (by decide) rfl rfl (Nat.le_of_ble_eq_true rfl) ⟨Nat.le_of_ble_eq_true rfl, Nat.le_of_ble_eq_true rfl⟩ (fun r40 _ w41 => ?_)
    refine r_ws [(h2, .inr (5, [.ref h5, .ref h6, .int x10, .int x11, .long y1, .long y2, .int x12])), (h3, .inr (3, [.ref h11, .ref h12, .ref h13, .ref h14, .int x13, .int x14, .int x15])), (h4, .inl (gJ g, 48, .inr (.inl fm0))), (h5, .inl (gB g, 400, .inl fn0)), (h6, .inl (gJ g, 2400, .inr (.inl fm1))), (h1, .inr (6, [.ref h4, .ref h10, .int x8, .int x9])), (h0, .inr (0, [.ref h1, .ref h2, .ref h3, .int x0, .int x1, .long y0, .int x2, .int x3, .int x4, .int x5, .ref h7, .ref h8, .ref h9, .int x6, .int x7]))] rfl ?_
    have p42 : 0 ≤ (Int32.toInt r40) := w41.1
    have p43 : (Int32.toInt r40) ≤ 1 := w41.2.1
    have p44 : (((1 : Int) = 1 ∧ (Int32.toInt x7) = 0 ∧ (Int32.toInt r40) = 1) ∨ (¬ ((1 : Int) = 1 ∧ (Int32.toInt x7) = 0) ∧ (Int32.toInt r40) = 0)) := w41.2.2
    refine r_istore_n 20 C dX0_endLetter_20 [(1, .int r40), (0, .ref h0)] (by decide) rfl ?_
    refine r_aload_n 21 1 C dX0_endLetter_21 rfl ?_
    refine r_get 22 C dX0_endLetter_22 (k := 0) 6 rfl rfl hiX0 (by decide) rfl (mg 1 rfl) (Or.inr (mg 2 rfl)) rfl ?_
    refine r_callVi 25 C dX0_endLetter_25 [] [(h1, .inr (6, [.ref h4, .ref h10, .int x8, .int x9]))] [(h2, .inr (5, [.ref h5, .ref h6, .int x10, .int x11, .long y1, .long y2, .int x12])), (h3, .inr (3, [.ref h11, .ref h12, .ref h13, .ref h14, .int x13, .int x14, .int x15])), (h4, .inl (gJ g, 48, .inr (.inl fm0))), (h5, .inl (gB g, 400, .inl fn0)), (h6, .inl (gJ g, 2400, .inr (.inl fm1))), (h0, .inr (0, [.ref h1, .ref h2, .ref h3, .int x0, .int x1, .long y0, .int x2, .int x3, .int x4, .int x5, .ref h7, .ref h8, .ref h9, .int x6, .int x7]))] (fun sz => c231_X7_size l g h1 h4 h10 x8 x9 i_x8 i_x9 sz) gX0_endLetter_X7_size rfl ⟨rfl, rfl⟩ 0 (by decide) ⟨Nat.le_of_ble_eq_true rfl, Nat.le_of_ble_eq_true rfl⟩ 5 rfl rfl [5] [0, 1, 2, 3, 4, 6] rfl rfl (by decide) (by decide) (by decide) rfl rfl (Nat.le_of_ble_eq_true rfl) ⟨Nat.le_of_ble_eq_true rfl, Nat.le_of_ble_eq_true rfl⟩ (fun r45 _ w46 => ?_)
    refine r_ws [(h2, .inr (5, [.ref h5, .ref h6, .int x10, .int x11, .long y1, .long y2, .int x12])), (h3, .inr (3, [.ref h11, .ref h12, .ref h13, .ref h14, .int x13, .int x14, .int x15])), (h4, .inl (gJ g, 48, .inr (.inl fm0))), (h5, .inl (gB g, 400, .inl fn0)), (h6, .inl (gJ g, 2400, .inr (.inl fm1))), (h0, .inr (0, [.ref h1, .ref h2, .ref h3, .int x0, .int x1, .long y0, .int x2, .int x3, .int x4, .int x5, .ref h7, .ref h8, .ref h9, .int x6, .int x7])), (h1, .inr (6, [.ref h4, .ref h10, .int x8, .int x9]))] rfl ?_
    have p47 : x8 = r45 := (w46).symm
    subst p47
    refine r_iload_n 28 0 C dX0_endLetter_28 rfl ?_
    refine r_icmp_eq 29 34 C dX0_endLetter_29 (by decide) (fun c48 => ?_) (fun c48 => ?_)
    · skip
      have k49 : (Int32.toInt x8) = (Int32.toInt r40) := (fa_eq x8 r40).mp c48
      refine r_aload_n 34 1 C dX0_endLetter_34 rfl ?_
      refine r_iload_n 35 0 C dX0_endLetter_35 rfl ?_
      refine r_callVv 36 C dX0_endLetter_36 [] [(h0, .inr (0, [.ref h1, .ref h2, .ref h3, .int x0, .int x1, .long y0, .int x2, .int x3, .int x4, .int x5, .ref h7, .ref h8, .ref h9, .int x6, .int x7])), (h1, .inr (6, [.ref h4, .ref h10, .int x8, .int x9])), (h3, .inr (3, [.ref h11, .ref h12, .ref h13, .ref h14, .int x13, .int x14, .int x15])), (h4, .inl (gJ g, 48, .inr (.inl fm0)))] [(h2, .inr (5, [.ref h5, .ref h6, .int x10, .int x11, .long y1, .long y2, .int x12])), (h5, .inl (gB g, 400, .inl fn0)), (h6, .inl (gJ g, 2400, .inr (.inl fm1)))] (fun sz => c289_X0_tellWidth l g h0 h1 h3 h4 r40 h2 x0 x1 y0 x2 x3 x4 x5 h7 h8 h9 x6 x7 h10 x8 x9 h11 h12 h13 h14 x13 x14 x15 fm0 ⟨p42, p43⟩ i_x2 i_x3 i_x4 i_x5 i_x6 i_x7 i_x8 i_x9 sz) gX0_endLetter_X0_tellWidth rfl ⟨rfl, rfl⟩ 1 (by decide) ⟨Nat.le_of_ble_eq_true rfl, Nat.le_of_ble_eq_true rfl⟩ 5 rfl rfl [5, 6, 1, 2] [0, 3, 4] rfl rfl (by decide) (by decide) (by decide) rfl rfl (Nat.le_of_ble_eq_true rfl) ⟨Nat.le_of_ble_eq_true rfl, Nat.le_of_ble_eq_true rfl⟩ (fun  u53 w52 => ?_)
      obtain ⟨z50, z51⟩ := u53
      refine r_ws [(h2, .inr (5, [.ref h5, .ref h6, .int x10, .int x11, .long y1, .long y2, .int x12])), (h5, .inl (gB g, 400, .inl fn0)), (h6, .inl (gJ g, 2400, .inr (.inl fm1))), (h0, .inr (0, [.ref h1, .ref h2, .ref h3, .int x0, .int x1, .long z50, .int x2, .int x3, .int x4, .int x5, .ref h7, .ref h8, .ref h9, .int x6, .int z51])), (h1, .inr (6, [.ref h4, .ref h10, .int x8, .int x9])), (h3, .inr (3, [.ref h11, .ref h12, .ref h13, .ref h14, .int x13, .int x14, .int x15])), (h4, .inl (gJ g, 48, .inr (.inl fm0)))] rfl ?_
      have gz50 := fb_rngL z50
      have p54 : 0 ≤ (Int32.toInt z51) := w52.1
      have p55 : (Int32.toInt z51) ≤ 1 := w52.2.1
      have p56 : (((Int32.toInt z51), z50) : Int × Int64) = TWD (NMF x15) (NMF x14) (PA fm0 (Int32.toInt x8)) (Int32.toInt r40) ((Int32.toInt x7), y0) := w52.2.2
      refine r_aload_n 39 1 C dX0_endLetter_39 rfl ?_
      refine r_get 40 C dX0_endLetter_40 (k := 1) 3 rfl rfl hiX0 (by decide) rfl (mg 3 rfl) (Or.inr (mg 4 rfl)) rfl ?_
      refine r_callVi 43 C dX0_endLetter_43 [] [(h2, .inr (5, [.ref h5, .ref h6, .int x10, .int x11, .long y1, .long y2, .int x12])), (h5, .inl (gB g, 400, .inl fn0)), (h6, .inl (gJ g, 2400, .inr (.inl fm1)))] [(h0, .inr (0, [.ref h1, .ref h2, .ref h3, .int x0, .int x1, .long z50, .int x2, .int x3, .int x4, .int x5, .ref h7, .ref h8, .ref h9, .int x6, .int z51])), (h1, .inr (6, [.ref h4, .ref h10, .int x8, .int x9])), (h3, .inr (3, [.ref h11, .ref h12, .ref h13, .ref h14, .int x13, .int x14, .int x15])), (h4, .inl (gJ g, 48, .inr (.inl fm0)))] (fun sz => c290_X6_closeIfOpen l g h2 h5 h6 x10 x11 y1 y2 x12 fn0 fm1 i_x10 i_x11 i_x12 sz) gX0_endLetter_X6_closeIfOpen rfl ⟨rfl, rfl⟩ 0 (by decide) ⟨Nat.le_of_ble_eq_true rfl, Nat.le_of_ble_eq_true rfl⟩ 0 rfl rfl [0, 1, 2] [3, 4, 5, 6] rfl rfl (by decide) (by decide) (by decide) rfl rfl (Nat.le_of_ble_eq_true rfl) ⟨Nat.le_of_ble_eq_true rfl, Nat.le_of_ble_eq_true rfl⟩ (fun r60 u62 w61 => ?_)
      obtain ⟨z57, f58, f59⟩ := u62
      refine r_ws [(h0, .inr (0, [.ref h1, .ref h2, .ref h3, .int x0, .int x1, .long z50, .int x2, .int x3, .int x4, .int x5, .ref h7, .ref h8, .ref h9, .int x6, .int z51])), (h1, .inr (6, [.ref h4, .ref h10, .int x8, .int x9])), (h3, .inr (3, [.ref h11, .ref h12, .ref h13, .ref h14, .int x13, .int x14, .int x15])), (h4, .inl (gJ g, 48, .inr (.inl fm0))), (h2, .inr (5, [.ref h5, .ref h6, .int z57, .int x11, .long y1, .long y2, .int x12])), (h5, .inl (gB g, 400, .inl f58)), (h6, .inl (gJ g, 2400, .inr (.inl f59)))] rfl ?_
      have p63 : 0 ≤ (Int32.toInt r60) := w61.1
      have p64 : (Int32.toInt r60) ≤ 6 := w61.2.1
      have p65 : 0 ≤ (Int32.toInt z57) := w61.2.2.1
      have p66 : (Int32.toInt z57) ≤ 400 := w61.2.2.2.1
      have p67 : OEQ (PTS f58 f59 (Int32.toInt z57)) y1 y2 (Int32.toInt x12) (Int32.toInt r60) (CLO (Int32.toInt x11) (PTS fn0 fm1 (Int32.toInt x10), y1, y2, (Int32.toInt x12))) := w61.2.2.2.2
      refine r_istore_n 46 C dX0_endLetter_46 [(2, .int r60), (1, .int r40), (0, .ref h0)] (by decide) rfl ?_
      refine r_iload_n 47 0 C dX0_endLetter_47 rfl ?_
      refine r_if_ne 48 55 C dX0_endLetter_48 (by decide) (fun c68 => ?_) (fun c68 => ?_)
      · skip
        have k69 : ¬ ((Int32.toInt r60) = 0) := fun h_9 => c68 ((fa_eq r60 0).mpr h_9)
        refine r_iload_n 55 0 C dX0_endLetter_55 rfl ?_
        exact r_iret 56 Rt dX0_endLetter_56 (z50, x5, z51, z57, f58, f59) (show 0 ≤ (Int32.toInt r60) ∧ (Int32.toInt r60) ≤ 6 ∧ 0 ≤ (Int32.toInt x5) ∧ (Int32.toInt x5) ≤ 1 ∧ 0 ≤ (Int32.toInt z51) ∧ (Int32.toInt z51) ≤ 1 ∧ 0 ≤ (Int32.toInt z57) ∧ (Int32.toInt z57) ≤ 400 ∧ (((Int32.toInt z51), z50) : Int × Int64) = ENW (NMF x15) (NMF x14) (PA fm0 (Int32.toInt x8)) ((Int32.toInt x7), y0) ∧ OEQ (PTS f58 f59 (Int32.toInt z57)) y1 y2 (Int32.toInt x12) (Int32.toInt r60) (ENO (Int32.toInt x11) (PA fm0 (Int32.toInt x8)) (Int32.toInt x7) (PTS fn0 fm1 (Int32.toInt x10), y1, y2, (Int32.toInt x12))) ∧ (((Int32.toInt r60) = 0 ∧ (Int32.toInt x5) = 1) ∨ (¬ ((Int32.toInt r60) = 0) ∧ (Int32.toInt x5) = (Int32.toInt x5))) from ⟨(show _ ∧ _ from ⟨p63, p64⟩).1, (show _ ∧ _ from ⟨p63, p64⟩).2, i_x5.1, i_x5.2, (show _ ∧ _ from ⟨p54, p55⟩).1, (show _ ∧ _ from ⟨p54, p55⟩).2, (show _ ∧ _ from ⟨p65, p66⟩).1, (show _ ∧ _ from ⟨p65, p66⟩).2, (by first | exact enw_y ((eok_pa (by omega) (esh_pa (a := 1) (by omega) (by have h_0 : Int32.toInt 0 = 0 := rfl; have h_1 : Int32.toInt 1 = 1 := rfl; omega) (by have h_0 : Int32.toInt 0 = 0 := rfl; have h_1 : Int32.toInt 1 = 1 := rfl; omega))).mpr (by have h_0 : Int32.toInt 0 = 0 := rfl; have h_1 : Int32.toInt 1 = 1 := rfl; omega)) (esh_pa (a := 1) (by omega) (by have h_0 : Int32.toInt 0 = 0 := rfl; have h_1 : Int32.toInt 1 = 1 := rfl; omega) (by have h_0 : Int32.toInt 0 = 0 := rfl; have h_1 : Int32.toInt 1 = 1 := rfl; omega)) p56 | exact enw_y ((eok_pa (by omega) (esh_pa (a := 0) (by omega) (by have h_0 : Int32.toInt 0 = 0 := rfl; have h_1 : Int32.toInt 1 = 1 := rfl; omega) (by have h_0 : Int32.toInt 0 = 0 := rfl; have h_1 : Int32.toInt 1 = 1 := rfl; omega))).mpr (by have h_0 : Int32.toInt 0 = 0 := rfl; have h_1 : Int32.toInt 1 = 1 := rfl; omega)) (esh_pa (a := 0) (by omega) (by have h_0 : Int32.toInt 0 = 0 := rfl; have h_1 : Int32.toInt 1 = 1 := rfl; omega) (by have h_0 : Int32.toInt 0 = 0 := rfl; have h_1 : Int32.toInt 1 = 1 := rfl; omega)) p56), (by first | exact asko_y ((eok_pa (by omega) (esh_pa (a := 1) (by omega) (by have h_0 : Int32.toInt 0 = 0 := rfl; have h_1 : Int32.toInt 1 = 1 := rfl; omega) (by have h_0 : Int32.toInt 0 = 0 := rfl; have h_1 : Int32.toInt 1 = 1 := rfl; omega))).mpr (by have h_0 : Int32.toInt 0 = 0 := rfl; have h_1 : Int32.toInt 1 = 1 := rfl; omega)) p67 | exact asko_y ((eok_pa (by omega) (esh_pa (a := 0) (by omega) (by have h_0 : Int32.toInt 0 = 0 := rfl; have h_1 : Int32.toInt 1 = 1 := rfl; omega) (by have h_0 : Int32.toInt 0 = 0 := rfl; have h_1 : Int32.toInt 1 = 1 := rfl; omega))).mpr (by have h_0 : Int32.toInt 0 = 0 := rfl; have h_1 : Int32.toInt 1 = 1 := rfl; omega)) p67), (by ((repeat' apply And.intro) <;> first | trivial | rfl | assumption | omega | decide | exact Or.inl rfl | exact Or.inr (Or.inl rfl) | exact Or.inr (Or.inr rfl)))⟩) [0, 1, 4, 2, 3, 5, 6] (by decide) rfl (Nat.le_of_ble_eq_true rfl) (Nat.le_of_ble_eq_true rfl)
      · skip
        have k70 : (Int32.toInt r60) = 0 := (fa_eq r60 0).mp c68
        refine r_aload_n 51 2 C dX0_endLetter_51 rfl ?_
        refine r_callUv 52 C dX0_endLetter_52 [] [(h0, .inr (0, [.ref h1, .ref h2, .ref h3, .int x0, .int x1, .long z50, .int x2, .int x3, .int x4, .int x5, .ref h7, .ref h8, .ref h9, .int x6, .int z51]))] [(h1, .inr (6, [.ref h4, .ref h10, .int x8, .int x9])), (h3, .inr (3, [.ref h11, .ref h12, .ref h13, .ref h14, .int x13, .int x14, .int x15])), (h4, .inl (gJ g, 48, .inr (.inl fm0))), (h2, .inr (5, [.ref h5, .ref h6, .int z57, .int x11, .long y1, .long y2, .int x12])), (h5, .inl (gB g, 400, .inl f58)), (h6, .inl (gJ g, 2400, .inr (.inl f59)))] (fun sz => c293_X4_finishAll l g h0 h1 h2 h3 x0 x1 z50 x2 x3 x4 x5 h7 h8 h9 x6 z51 i_x2 i_x3 i_x4 i_x5 i_x6 ⟨p54, p55⟩ sz) gX0_endLetter_X4_finishAll_u162X0 rfl ⟨rfl, rfl⟩ 0 rfl (by decide) ⟨Nat.le_of_ble_eq_true rfl, Nat.le_of_ble_eq_true rfl⟩ 0 rfl rfl [0] [1, 2, 3, 4, 5, 6] rfl rfl (by decide) (by decide) (by decide) rfl rfl (Nat.le_of_ble_eq_true rfl) ⟨Nat.le_of_ble_eq_true rfl, Nat.le_of_ble_eq_true rfl⟩ (fun  _ w71 => ?_)
        refine r_ws [(h1, .inr (6, [.ref h4, .ref h10, .int x8, .int x9])), (h3, .inr (3, [.ref h11, .ref h12, .ref h13, .ref h14, .int x13, .int x14, .int x15])), (h4, .inl (gJ g, 48, .inr (.inl fm0))), (h2, .inr (5, [.ref h5, .ref h6, .int z57, .int x11, .long y1, .long y2, .int x12])), (h5, .inl (gB g, 400, .inl f58)), (h6, .inl (gJ g, 2400, .inr (.inl f59))), (h0, .inr (0, [.ref h1, .ref h2, .ref h3, .int x0, .int x1, .long z50, .int x2, .int x3, .int x4, .int 1, .ref h7, .ref h8, .ref h9, .int x6, .int z51]))] rfl ?_
        refine r_iload_n 55 0 C dX0_endLetter_55 rfl ?_
        exact r_iret 56 Rt dX0_endLetter_56 (z50, 1, z51, z57, f58, f59) (show 0 ≤ (Int32.toInt r60) ∧ (Int32.toInt r60) ≤ 6 ∧ 0 ≤ (Int32.toInt 1) ∧ (Int32.toInt 1) ≤ 1 ∧ 0 ≤ (Int32.toInt z51) ∧ (Int32.toInt z51) ≤ 1 ∧ 0 ≤ (Int32.toInt z57) ∧ (Int32.toInt z57) ≤ 400 ∧ (((Int32.toInt z51), z50) : Int × Int64) = ENW (NMF x15) (NMF x14) (PA fm0 (Int32.toInt x8)) ((Int32.toInt x7), y0) ∧ OEQ (PTS f58 f59 (Int32.toInt z57)) y1 y2 (Int32.toInt x12) (Int32.toInt r60) (ENO (Int32.toInt x11) (PA fm0 (Int32.toInt x8)) (Int32.toInt x7) (PTS fn0 fm1 (Int32.toInt x10), y1, y2, (Int32.toInt x12))) ∧ (((Int32.toInt r60) = 0 ∧ 1 = 1) ∨ (¬ ((Int32.toInt r60) = 0) ∧ 1 = (Int32.toInt x5))) from ⟨(show _ ∧ _ from ⟨p63, p64⟩).1, (show _ ∧ _ from ⟨p63, p64⟩).2, (by ((repeat' apply And.intro) <;> first | trivial | rfl | assumption | omega | decide | exact Or.inl rfl | exact Or.inr (Or.inl rfl) | exact Or.inr (Or.inr rfl))), (by ((repeat' apply And.intro) <;> first | trivial | rfl | assumption | omega | decide | exact Or.inl rfl | exact Or.inr (Or.inl rfl) | exact Or.inr (Or.inr rfl))), (show _ ∧ _ from ⟨p54, p55⟩).1, (show _ ∧ _ from ⟨p54, p55⟩).2, (show _ ∧ _ from ⟨p65, p66⟩).1, (show _ ∧ _ from ⟨p65, p66⟩).2, (by first | exact enw_y ((eok_pa (by omega) (esh_pa (a := 1) (by omega) (by have h_0 : Int32.toInt 0 = 0 := rfl; have h_1 : Int32.toInt 1 = 1 := rfl; omega) (by have h_0 : Int32.toInt 0 = 0 := rfl; have h_1 : Int32.toInt 1 = 1 := rfl; omega))).mpr (by have h_0 : Int32.toInt 0 = 0 := rfl; have h_1 : Int32.toInt 1 = 1 := rfl; omega)) (esh_pa (a := 1) (by omega) (by have h_0 : Int32.toInt 0 = 0 := rfl; have h_1 : Int32.toInt 1 = 1 := rfl; omega) (by have h_0 : Int32.toInt 0 = 0 := rfl; have h_1 : Int32.toInt 1 = 1 := rfl; omega)) p56 | exact enw_y ((eok_pa (by omega) (esh_pa (a := 0) (by omega) (by have h_0 : Int32.toInt 0 = 0 := rfl; have h_1 : Int32.toInt 1 = 1 := rfl; omega) (by have h_0 : Int32.toInt 0 = 0 := rfl; have h_1 : Int32.toInt 1 = 1 := rfl; omega))).mpr (by have h_0 : Int32.toInt 0 = 0 := rfl; have h_1 : Int32.toInt 1 = 1 := rfl; omega)) (esh_pa (a := 0) (by omega) (by have h_0 : Int32.toInt 0 = 0 := rfl; have h_1 : Int32.toInt 1 = 1 := rfl; omega) (by have h_0 : Int32.toInt 0 = 0 := rfl; have h_1 : Int32.toInt 1 = 1 := rfl; omega)) p56), (by first | exact asko_y ((eok_pa (by omega) (esh_pa (a := 1) (by omega) (by have h_0 : Int32.toInt 0 = 0 := rfl; have h_1 : Int32.toInt 1 = 1 := rfl; omega) (by have h_0 : Int32.toInt 0 = 0 := rfl; have h_1 : Int32.toInt 1 = 1 := rfl; omega))).mpr (by have h_0 : Int32.toInt 0 = 0 := rfl; have h_1 : Int32.toInt 1 = 1 := rfl; omega)) p67 | exact asko_y ((eok_pa (by omega) (esh_pa (a := 0) (by omega) (by have h_0 : Int32.toInt 0 = 0 := rfl; have h_1 : Int32.toInt 1 = 1 := rfl; omega) (by have h_0 : Int32.toInt 0 = 0 := rfl; have h_1 : Int32.toInt 1 = 1 := rfl; omega))).mpr (by have h_0 : Int32.toInt 0 = 0 := rfl; have h_1 : Int32.toInt 1 = 1 := rfl; omega)) p67), (by ((repeat' apply And.intro) <;> first | trivial | rfl | assumption | omega | decide | exact Or.inl rfl | exact Or.inr (Or.inl rfl) | exact Or.inr (Or.inr rfl)))⟩) [6, 0, 3, 1, 2, 4, 5] (by decide) rfl (Nat.le_of_ble_eq_true rfl) (Nat.le_of_ble_eq_true rfl)
    · skip
      have k72 : ¬ ((Int32.toInt x8) = (Int32.toInt r40)) := fun h_9 => c48 ((fa_eq x8 r40).mpr h_9)
      refine r_iconst 32 2 C dX0_endLetter_32 (by decide) ?_
      exact r_iret 33 Rt dX0_endLetter_33 (y0, x5, x7, x10, fn0, fm1) (show 0 ≤ (Int32.toInt 2) ∧ (Int32.toInt 2) ≤ 6 ∧ 0 ≤ (Int32.toInt x5) ∧ (Int32.toInt x5) ≤ 1 ∧ 0 ≤ (Int32.toInt x7) ∧ (Int32.toInt x7) ≤ 1 ∧ 0 ≤ (Int32.toInt x10) ∧ (Int32.toInt x10) ≤ 400 ∧ (((Int32.toInt x7), y0) : Int × Int64) = ENW (NMF x15) (NMF x14) (PA fm0 (Int32.toInt x8)) ((Int32.toInt x7), y0) ∧ OEQ (PTS fn0 fm1 (Int32.toInt x10)) y1 y2 (Int32.toInt x12) 2 (ENO (Int32.toInt x11) (PA fm0 (Int32.toInt x8)) (Int32.toInt x7) (PTS fn0 fm1 (Int32.toInt x10), y1, y2, (Int32.toInt x12))) ∧ ((2 = 0 ∧ (Int32.toInt x5) = 1) ∨ (¬ (2 = 0) ∧ (Int32.toInt x5) = (Int32.toInt x5))) from ⟨(by ((repeat' apply And.intro) <;> first | trivial | rfl | assumption | omega | decide | exact Or.inl rfl | exact Or.inr (Or.inl rfl) | exact Or.inr (Or.inr rfl))), (by ((repeat' apply And.intro) <;> first | trivial | rfl | assumption | omega | decide | exact Or.inl rfl | exact Or.inr (Or.inl rfl) | exact Or.inr (Or.inr rfl))), i_x5.1, i_x5.2, i_x7.1, i_x7.2, i_x10.1, i_x10.2, (by first | exact enw_n (fun h_9 => absurd ((eok_pa (by omega) (esh_pa (a := 1) (by omega) (by have h_0 : Int32.toInt 0 = 0 := rfl; have h_1 : Int32.toInt 1 = 1 := rfl; omega) (by have h_0 : Int32.toInt 0 = 0 := rfl; have h_1 : Int32.toInt 1 = 1 := rfl; omega))).mp h_9) (by have h_0 : Int32.toInt 0 = 0 := rfl; have h_1 : Int32.toInt 1 = 1 := rfl; omega)) | exact enw_n (fun h_9 => absurd ((eok_pa (by omega) (esh_pa (a := 0) (by omega) (by have h_0 : Int32.toInt 0 = 0 := rfl; have h_1 : Int32.toInt 1 = 1 := rfl; omega) (by have h_0 : Int32.toInt 0 = 0 := rfl; have h_1 : Int32.toInt 1 = 1 := rfl; omega))).mp h_9) (by have h_0 : Int32.toInt 0 = 0 := rfl; have h_1 : Int32.toInt 1 = 1 := rfl; omega))), (by first | exact asko_n (fun h_9 => absurd ((eok_pa (by omega) (esh_pa (a := 1) (by omega) (by have h_0 : Int32.toInt 0 = 0 := rfl; have h_1 : Int32.toInt 1 = 1 := rfl; omega) (by have h_0 : Int32.toInt 0 = 0 := rfl; have h_1 : Int32.toInt 1 = 1 := rfl; omega))).mp h_9) (by have h_0 : Int32.toInt 0 = 0 := rfl; have h_1 : Int32.toInt 1 = 1 := rfl; omega)) rfl rfl | exact asko_n (fun h_9 => absurd ((eok_pa (by omega) (esh_pa (a := 0) (by omega) (by have h_0 : Int32.toInt 0 = 0 := rfl; have h_1 : Int32.toInt 1 = 1 := rfl; omega) (by have h_0 : Int32.toInt 0 = 0 := rfl; have h_1 : Int32.toInt 1 = 1 := rfl; omega))).mp h_9) (by have h_0 : Int32.toInt 0 = 0 := rfl; have h_1 : Int32.toInt 1 = 1 := rfl; omega)) rfl rfl), (by ((repeat' apply And.intro) <;> first | trivial | rfl | assumption | omega | decide | exact Or.inl rfl | exact Or.inr (Or.inl rfl) | exact Or.inr (Or.inr rfl)))⟩) [5, 6, 0, 1, 2, 3, 4] (by decide) rfl (Nat.le_of_ble_eq_true rfl) (Nat.le_of_ble_eq_true rfl)
set_option maxHeartbeats 4000000 in
set_option maxRecDepth 100000 in
theorem c295_X4_skipBytes (l : Launch) (g : GD) (h0 : Nat) (x0 : Int32) (h1 : Nat) (h2 : Nat) (h3 : Nat) (x1 : Int32) (x2 : Int32) (y0 : Int64) (x3 : Int32) (x4 : Int32) (x5 : Int32) (x6 : Int32) (h4 : Nat) (h5 : Nat) (h6 : Nat) (x7 : Int32) (x8 : Int32) (i_x0 : (0 ≤ (Int32.toInt x0) ∧ (Int32.toInt x0) ≤ 300000000)) (i_x3 : (0 ≤ (Int32.toInt x3) ∧ (Int32.toInt x3) ≤ 1500)) (i_x4 : (0 ≤ (Int32.toInt x4) ∧ (Int32.toInt x4) ≤ 1500)) (i_x5 : (0 ≤ (Int32.toInt x5) ∧ (Int32.toInt x5) ≤ 1500)) (i_x6 : (0 ≤ (Int32.toInt x6) ∧ (Int32.toInt x6) ≤ 1)) (i_x7 : (0 ≤ (Int32.toInt x7) ∧ (Int32.toInt x7) ≤ 10)) (i_x8 : (0 ≤ (Int32.toInt x8) ∧ (Int32.toInt x8) ≤ 1)) (pre0 : (Int32.toInt x5) ≤ (Int32.toInt x4)) (sz : Nat) : Met l yX4_skipBytes wsX4_skipBytes ({ frames := 1, cells := 0, slots := 0, locals := 15 }) (va_Pc [.ref h0, .int x0] (PW g [(h0, .inr (0, [.ref h1, .ref h2, .ref h3, .int x1, .int x2, .long y0, .int x3, .int x4, .int x5, .int x6, .ref h4, .ref h5, .ref h6, .int x7, .int x8]))] sz)) (va_Qi (fun (r : Int32) (u : (Int32)) => 0 ≤ (Int32.toInt r) ∧ (Int32.toInt r) ≤ 1 ∧ 0 ≤ (Int32.toInt u) ∧ (Int32.toInt u) ≤ 1500 ∧ ((Int32.toInt x4) < (Int32.toInt x5) ∨ ((Int32.toInt x0) ≤ (Int32.toInt x4) - (Int32.toInt x5) ∧ (Int32.toInt u) = (Int32.toInt x5) + (Int32.toInt x0) ∧ (Int32.toInt r) = 1) ∨ ((Int32.toInt x4) - (Int32.toInt x5) < (Int32.toInt x0) ∧ (Int32.toInt u) = (Int32.toInt x4) ∧ (Int32.toInt r) = 0))) (BW g (va_A [(h0, .inr (0, [.ref h1, .ref h2, .ref h3, .int x1, .int x2, .long y0, .int x3, .int x4, .int x5, .int x6, .ref h4, .ref h5, .ref h6, .int x7, .int x8]))] sz) (fun u : (Int32) => [(h0, .inr (0, [.ref h1, .ref h2, .ref h3, .int x1, .int x2, .long y0, .int x3, .int x4, .int u, .int x6, .ref h4, .ref h5, .ref h6, .int x7, .int x8]))])) (va_A [(h0, .inr (0, [.ref h1, .ref h2, .ref h3, .int x1, .int x2, .long y0, .int x3, .int x4, .int x5, .int x6, .ref h4, .ref h5, .ref h6, .int x7, .int x8]))] sz)) 0 0 (va_A [(h0, .inr (0, [.ref h1, .ref h2, .ref h3, .int x1, .int x2, .long y0, .int x3, .int x4, .int x5, .int x6, .ref h4, .ref h5, .ref h6, .int x7, .int x8]))] sz) := by
  refine met_z RX4 (by decide) rfl rfl (Nat.le_of_ble_eq_true rfl) [(0, .ref h0), (1, .int x0)] rfl ?_
  intro p e s m args below meth c A Q C hnm Rt
  have hiX0 : ∀ w ∈ wsX00, w ∈ wsX4_skipBytes := fun w h => List.mem_cons_of_mem _ (List.mem_append_left _ (List.mem_append_right _ (h)))
  refine r_aload_n 0 0 C dX4_skipBytes_0 rfl ?_
  refine r_get 1 C dX4_skipBytes_1 (k := 7) 0 rfl rfl hiX0 (by decide) rfl (mg 1 rfl) (Or.inl rfl) rfl ?_
  refine r_aload_n 4 0 C dX4_skipBytes_4 rfl ?_
  refine r_get 5 C dX4_skipBytes_5 (k := 8) 0 rfl rfl hiX0 (by decide) rfl (mg 2 rfl) (Or.inl rfl) rfl ?_
  obtain ⟨z1, ez1⟩ : ∃ z_9, x4 - x5 = z_9 := ⟨_, rfl⟩
  have tz1 : (Int32.toInt z1) = (Int32.toInt x4) - (Int32.toInt x5) := by rw [← ez1]; exact fb_subIv (a := 0) (b := 1500) (c := 0) (d := 1500) i_x4 i_x5 (by decide) (by decide)
  refine r_isub 8 z1 C dX4_skipBytes_8 ez1 ?_
  refine r_istore_n 9 C dX4_skipBytes_9 [(2, .int z1), (0, .ref h0), (1, .int x0)] (by decide) rfl ?_
  refine r_aload_n 10 1 C dX4_skipBytes_10 rfl ?_
  refine r_dup 11 C dX4_skipBytes_11 rfl ?_
  refine r_get 12 C dX4_skipBytes_12 (k := 8) 0 rfl rfl hiX0 (by decide) rfl (mg 2 rfl) (Or.inl rfl) rfl ?_
  refine r_iload_n 15 2 C dX4_skipBytes_15 rfl ?_
  refine r_iload_n 16 0 C dX4_skipBytes_16 rfl ?_
  obtain ⟨z2, ez2⟩ : ∃ z_9, (if z1 < x0 then z1 else x0) = z_9 := ⟨_, rfl⟩
  have tz2 : ((Int32.toInt z1) < (Int32.toInt x0) ∧ (Int32.toInt z2) = (Int32.toInt z1)) ∨ (¬ ((Int32.toInt z1) < (Int32.toInt x0)) ∧ (Int32.toInt z2) = (Int32.toInt x0)) := by rw [← ez2]; exact mx_or z1 x0 z1 x0
  refine r_mmin 17 z2 C dX4_skipBytes_17 (mg 3 rfl) (mg 4 rfl) (mg 5 rfl) (mg 6 rfl) (Nat.le_of_ble_eq_true rfl) (Nat.le_of_ble_eq_true rfl) (Nat.le_of_ble_eq_true rfl) (Nat.le_of_ble_eq_true rfl) ez2 ?_
  obtain ⟨z3, ez3⟩ : ∃ z_9, x5 + z2 = z_9 := ⟨_, rfl⟩
  have tz3 : (Int32.toInt z3) = (Int32.toInt x5) + (Int32.toInt z2) := by rw [← ez3]; exact fb_addI (by show -2147483648 ≤ (Int32.toInt x5) + (Int32.toInt z2); omega) (by show (Int32.toInt x5) + (Int32.toInt z2) < 2147483648; omega)
  refine r_iadd 20 z3 C dX4_skipBytes_20 ez3 ?_
  refine r_put 21 C dX4_skipBytes_21 (k := 8) 0 rfl rfl hiX0 tyX0 tyX0_ok nmX0 (by decide) rfl (mg 2 rfl) (Or.inl rfl) rfl rfl rfl rfl (Nat.le_of_ble_eq_true rfl) [(h0, .inr (0, [.ref h1, .ref h2, .ref h3, .int x1, .int x2, .long y0, .int x3, .int x4, .int z3, .int x6, .ref h4, .ref h5, .ref h6, .int x7, .int x8]))] rfl ?_
  refine r_iload_n 24 2 C dX4_skipBytes_24 rfl ?_
  refine r_iload_n 25 0 C dX4_skipBytes_25 rfl ?_
  refine r_icmp_gt 26 33 C dX4_skipBytes_26 (by decide) (fun c4 => ?_) (fun c4 => ?_)
  · skip
    have k5 : (Int32.toInt z1) < (Int32.toInt x0) := (fa_lt z1 x0).mp c4
    refine r_iconst 33 0 C dX4_skipBytes_33 (by decide) ?_
    exact r_zret 34 Rt dX4_skipBytes_34 (by decide) z3 (show 0 ≤ (Int32.toInt 0) ∧ (Int32.toInt 0) ≤ 1 ∧ 0 ≤ (Int32.toInt z3) ∧ (Int32.toInt z3) ≤ 1500 ∧ ((Int32.toInt x4) < (Int32.toInt x5) ∨ ((Int32.toInt x0) ≤ (Int32.toInt x4) - (Int32.toInt x5) ∧ (Int32.toInt z3) = (Int32.toInt x5) + (Int32.toInt x0) ∧ 0 = 1) ∨ ((Int32.toInt x4) - (Int32.toInt x5) < (Int32.toInt x0) ∧ (Int32.toInt z3) = (Int32.toInt x4) ∧ 0 = 0)) from ⟨(by ((repeat' apply And.intro) <;> first | trivial | rfl | assumption | omega | decide | exact Or.inl rfl | exact Or.inr (Or.inl rfl) | exact Or.inr (Or.inr rfl))), (by ((repeat' apply And.intro) <;> first | trivial | rfl | assumption | omega | decide | exact Or.inl rfl | exact Or.inr (Or.inl rfl) | exact Or.inr (Or.inr rfl))), (by ((repeat' apply And.intro) <;> first | trivial | rfl | assumption | omega | decide | exact Or.inl rfl | exact Or.inr (Or.inl rfl) | exact Or.inr (Or.inr rfl))), (by ((repeat' apply And.intro) <;> first | trivial | rfl | assumption | omega | decide | exact Or.inl rfl | exact Or.inr (Or.inl rfl) | exact Or.inr (Or.inr rfl))), (by ((repeat' apply And.intro) <;> first | trivial | rfl | assumption | omega | decide | exact Or.inl rfl | exact Or.inr (Or.inl rfl) | exact Or.inr (Or.inr rfl)))⟩) [0] (by decide) rfl (Nat.le_of_ble_eq_true rfl) (Nat.le_of_ble_eq_true rfl)
  · skip
    have k6 : ¬ ((Int32.toInt z1) < (Int32.toInt x0)) := fun h_9 => c4 ((fa_lt z1 x0).mpr h_9)
    refine r_iconst 29 1 C dX4_skipBytes_29 (by decide) ?_
    refine r_goto 30 34 C dX4_skipBytes_30 (by decide) ?_
    exact r_zret 34 Rt dX4_skipBytes_34 (by decide) z3 (show 0 ≤ (Int32.toInt 1) ∧ (Int32.toInt 1) ≤ 1 ∧ 0 ≤ (Int32.toInt z3) ∧ (Int32.toInt z3) ≤ 1500 ∧ ((Int32.toInt x4) < (Int32.toInt x5) ∨ ((Int32.toInt x0) ≤ (Int32.toInt x4) - (Int32.toInt x5) ∧ (Int32.toInt z3) = (Int32.toInt x5) + (Int32.toInt x0) ∧ 1 = 1) ∨ ((Int32.toInt x4) - (Int32.toInt x5) < (Int32.toInt x0) ∧ (Int32.toInt z3) = (Int32.toInt x4) ∧ 1 = 0)) from ⟨(by ((repeat' apply And.intro) <;> first | trivial | rfl | assumption | omega | decide | exact Or.inl rfl | exact Or.inr (Or.inl rfl) | exact Or.inr (Or.inr rfl))), (by ((repeat' apply And.intro) <;> first | trivial | rfl | assumption | omega | decide | exact Or.inl rfl | exact Or.inr (Or.inl rfl) | exact Or.inr (Or.inr rfl))), (by ((repeat' apply And.intro) <;> first | trivial | rfl | assumption | omega | decide | exact Or.inl rfl | exact Or.inr (Or.inl rfl) | exact Or.inr (Or.inr rfl))), (by ((repeat' apply And.intro) <;> first | trivial | rfl | assumption | omega | decide | exact Or.inl rfl | exact Or.inr (Or.inl rfl) | exact Or.inr (Or.inr rfl))), (by ((repeat' apply And.intro) <;> first | trivial | rfl | assumption | omega | decide | exact Or.inl rfl | exact Or.inr (Or.inl rfl) | exact Or.inr (Or.inr rfl)))⟩) [0] (by decide) rfl (Nat.le_of_ble_eq_true rfl) (Nat.le_of_ble_eq_true rfl)
set_option maxHeartbeats 4000000 in
set_option maxRecDepth 100000 in
theorem c296_X0_mask (l : Launch) (g : GD) (h0 : Nat) (h1 : Nat) (h2 : Nat) (h3 : Nat) (h4 : Nat) (x0 : Int32) (x1 : Int32) (y0 : Int64) (x2 : Int32) (x3 : Int32) (x4 : Int32) (x5 : Int32) (h5 : Nat) (h6 : Nat) (h7 : Nat) (x6 : Int32) (x7 : Int32) (h8 : Nat) (x8 : Int32) (x9 : Int32) (h9 : Nat) (h10 : Nat) (h11 : Nat) (h12 : Nat) (x10 : Int32) (x11 : Int32) (x12 : Int32) (fm0 : Nat → Int64) (i_x1 : (0 ≤ (Int32.toInt x1) ∧ (Int32.toInt x1) ≤ 100000)) (i_x2 : (0 ≤ (Int32.toInt x2) ∧ (Int32.toInt x2) ≤ 1500)) (i_x3 : (0 ≤ (Int32.toInt x3) ∧ (Int32.toInt x3) ≤ 1500)) (i_x4 : (0 ≤ (Int32.toInt x4) ∧ (Int32.toInt x4) ≤ 1500)) (i_x5 : (0 ≤ (Int32.toInt x5) ∧ (Int32.toInt x5) ≤ 1)) (i_x6 : (0 ≤ (Int32.toInt x6) ∧ (Int32.toInt x6) ≤ 10)) (i_x7 : (0 ≤ (Int32.toInt x7) ∧ (Int32.toInt x7) ≤ 1)) (i_x8 : (0 ≤ (Int32.toInt x8) ∧ (Int32.toInt x8) ≤ 48)) (i_x9 : (0 ≤ (Int32.toInt x9) ∧ (Int32.toInt x9) ≤ 48)) (pre0 : ((Int32.toInt x2) ≤ (Int32.toInt x4) ∧ (Int32.toInt x4) ≤ (Int32.toInt x3))) (sz : Nat) : Met l yX0_mask wsX0_mask ({ frames := 2, cells := 0, slots := 0, locals := 42 }) (va_Pc [.ref h0] (PW g [(h0, .inr (0, [.ref h1, .ref h4, .ref h2, .int x0, .int x1, .long y0, .int x2, .int x3, .int x4, .int x5, .ref h5, .ref h6, .ref h7, .int x6, .int x7])), (h1, .inr (6, [.ref h3, .ref h8, .int x8, .int x9])), (h2, .inr (3, [.ref h9, .ref h10, .ref h11, .ref h12, .int x10, .int x11, .int x12])), (h3, .inl (gJ g, 48, .inr (.inl fm0)))] sz)) (va_Qi (fun (r : Int32) (u : (Int32) × (Int64) × (Int32) × (Int32)) => 0 ≤ (Int32.toInt r) ∧ (Int32.toInt r) ≤ 7 ∧ 0 ≤ (Int32.toInt (u.2.2.1)) ∧ (Int32.toInt (u.2.2.1)) ≤ 1500 ∧ 0 ≤ (Int32.toInt (u.2.2.2)) ∧ (Int32.toInt (u.2.2.2)) ≤ 1 ∧ ((((((Int32.toInt (u.2.2.2)), (u.2.1)), (Int32.toInt (u.1))), ((Int32.toInt (u.2.2.1)) - (Int32.toInt x2))), (Int32.toInt r)) : (WH × Int) × Int) = MSK (NMF x12) (NMF x11) (PA fm0 (Int32.toInt x8)) (((Int32.toInt x7), y0), (Int32.toInt x1)) ((Int32.toInt x4) - (Int32.toInt x2)) ((Int32.toInt x3) - (Int32.toInt x2)) ∧ ((Int32.toInt x1) ≤ (Int32.toInt (u.1)) ∧ (Int32.toInt (u.1)) ≤ (Int32.toInt x1) + 24) ∧ (Int32.toInt x4) ≤ (Int32.toInt (u.2.2.1)) ∧ (Int32.toInt (u.2.2.1)) ≤ (Int32.toInt x3)) (BW g (va_A [(h0, .inr (0, [.ref h1, .ref h4, .ref h2, .int x0, .int x1, .long y0, .int x2, .int x3, .int x4, .int x5, .ref h5, .ref h6, .ref h7, .int x6, .int x7])), (h1, .inr (6, [.ref h3, .ref h8, .int x8, .int x9])), (h2, .inr (3, [.ref h9, .ref h10, .ref h11, .ref h12, .int x10, .int x11, .int x12])), (h3, .inl (gJ g, 48, .inr (.inl fm0)))] sz) (fun u : (Int32) × (Int64) × (Int32) × (Int32) => [(h0, .inr (0, [.ref h1, .ref h4, .ref h2, .int x0, .int u.1, .long u.2.1, .int x2, .int x3, .int u.2.2.1, .int x5, .ref h5, .ref h6, .ref h7, .int x6, .int u.2.2.2])), (h1, .inr (6, [.ref h3, .ref h8, .int x8, .int x9])), (h2, .inr (3, [.ref h9, .ref h10, .ref h11, .ref h12, .int x10, .int x11, .int x12])), (h3, .inl (gJ g, 48, .inr (.inl fm0)))])) (va_A [(h0, .inr (0, [.ref h1, .ref h4, .ref h2, .int x0, .int x1, .long y0, .int x2, .int x3, .int x4, .int x5, .ref h5, .ref h6, .ref h7, .int x6, .int x7])), (h1, .inr (6, [.ref h3, .ref h8, .int x8, .int x9])), (h2, .inr (3, [.ref h9, .ref h10, .ref h11, .ref h12, .int x10, .int x11, .int x12])), (h3, .inl (gJ g, 48, .inr (.inl fm0)))] sz)) 0 0 (va_A [(h0, .inr (0, [.ref h1, .ref h4, .ref h2, .int x0, .int x1, .long y0, .int x2, .int x3, .int x4, .int x5, .ref h5, .ref h6, .ref h7, .int x6, .int x7])), (h1, .inr (6, [.ref h3, .ref h8, .int x8, .int x9])), (h2, .inr (3, [.ref h9, .ref h10, .ref h11, .ref h12, .int x10, .int x11, .int x12])), (h3, .inl (gJ g, 48, .inr (.inl fm0)))] sz) := by
  refine met_i RX0 (by decide) rfl rfl (Nat.le_of_ble_eq_true rfl) [(0, .ref h0)] rfl ?_
  intro p e s m args below meth c A Q C hnm Rt
  have hiX0 : ∀ w ∈ wsX00, w ∈ wsX0_mask := fun w h => List.mem_cons_of_mem _ (List.mem_append_left _ (List.mem_append_left _ (List.mem_append_left _ (List.mem_append_right _ (h)))))
  refine r_aload_n 0 0 C dX0_mask_0 rfl ?_
  refine r_get 1 C dX0_mask_1 (k := 0) 0 rfl rfl hiX0 (by decide) rfl (mg 1 rfl) (Or.inr (mg 2 rfl)) rfl ?_
  refine r_callVi 4 C dX0_mask_4 [] [(h1, .inr (6, [.ref h3, .ref h8, .int x8, .int x9]))] [(h0, .inr (0, [.ref h1, .ref h4, .ref h2, .int x0, .int x1, .long y0, .int x2, .int x3, .int x4, .int x5, .ref h5, .ref h6, .ref h7, .int x6, .int x7])), (h2, .inr (3, [.ref h9, .ref h10, .ref h11, .ref h12, .int x10, .int x11, .int x12])), (h3, .inl (gJ g, 48, .inr (.inl fm0)))] (fun sz => c231_X7_size l g h1 h3 h8 x8 x9 i_x8 i_x9 sz) gX0_mask_X7_size rfl ⟨rfl, rfl⟩ 0 (by decide) ⟨Nat.le_of_ble_eq_true rfl, Nat.le_of_ble_eq_true rfl⟩ 1 rfl rfl [1] [0, 2, 3] rfl rfl (by decide) (by decide) (by decide) rfl rfl (Nat.le_of_ble_eq_true rfl) ⟨Nat.le_of_ble_eq_true rfl, Nat.le_of_ble_eq_true rfl⟩ (fun r1 _ w2 => ?_)
  refine r_ws [(h0, .inr (0, [.ref h1, .ref h4, .ref h2, .int x0, .int x1, .long y0, .int x2, .int x3, .int x4, .int x5, .ref h5, .ref h6, .ref h7, .int x6, .int x7])), (h2, .inr (3, [.ref h9, .ref h10, .ref h11, .ref h12, .int x10, .int x11, .int x12])), (h3, .inl (gJ g, 48, .inr (.inl fm0))), (h1, .inr (6, [.ref h3, .ref h8, .int x8, .int x9]))] rfl ?_
  have p3 : x8 = r1 := (w2).symm
  subst p3
  refine r_istore_n 7 C dX0_mask_7 [(1, .int x8), (0, .ref h0)] (by decide) rfl ?_
  refine r_aload_n 8 1 C dX0_mask_8 rfl ?_
  refine r_iload_n 9 0 C dX0_mask_9 rfl ?_
  refine r_iconst 10 2 C dX0_mask_10 (by decide) ?_
  obtain ⟨z4, ez4⟩ : ∃ z_9, x8 - x8 / 2 * 2 = z_9 := ⟨_, rfl⟩
  have tz4 : (Int32.toInt z4) = (Int32.toInt x8) % 2 := by rw [← ez4]; exact rem_nn (by omega) (n := 2) (by decide) (by decide)
  refine r_irem 11 z4 C dX0_mask_11 (by decide) ez4 ?_
  refine r_iconst 12 1 C dX0_mask_12 (by decide) ?_
  refine r_icmp_ne 13 20 C dX0_mask_13 (by decide) (fun c5 => ?_) (fun c5 => ?_)
  · skip
    have k6 : ¬ ((Int32.toInt z4) = 1) := fun h_9 => c5 ((fa_eq z4 1).mpr h_9)
    refine r_iconst 20 0 C dX0_mask_20 (by decide) ?_
    refine r_callVi 21 C dX0_mask_21 [] [(h0, .inr (0, [.ref h1, .ref h4, .ref h2, .int x0, .int x1, .long y0, .int x2, .int x3, .int x4, .int x5, .ref h5, .ref h6, .ref h7, .int x6, .int x7]))] [(h2, .inr (3, [.ref h9, .ref h10, .ref h11, .ref h12, .int x10, .int x11, .int x12])), (h3, .inl (gJ g, 48, .inr (.inl fm0))), (h1, .inr (6, [.ref h3, .ref h8, .int x8, .int x9]))] (fun sz => c288_X0_widthsShare l g h0 0 h1 h4 h2 x0 x1 y0 x2 x3 x4 x5 h5 h6 h7 x6 x7 (by decide) i_x2 i_x3 i_x4 i_x5 i_x6 i_x7 sz) gX0_mask_X0_widthsShare rfl ⟨rfl, rfl⟩ 1 (by decide) ⟨Nat.le_of_ble_eq_true rfl, Nat.le_of_ble_eq_true rfl⟩ 0 rfl rfl [0] [1, 2, 3] rfl rfl (by decide) (by decide) (by decide) rfl rfl (Nat.le_of_ble_eq_true rfl) ⟨Nat.le_of_ble_eq_true rfl, Nat.le_of_ble_eq_true rfl⟩ (fun r7 _ w8 => ?_)
    refine r_ws [(h2, .inr (3, [.ref h9, .ref h10, .ref h11, .ref h12, .int x10, .int x11, .int x12])), (h3, .inl (gJ g, 48, .inr (.inl fm0))), (h1, .inr (6, [.ref h3, .ref h8, .int x8, .int x9])), (h0, .inr (0, [.ref h1, .ref h4, .ref h2, .int x0, .int x1, .long y0, .int x2, .int x3, .int x4, .int x5, .ref h5, .ref h6, .ref h7, .int x6, .int x7]))] rfl ?_
    have p9 : 0 ≤ (Int32.toInt r7) := w8.1
    have p10 : (Int32.toInt r7) ≤ 1 := w8.2.1
    have p11 : (((0 : Int) = 1 ∧ (Int32.toInt x7) = 0 ∧ (Int32.toInt r7) = 1) ∨ (¬ ((0 : Int) = 1 ∧ (Int32.toInt x7) = 0) ∧ (Int32.toInt r7) = 0)) := w8.2.2
    refine r_istore_n 24 C dX0_mask_24 [(2, .int r7), (1, .int x8), (0, .ref h0)] (by decide) rfl ?_
    refine r_iload_n 25 1 C dX0_mask_25 rfl ?_
    refine r_iload_n 26 0 C dX0_mask_26 rfl ?_
    obtain ⟨z12, ez12⟩ : ∃ z_9, x8 - r7 = z_9 := ⟨_, rfl⟩
    have tz12 : (Int32.toInt z12) = (Int32.toInt x8) - (Int32.toInt r7) := by rw [← ez12]; exact fb_subIv (a := 0) (b := 48) (c := 0) (d := 1) i_x8 ⟨p9, p10⟩ (by decide) (by decide)
    refine r_isub 27 z12 C dX0_mask_27 ez12 ?_
    refine r_istore_n 28 C dX0_mask_28 [(3, .int z12), (2, .int r7), (1, .int x8), (0, .ref h0)] (by decide) rfl ?_
    refine r_iload_n 29 0 C dX0_mask_29 rfl ?_
    refine r_iconst 30 2 C dX0_mask_30 (by decide) ?_
    obtain ⟨z13, ez13⟩ : ∃ z_9, z12 - z12 / 2 * 2 = z_9 := ⟨_, rfl⟩
    have tz13 : (Int32.toInt z13) = (Int32.toInt z12) % 2 := by rw [← ez13]; exact rem_nn (by omega) (n := 2) (by decide) (by decide)
    refine r_irem 31 z13 C dX0_mask_31 (by decide) ez13 ?_
    refine r_iconst 32 1 C dX0_mask_32 (by decide) ?_
    refine r_icmp_ne 33 38 C dX0_mask_33 (by decide) (fun c14 => ?_) (fun c14 => ?_)
    · skip
      have k15 : ¬ ((Int32.toInt z13) = 1) := fun h_9 => c14 ((fa_eq z13 1).mpr h_9)
      refine r_aload_n 38 3 C dX0_mask_38 rfl ?_
      refine r_iload_n 39 1 C dX0_mask_39 rfl ?_
      refine r_callVv 40 C dX0_mask_40 [] [(h0, .inr (0, [.ref h1, .ref h4, .ref h2, .int x0, .int x1, .long y0, .int x2, .int x3, .int x4, .int x5, .ref h5, .ref h6, .ref h7, .int x6, .int x7])), (h1, .inr (6, [.ref h3, .ref h8, .int x8, .int x9])), (h2, .inr (3, [.ref h9, .ref h10, .ref h11, .ref h12, .int x10, .int x11, .int x12])), (h3, .inl (gJ g, 48, .inr (.inl fm0)))] [] (fun sz => c289_X0_tellWidth l g h0 h1 h2 h3 r7 h4 x0 x1 y0 x2 x3 x4 x5 h5 h6 h7 x6 x7 h8 x8 x9 h9 h10 h11 h12 x10 x11 x12 fm0 ⟨p9, p10⟩ i_x2 i_x3 i_x4 i_x5 i_x6 i_x7 i_x8 i_x9 sz) gX0_mask_X0_tellWidth rfl ⟨rfl, rfl⟩ 1 (by decide) ⟨Nat.le_of_ble_eq_true rfl, Nat.le_of_ble_eq_true rfl⟩ 3 rfl rfl [3, 2, 0, 1] [] rfl rfl (by decide) (by decide) (by decide) rfl rfl (Nat.le_of_ble_eq_true rfl) ⟨Nat.le_of_ble_eq_true rfl, Nat.le_of_ble_eq_true rfl⟩ (fun  u19 w18 => ?_)
      obtain ⟨z16, z17⟩ := u19
      refine r_ws [(h0, .inr (0, [.ref h1, .ref h4, .ref h2, .int x0, .int x1, .long z16, .int x2, .int x3, .int x4, .int x5, .ref h5, .ref h6, .ref h7, .int x6, .int z17])), (h1, .inr (6, [.ref h3, .ref h8, .int x8, .int x9])), (h2, .inr (3, [.ref h9, .ref h10, .ref h11, .ref h12, .int x10, .int x11, .int x12])), (h3, .inl (gJ g, 48, .inr (.inl fm0)))] rfl ?_
      have gz16 := fb_rngL z16
      have p20 : 0 ≤ (Int32.toInt z17) := w18.1
      have p21 : (Int32.toInt z17) ≤ 1 := w18.2.1
      have p22 : (((Int32.toInt z17), z16) : Int × Int64) = TWD (NMF x12) (NMF x11) (PA fm0 (Int32.toInt x8)) (Int32.toInt r7) ((Int32.toInt x7), y0) := w18.2.2
      refine r_aload_n 43 3 C dX0_mask_43 rfl ?_
      refine r_dup 44 C dX0_mask_44 rfl ?_
      refine r_get 45 C dX0_mask_45 (k := 4) 0 rfl rfl hiX0 (by decide) rfl (mg 3 rfl) (Or.inr (mg 4 rfl)) rfl ?_
      refine r_iload_n 48 0 C dX0_mask_48 rfl ?_
      refine r_iconst 49 2 C dX0_mask_49 (by decide) ?_
      obtain ⟨z23, ez23⟩ : ∃ z_9, z12 / 2 = z_9 := ⟨_, rfl⟩
      have tz23 : (Int32.toInt z23) = (Int32.toInt z12) / 2 := by rw [← ez23]; exact div_nn (by omega) (n := 2) (by decide) (by decide)
      refine r_idiv 50 z23 C dX0_mask_50 (by decide) ez23 ?_
      obtain ⟨z24, ez24⟩ : ∃ z_9, x1 + z23 = z_9 := ⟨_, rfl⟩
      have tz24 : (Int32.toInt z24) = (Int32.toInt x1) + (Int32.toInt z23) := by rw [← ez24]; exact fb_addI (by show -2147483648 ≤ (Int32.toInt x1) + (Int32.toInt z23); omega) (by show (Int32.toInt x1) + (Int32.toInt z23) < 2147483648; omega)
      refine r_iadd 51 z24 C dX0_mask_51 ez24 ?_
      refine r_put 52 C dX0_mask_52 (k := 4) 0 rfl rfl hiX0 tyX0 tyX0_ok nmX0 (by decide) rfl (mg 3 rfl) (Or.inr (mg 4 rfl)) rfl rfl rfl rfl (Nat.le_of_ble_eq_true rfl) [(h0, .inr (0, [.ref h1, .ref h4, .ref h2, .int x0, .int z24, .long z16, .int x2, .int x3, .int x4, .int x5, .ref h5, .ref h6, .ref h7, .int x6, .int z17])), (h1, .inr (6, [.ref h3, .ref h8, .int x8, .int x9])), (h2, .inr (3, [.ref h9, .ref h10, .ref h11, .ref h12, .int x10, .int x11, .int x12])), (h3, .inl (gJ g, 48, .inr (.inl fm0)))] rfl ?_
      refine r_aload_n 55 3 C dX0_mask_55 rfl ?_
      refine r_aload_n 56 3 C dX0_mask_56 rfl ?_
      refine r_get 57 C dX0_mask_57 (k := 4) 0 rfl rfl hiX0 (by decide) rfl (mg 3 rfl) (Or.inr (mg 4 rfl)) rfl ?_
      refine r_bipush 60 7 C dX0_mask_60 (by decide) ?_
      obtain ⟨z25, ez25⟩ : ∃ z_9, z24 + 7 = z_9 := ⟨_, rfl⟩
      have tz25 : (Int32.toInt z25) = (Int32.toInt z24) + 7 := by rw [← ez25]; exact fb_addI (by show -2147483648 ≤ (Int32.toInt z24) + 7; omega) (by show (Int32.toInt z24) + 7 < 2147483648; omega)
      refine r_iadd 62 z25 C dX0_mask_62 ez25 ?_
      refine r_bipush 63 8 C dX0_mask_63 (by decide) ?_
      obtain ⟨z26, ez26⟩ : ∃ z_9, z25 / 8 = z_9 := ⟨_, rfl⟩
      have tz26 : (Int32.toInt z26) = (Int32.toInt z25) / 8 := by rw [← ez26]; exact div_nn (by omega) (n := 8) (by decide) (by decide)
      refine r_idiv 65 z26 C dX0_mask_65 (by decide) ez26 ?_
      refine r_callUi 66 C dX0_mask_66 [] [(h0, .inr (0, [.ref h1, .ref h4, .ref h2, .int x0, .int z24, .long z16, .int x2, .int x3, .int x4, .int x5, .ref h5, .ref h6, .ref h7, .int x6, .int z17]))] [(h1, .inr (6, [.ref h3, .ref h8, .int x8, .int x9])), (h2, .inr (3, [.ref h9, .ref h10, .ref h11, .ref h12, .int x10, .int x11, .int x12])), (h3, .inl (gJ g, 48, .inr (.inl fm0)))] (fun sz => c295_X4_skipBytes l g h0 z26 h1 h4 h2 x0 z24 z16 x2 x3 x4 x5 h5 h6 h7 x6 z17 ⟨by omega, by omega⟩ i_x2 i_x3 i_x4 i_x5 i_x6 ⟨p20, p21⟩ (by show (Int32.toInt x4) ≤ (Int32.toInt x3); first | assumption | omega) sz) gX0_mask_X4_skipBytes_u146X0 rfl ⟨rfl, rfl⟩ 1 rfl (by decide) ⟨Nat.le_of_ble_eq_true rfl, Nat.le_of_ble_eq_true rfl⟩ 0 rfl rfl [0] [1, 2, 3] rfl rfl (by decide) (by decide) (by decide) rfl rfl (Nat.le_of_ble_eq_true rfl) ⟨Nat.le_of_ble_eq_true rfl, Nat.le_of_ble_eq_true rfl⟩ (fun r28 z27 w29 => ?_)
      refine r_ws [(h1, .inr (6, [.ref h3, .ref h8, .int x8, .int x9])), (h2, .inr (3, [.ref h9, .ref h10, .ref h11, .ref h12, .int x10, .int x11, .int x12])), (h3, .inl (gJ g, 48, .inr (.inl fm0))), (h0, .inr (0, [.ref h1, .ref h4, .ref h2, .int x0, .int z24, .long z16, .int x2, .int x3, .int z27, .int x5, .ref h5, .ref h6, .ref h7, .int x6, .int z17]))] rfl ?_
      have p30 : 0 ≤ (Int32.toInt r28) := w29.1
      have p31 : (Int32.toInt r28) ≤ 1 := w29.2.1
      have p32 : 0 ≤ (Int32.toInt z27) := w29.2.2.1
      have p33 : (Int32.toInt z27) ≤ 1500 := w29.2.2.2.1
      have p34 : ((Int32.toInt x3) < (Int32.toInt x4) ∨ ((Int32.toInt z26) ≤ (Int32.toInt x3) - (Int32.toInt x4) ∧ (Int32.toInt z27) = (Int32.toInt x4) + (Int32.toInt z26) ∧ (Int32.toInt r28) = 1) ∨ ((Int32.toInt x3) - (Int32.toInt x4) < (Int32.toInt z26) ∧ (Int32.toInt z27) = (Int32.toInt x3) ∧ (Int32.toInt r28) = 0)) := w29.2.2.2.2
      refine r_if_eq 69 76 C dX0_mask_69 (by decide) (fun c35 => ?_) (fun c35 => ?_)
      · skip
        have k36 : (Int32.toInt r28) = 0 := (fa_eq r28 0).mp c35
        refine r_bipush 76 7 C dX0_mask_76 (by decide) ?_
        exact r_iret 78 Rt dX0_mask_78 (z24, z16, z27, z17) (show 0 ≤ (Int32.toInt 7) ∧ (Int32.toInt 7) ≤ 7 ∧ 0 ≤ (Int32.toInt z27) ∧ (Int32.toInt z27) ≤ 1500 ∧ 0 ≤ (Int32.toInt z17) ∧ (Int32.toInt z17) ≤ 1 ∧ ((((((Int32.toInt z17), z16), (Int32.toInt z24)), ((Int32.toInt z27) - (Int32.toInt x2))), 7) : (WH × Int) × Int) = MSK (NMF x12) (NMF x11) (PA fm0 (Int32.toInt x8)) (((Int32.toInt x7), y0), (Int32.toInt x1)) ((Int32.toInt x4) - (Int32.toInt x2)) ((Int32.toInt x3) - (Int32.toInt x2)) ∧ ((Int32.toInt x1) ≤ (Int32.toInt z24) ∧ (Int32.toInt z24) ≤ (Int32.toInt x1) + 24) ∧ (Int32.toInt x4) ≤ (Int32.toInt z27) ∧ (Int32.toInt z27) ≤ (Int32.toInt x3) from ⟨(by ((repeat' apply And.intro) <;> first | trivial | rfl | assumption | omega | decide | exact Or.inl rfl | exact Or.inr (Or.inl rfl) | exact Or.inr (Or.inr rfl))), (by ((repeat' apply And.intro) <;> first | trivial | rfl | assumption | omega | decide | exact Or.inl rfl | exact Or.inr (Or.inl rfl) | exact Or.inr (Or.inr rfl))), (show _ ∧ _ from ⟨p32, p33⟩).1, (show _ ∧ _ from ⟨p32, p33⟩).2, (show _ ∧ _ from ⟨p20, p21⟩).1, (show _ ∧ _ from ⟨p20, p21⟩).2, (by first | exact msk_y (by omega) (sha_1 (a := 1) (odd_pa (by omega) (by omega)) (by have h_0 : Int32.toInt 0 = 0 := rfl; have h_1 : Int32.toInt 1 = 1 := rfl; omega)) (by omega) p22 (by omega) (by omega) | exact msk_y (by omega) (sha_1 (a := 0) (odd_pa (by omega) (by omega)) (by have h_0 : Int32.toInt 0 = 0 := rfl; have h_1 : Int32.toInt 1 = 1 := rfl; omega)) (by omega) p22 (by omega) (by omega)), (by ((repeat' apply And.intro) <;> first | trivial | rfl | assumption | omega | decide | exact Or.inl rfl | exact Or.inr (Or.inl rfl) | exact Or.inr (Or.inr rfl))), (by ((repeat' apply And.intro) <;> first | trivial | rfl | assumption | omega | decide | exact Or.inl rfl | exact Or.inr (Or.inl rfl) | exact Or.inr (Or.inr rfl))), (by ((repeat' apply And.intro) <;> first | trivial | rfl | assumption | omega | decide | exact Or.inl rfl | exact Or.inr (Or.inl rfl) | exact Or.inr (Or.inr rfl)))⟩) [3, 0, 1, 2] (by decide) rfl (Nat.le_of_ble_eq_true rfl) (Nat.le_of_ble_eq_true rfl)
      · skip
        have k37 : ¬ ((Int32.toInt r28) = 0) := fun h_9 => c35 ((fa_eq r28 0).mpr h_9)
        refine r_iconst 72 0 C dX0_mask_72 (by decide) ?_
        refine r_goto 73 78 C dX0_mask_73 (by decide) ?_
        exact r_iret 78 Rt dX0_mask_78 (z24, z16, z27, z17) (show 0 ≤ (Int32.toInt 0) ∧ (Int32.toInt 0) ≤ 7 ∧ 0 ≤ (Int32.toInt z27) ∧ (Int32.toInt z27) ≤ 1500 ∧ 0 ≤ (Int32.toInt z17) ∧ (Int32.toInt z17) ≤ 1 ∧ ((((((Int32.toInt z17), z16), (Int32.toInt z24)), ((Int32.toInt z27) - (Int32.toInt x2))), 0) : (WH × Int) × Int) = MSK (NMF x12) (NMF x11) (PA fm0 (Int32.toInt x8)) (((Int32.toInt x7), y0), (Int32.toInt x1)) ((Int32.toInt x4) - (Int32.toInt x2)) ((Int32.toInt x3) - (Int32.toInt x2)) ∧ ((Int32.toInt x1) ≤ (Int32.toInt z24) ∧ (Int32.toInt z24) ≤ (Int32.toInt x1) + 24) ∧ (Int32.toInt x4) ≤ (Int32.toInt z27) ∧ (Int32.toInt z27) ≤ (Int32.toInt x3) from ⟨(by ((repeat' apply And.intro) <;> first | trivial | rfl | assumption | omega | decide | exact Or.inl rfl | exact Or.inr (Or.inl rfl) | exact Or.inr (Or.inr rfl))), (by ((repeat' apply And.intro) <;> first | trivial | rfl | assumption | omega | decide | exact Or.inl rfl | exact Or.inr (Or.inl rfl) | exact Or.inr (Or.inr rfl))), (show _ ∧ _ from ⟨p32, p33⟩).1, (show _ ∧ _ from ⟨p32, p33⟩).2, (show _ ∧ _ from ⟨p20, p21⟩).1, (show _ ∧ _ from ⟨p20, p21⟩).2, (by first | exact msk_y (by omega) (sha_1 (a := 1) (odd_pa (by omega) (by omega)) (by have h_0 : Int32.toInt 0 = 0 := rfl; have h_1 : Int32.toInt 1 = 1 := rfl; omega)) (by omega) p22 (by omega) (by omega) | exact msk_y (by omega) (sha_1 (a := 0) (odd_pa (by omega) (by omega)) (by have h_0 : Int32.toInt 0 = 0 := rfl; have h_1 : Int32.toInt 1 = 1 := rfl; omega)) (by omega) p22 (by omega) (by omega)), (by ((repeat' apply And.intro) <;> first | trivial | rfl | assumption | omega | decide | exact Or.inl rfl | exact Or.inr (Or.inl rfl) | exact Or.inr (Or.inr rfl))), (by ((repeat' apply And.intro) <;> first | trivial | rfl | assumption | omega | decide | exact Or.inl rfl | exact Or.inr (Or.inl rfl) | exact Or.inr (Or.inr rfl))), (by ((repeat' apply And.intro) <;> first | trivial | rfl | assumption | omega | decide | exact Or.inl rfl | exact Or.inr (Or.inl rfl) | exact Or.inr (Or.inr rfl)))⟩) [3, 0, 1, 2] (by decide) rfl (Nat.le_of_ble_eq_true rfl) (Nat.le_of_ble_eq_true rfl)
    · skip
      have k38 : (Int32.toInt z13) = 1 := (fa_eq z13 1).mp c14
      refine r_iconst 36 2 C dX0_mask_36 (by decide) ?_
      exact r_iret 37 Rt dX0_mask_37 (x1, y0, x4, x7) (show 0 ≤ (Int32.toInt 2) ∧ (Int32.toInt 2) ≤ 7 ∧ 0 ≤ (Int32.toInt x4) ∧ (Int32.toInt x4) ≤ 1500 ∧ 0 ≤ (Int32.toInt x7) ∧ (Int32.toInt x7) ≤ 1 ∧ ((((((Int32.toInt x7), y0), (Int32.toInt x1)), ((Int32.toInt x4) - (Int32.toInt x2))), 2) : (WH × Int) × Int) = MSK (NMF x12) (NMF x11) (PA fm0 (Int32.toInt x8)) (((Int32.toInt x7), y0), (Int32.toInt x1)) ((Int32.toInt x4) - (Int32.toInt x2)) ((Int32.toInt x3) - (Int32.toInt x2)) ∧ ((Int32.toInt x1) ≤ (Int32.toInt x1) ∧ (Int32.toInt x1) ≤ (Int32.toInt x1) + 24) ∧ (Int32.toInt x4) ≤ (Int32.toInt x4) ∧ (Int32.toInt x4) ≤ (Int32.toInt x3) from ⟨(by ((repeat' apply And.intro) <;> first | trivial | rfl | assumption | omega | decide | exact Or.inl rfl | exact Or.inr (Or.inl rfl) | exact Or.inr (Or.inr rfl))), (by ((repeat' apply And.intro) <;> first | trivial | rfl | assumption | omega | decide | exact Or.inl rfl | exact Or.inr (Or.inl rfl) | exact Or.inr (Or.inr rfl))), i_x4.1, i_x4.2, i_x7.1, i_x7.2, (by first | exact msk_n (by omega) (sha_1 (a := 1) (odd_pa (by omega) (by omega)) (by have h_0 : Int32.toInt 0 = 0 := rfl; have h_1 : Int32.toInt 1 = 1 := rfl; omega)) (by omega) rfl | exact msk_n (by omega) (sha_1 (a := 0) (odd_pa (by omega) (by omega)) (by have h_0 : Int32.toInt 0 = 0 := rfl; have h_1 : Int32.toInt 1 = 1 := rfl; omega)) (by omega) rfl), (by ((repeat' apply And.intro) <;> first | trivial | rfl | assumption | omega | decide | exact Or.inl rfl | exact Or.inr (Or.inl rfl) | exact Or.inr (Or.inr rfl))), (by ((repeat' apply And.intro) <;> first | trivial | rfl | assumption | omega | decide | exact Or.inl rfl | exact Or.inr (Or.inl rfl) | exact Or.inr (Or.inr rfl))), (by ((repeat' apply And.intro) <;> first | trivial | rfl | assumption | omega | decide | exact Or.inl rfl | exact Or.inr (Or.inl rfl) | exact Or.inr (Or.inr rfl)))⟩) [3, 2, 0, 1] (by decide) rfl (Nat.le_of_ble_eq_true rfl) (Nat.le_of_ble_eq_true rfl)
  · skip
    have k39 : (Int32.toInt z4) = 1 := (fa_eq z4 1).mp c5
    refine r_iconst 16 1 C dX0_mask_16 (by decide) ?_
    refine r_goto 17 21 C dX0_mask_17 (by decide) ?_
    refine r_callVi 21 C dX0_mask_21 [] [(h0, .inr (0, [.ref h1, .ref h4, .ref h2, .int x0, .int x1, .long y0, .int x2, .int x3, .int x4, .int x5, .ref h5, .ref h6, .ref h7, .int x6, .int x7]))] [(h2, .inr (3, [.ref h9, .ref h10, .ref h11, .ref h12, .int x10, .int x11, .int x12])), (h3, .inl (gJ g, 48, .inr (.inl fm0))), (h1, .inr (6, [.ref h3, .ref h8, .int x8, .int x9]))] (fun sz => c288_X0_widthsShare l g h0 1 h1 h4 h2 x0 x1 y0 x2 x3 x4 x5 h5 h6 h7 x6 x7 (by decide) i_x2 i_x3 i_x4 i_x5 i_x6 i_x7 sz) gX0_mask_X0_widthsShare rfl ⟨rfl, rfl⟩ 1 (by decide) ⟨Nat.le_of_ble_eq_true rfl, Nat.le_of_ble_eq_true rfl⟩ 0 rfl rfl [0] [1, 2, 3] rfl rfl (by decide) (by decide) (by decide) rfl rfl (Nat.le_of_ble_eq_true rfl) ⟨Nat.le_of_ble_eq_true rfl, Nat.le_of_ble_eq_true rfl⟩ (fun r40 _ w41 => ?_)
    refine r_ws [(h2, .inr (3, [.ref h9, .ref h10, .ref h11, .ref h12, .int x10, .int x11, .int x12])), (h3, .inl (gJ g, 48, .inr (.inl fm0))), (h1, .inr (6, [.ref h3, .ref h8, .int x8, .int x9])), (h0, .inr (0, [.ref h1, .ref h4, .ref h2, .int x0, .int x1, .long y0, .int x2, .int x3, .int x4, .int x5, .ref h5, .ref h6, .ref h7, .int x6, .int x7]))] rfl ?_
    have p42 : 0 ≤ (Int32.toInt r40) := w41.1
    have p43 : (Int32.toInt r40) ≤ 1 := w41.2.1
    have p44 : (((1 : Int) = 1 ∧ (Int32.toInt x7) = 0 ∧ (Int32.toInt r40) = 1) ∨ (¬ ((1 : Int) = 1 ∧ (Int32.toInt x7) = 0) ∧ (Int32.toInt r40) = 0)) := w41.2.2
    refine r_istore_n 24 C dX0_mask_24 [(2, .int r40), (1, .int x8), (0, .ref h0)] (by decide) rfl ?_
    refine r_iload_n 25 1 C dX0_mask_25 rfl ?_
    refine r_iload_n 26 0 C dX0_mask_26 rfl ?_
    obtain ⟨z45, ez45⟩ : ∃ z_9, x8 - r40 = z_9 := ⟨_, rfl⟩
    have tz45 : (Int32.toInt z45) = (Int32.toInt x8) - (Int32.toInt r40) := by rw [← ez45]; exact fb_subIv (a := 0) (b := 48) (c := 0) (d := 1) i_x8 ⟨p42, p43⟩ (by decide) (by decide)
    refine r_isub 27 z45 C dX0_mask_27 ez45 ?_
    refine r_istore_n 28 C dX0_mask_28 [(3, .int z45), (2, .int r40), (1, .int x8), (0, .ref h0)] (by decide) rfl ?_
    refine r_iload_n 29 0 C dX0_mask_29 rfl ?_
    refine r_iconst 30 2 C dX0_mask_30 (by decide) ?_
    obtain ⟨z46, ez46⟩ : ∃ z_9, z45 - z45 / 2 * 2 = z_9 := ⟨_, rfl⟩
    have tz46 : (Int32.toInt z46) = (Int32.toInt z45) % 2 := by rw [← ez46]; exact rem_nn (by omega) (n := 2) (by decide) (by decide)
    refine r_irem 31 z46 C dX0_mask_31 (by decide) ez46 ?_
    refine r_iconst 32 1 C dX0_mask_32 (by decide) ?_
    refine r_icmp_ne 33 38 C dX0_mask_33 (by decide) (fun c47 => ?_) (fun c47 => ?_)
    · skip
      have k48 : ¬ ((Int32.toInt z46) = 1) := fun h_9 => c47 ((fa_eq z46 1).mpr h_9)
      refine r_aload_n 38 3 C dX0_mask_38 rfl ?_
      refine r_iload_n 39 1 C dX0_mask_39 rfl ?_
      refine r_callVv 40 C dX0_mask_40 [] [(h0, .inr (0, [.ref h1, .ref h4, .ref h2, .int x0, .int x1, .long y0, .int x2, .int x3, .int x4, .int x5, .ref h5, .ref h6, .ref h7, .int x6, .int x7])), (h1, .inr (6, [.ref h3, .ref h8, .int x8, .int x9])), (h2, .inr (3, [.ref h9, .ref h10, .ref h11, .ref h12, .int x10, .int x11, .int x12])), (h3, .inl (gJ g, 48, .inr (.inl fm0)))] [] (fun sz => c289_X0_tellWidth l g h0 h1 h2 h3 r40 h4 x0 x1 y0 x2 x3 x4 x5 h5 h6 h7 x6 x7 h8 x8 x9 h9 h10 h11 h12 x10 x11 x12 fm0 ⟨p42, p43⟩ i_x2 i_x3 i_x4 i_x5 i_x6 i_x7 i_x8 i_x9 sz) gX0_mask_X0_tellWidth rfl ⟨rfl, rfl⟩ 1 (by decide) ⟨Nat.le_of_ble_eq_true rfl, Nat.le_of_ble_eq_true rfl⟩ 3 rfl rfl [3, 2, 0, 1] [] rfl rfl (by decide) (by decide) (by decide) rfl rfl (Nat.le_of_ble_eq_true rfl) ⟨Nat.le_of_ble_eq_true rfl, Nat.le_of_ble_eq_true rfl⟩ (fun  u52 w51 => ?_)
      obtain ⟨z49, z50⟩ := u52
      refine r_ws [(h0, .inr (0, [.ref h1, .ref h4, .ref h2, .int x0, .int x1, .long z49, .int x2, .int x3, .int x4, .int x5, .ref h5, .ref h6, .ref h7, .int x6, .int z50])), (h1, .inr (6, [.ref h3, .ref h8, .int x8, .int x9])), (h2, .inr (3, [.ref h9, .ref h10, .ref h11, .ref h12, .int x10, .int x11, .int x12])), (h3, .inl (gJ g, 48, .inr (.inl fm0)))] rfl ?_
      have gz49 := fb_rngL z49
      have p53 : 0 ≤ (Int32.toInt z50) := w51.1
      have p54 : (Int32.toInt z50) ≤ 1 := w51.2.1
      have p55 : (((Int32.toInt z50), z49) : Int × Int64) = TWD (NMF x12) (NMF x11) (PA fm0 (Int32.toInt x8)) (Int32.toInt r40) ((Int32.toInt x7), y0) := w51.2.2
      refine r_aload_n 43 3 C dX0_mask_43 rfl ?_
      refine r_dup 44 C dX0_mask_44 rfl ?_
      refine r_get 45 C dX0_mask_45 (k := 4) 0 rfl rfl hiX0 (by decide) rfl (mg 3 rfl) (Or.inr (mg 4 rfl)) rfl ?_
      refine r_iload_n 48 0 C dX0_mask_48 rfl ?_
      refine r_iconst 49 2 C dX0_mask_49 (by decide) ?_
      obtain ⟨z56, ez56⟩ : ∃ z_9, z45 / 2 = z_9 := ⟨_, rfl⟩
      have tz56 : (Int32.toInt z56) = (Int32.toInt z45) / 2 := by rw [← ez56]; exact div_nn (by omega) (n := 2) (by decide) (by decide)
      refine r_idiv 50 z56 C dX0_mask_50 (by decide) ez56 ?_
      obtain ⟨z57, ez57⟩ : ∃ z_9, x1 + z56 = z_9 := ⟨_, rfl⟩
      have tz57 : (Int32.toInt z57) = (Int32.toInt x1) + (Int32.toInt z56) := by rw [← ez57]; exact fb_addI (by show -2147483648 ≤ (Int32.toInt x1) + (Int32.toInt z56); omega) (by show (Int32.toInt x1) + (Int32.toInt z56) < 2147483648; omega)
      refine r_iadd 51 z57 C dX0_mask_51 ez57 ?_
      refine r_put 52 C dX0_mask_52 (k := 4) 0 rfl rfl hiX0 tyX0 tyX0_ok nmX0 (by decide) rfl (mg 3 rfl) (Or.inr (mg 4 rfl)) rfl rfl rfl rfl (Nat.le_of_ble_eq_true rfl) [(h0, .inr (0, [.ref h1, .ref h4, .ref h2, .int x0, .int z57, .long z49, .int x2, .int x3, .int x4, .int x5, .ref h5, .ref h6, .ref h7, .int x6, .int z50])), (h1, .inr (6, [.ref h3, .ref h8, .int x8, .int x9])), (h2, .inr (3, [.ref h9, .ref h10, .ref h11, .ref h12, .int x10, .int x11, .int x12])), (h3, .inl (gJ g, 48, .inr (.inl fm0)))] rfl ?_
      refine r_aload_n 55 3 C dX0_mask_55 rfl ?_
      refine r_aload_n 56 3 C dX0_mask_56 rfl ?_
      refine r_get 57 C dX0_mask_57 (k := 4) 0 rfl rfl hiX0 (by decide) rfl (mg 3 rfl) (Or.inr (mg 4 rfl)) rfl ?_
      refine r_bipush 60 7 C dX0_mask_60 (by decide) ?_
      obtain ⟨z58, ez58⟩ : ∃ z_9, z57 + 7 = z_9 := ⟨_, rfl⟩
      have tz58 : (Int32.toInt z58) = (Int32.toInt z57) + 7 := by rw [← ez58]; exact fb_addI (by show -2147483648 ≤ (Int32.toInt z57) + 7; omega) (by show (Int32.toInt z57) + 7 < 2147483648; omega)
      refine r_iadd 62 z58 C dX0_mask_62 ez58 ?_
      refine r_bipush 63 8 C dX0_mask_63 (by decide) ?_
      obtain ⟨z59, ez59⟩ : ∃ z_9, z58 / 8 = z_9 := ⟨_, rfl⟩
      have tz59 : (Int32.toInt z59) = (Int32.toInt z58) / 8 := by rw [← ez59]; exact div_nn (by omega) (n := 8) (by decide) (by decide)
      refine r_idiv 65 z59 C dX0_mask_65 (by decide) ez59 ?_
      refine r_callUi 66 C dX0_mask_66 [] [(h0, .inr (0, [.ref h1, .ref h4, .ref h2, .int x0, .int z57, .long z49, .int x2, .int x3, .int x4, .int x5, .ref h5, .ref h6, .ref h7, .int x6, .int z50]))] [(h1, .inr (6, [.ref h3, .ref h8, .int x8, .int x9])), (h2, .inr (3, [.ref h9, .ref h10, .ref h11, .ref h12, .int x10, .int x11, .int x12])), (h3, .inl (gJ g, 48, .inr (.inl fm0)))] (fun sz => c295_X4_skipBytes l g h0 z59 h1 h4 h2 x0 z57 z49 x2 x3 x4 x5 h5 h6 h7 x6 z50 ⟨by omega, by omega⟩ i_x2 i_x3 i_x4 i_x5 i_x6 ⟨p53, p54⟩ (by show (Int32.toInt x4) ≤ (Int32.toInt x3); first | assumption | omega) sz) gX0_mask_X4_skipBytes_u146X0 rfl ⟨rfl, rfl⟩ 1 rfl (by decide) ⟨Nat.le_of_ble_eq_true rfl, Nat.le_of_ble_eq_true rfl⟩ 0 rfl rfl [0] [1, 2, 3] rfl rfl (by decide) (by decide) (by decide) rfl rfl (Nat.le_of_ble_eq_true rfl) ⟨Nat.le_of_ble_eq_true rfl, Nat.le_of_ble_eq_true rfl⟩ (fun r61 z60 w62 => ?_)
      refine r_ws [(h1, .inr (6, [.ref h3, .ref h8, .int x8, .int x9])), (h2, .inr (3, [.ref h9, .ref h10, .ref h11, .ref h12, .int x10, .int x11, .int x12])), (h3, .inl (gJ g, 48, .inr (.inl fm0))), (h0, .inr (0, [.ref h1, .ref h4, .ref h2, .int x0, .int z57, .long z49, .int x2, .int x3, .int z60, .int x5, .ref h5, .ref h6, .ref h7, .int x6, .int z50]))] rfl ?_
      have p63 : 0 ≤ (Int32.toInt r61) := w62.1
      have p64 : (Int32.toInt r61) ≤ 1 := w62.2.1
      have p65 : 0 ≤ (Int32.toInt z60) := w62.2.2.1
      have p66 : (Int32.toInt z60) ≤ 1500 := w62.2.2.2.1
      have p67 : ((Int32.toInt x3) < (Int32.toInt x4) ∨ ((Int32.toInt z59) ≤ (Int32.toInt x3) - (Int32.toInt x4) ∧ (Int32.toInt z60) = (Int32.toInt x4) + (Int32.toInt z59) ∧ (Int32.toInt r61) = 1) ∨ ((Int32.toInt x3) - (Int32.toInt x4) < (Int32.toInt z59) ∧ (Int32.toInt z60) = (Int32.toInt x3) ∧ (Int32.toInt r61) = 0)) := w62.2.2.2.2
      refine r_if_eq 69 76 C dX0_mask_69 (by decide) (fun c68 => ?_) (fun c68 => ?_)
      · skip
        have k69 : (Int32.toInt r61) = 0 := (fa_eq r61 0).mp c68
        refine r_bipush 76 7 C dX0_mask_76 (by decide) ?_
        exact r_iret 78 Rt dX0_mask_78 (z57, z49, z60, z50) (show 0 ≤ (Int32.toInt 7) ∧ (Int32.toInt 7) ≤ 7 ∧ 0 ≤ (Int32.toInt z60) ∧ (Int32.toInt z60) ≤ 1500 ∧ 0 ≤ (Int32.toInt z50) ∧ (Int32.toInt z50) ≤ 1 ∧ ((((((Int32.toInt z50), z49), (Int32.toInt z57)), ((Int32.toInt z60) - (Int32.toInt x2))), 7) : (WH × Int) × Int) = MSK (NMF x12) (NMF x11) (PA fm0 (Int32.toInt x8)) (((Int32.toInt x7), y0), (Int32.toInt x1)) ((Int32.toInt x4) - (Int32.toInt x2)) ((Int32.toInt x3) - (Int32.toInt x2)) ∧ ((Int32.toInt x1) ≤ (Int32.toInt z57) ∧ (Int32.toInt z57) ≤ (Int32.toInt x1) + 24) ∧ (Int32.toInt x4) ≤ (Int32.toInt z60) ∧ (Int32.toInt z60) ≤ (Int32.toInt x3) from ⟨(by ((repeat' apply And.intro) <;> first | trivial | rfl | assumption | omega | decide | exact Or.inl rfl | exact Or.inr (Or.inl rfl) | exact Or.inr (Or.inr rfl))), (by ((repeat' apply And.intro) <;> first | trivial | rfl | assumption | omega | decide | exact Or.inl rfl | exact Or.inr (Or.inl rfl) | exact Or.inr (Or.inr rfl))), (show _ ∧ _ from ⟨p65, p66⟩).1, (show _ ∧ _ from ⟨p65, p66⟩).2, (show _ ∧ _ from ⟨p53, p54⟩).1, (show _ ∧ _ from ⟨p53, p54⟩).2, (by first | exact msk_y (by omega) (sha_1 (a := 1) (odd_pa (by omega) (by omega)) (by have h_0 : Int32.toInt 0 = 0 := rfl; have h_1 : Int32.toInt 1 = 1 := rfl; omega)) (by omega) p55 (by omega) (by omega) | exact msk_y (by omega) (sha_1 (a := 0) (odd_pa (by omega) (by omega)) (by have h_0 : Int32.toInt 0 = 0 := rfl; have h_1 : Int32.toInt 1 = 1 := rfl; omega)) (by omega) p55 (by omega) (by omega)), (by ((repeat' apply And.intro) <;> first | trivial | rfl | assumption | omega | decide | exact Or.inl rfl | exact Or.inr (Or.inl rfl) | exact Or.inr (Or.inr rfl))), (by ((repeat' apply And.intro) <;> first | trivial | rfl | assumption | omega | decide | exact Or.inl rfl | exact Or.inr (Or.inl rfl) | exact Or.inr (Or.inr rfl))), (by ((repeat' apply And.intro) <;> first | trivial | rfl | assumption | omega | decide | exact Or.inl rfl | exact Or.inr (Or.inl rfl) | exact Or.inr (Or.inr rfl)))⟩) [3, 0, 1, 2] (by decide) rfl (Nat.le_of_ble_eq_true rfl) (Nat.le_of_ble_eq_true rfl)
      · skip
        have k70 : ¬ ((Int32.toInt r61) = 0) := fun h_9 => c68 ((fa_eq r61 0).mpr h_9)
        refine r_iconst 72 0 C dX0_mask_72 (by decide) ?_
        refine r_goto 73 78 C dX0_mask_73 (by decide) ?_
        exact r_iret 78 Rt dX0_mask_78 (z57, z49, z60, z50) (show 0 ≤ (Int32.toInt 0) ∧ (Int32.toInt 0) ≤ 7 ∧ 0 ≤ (Int32.toInt z60) ∧ (Int32.toInt z60) ≤ 1500 ∧ 0 ≤ (Int32.toInt z50) ∧ (Int32.toInt z50) ≤ 1 ∧ ((((((Int32.toInt z50), z49), (Int32.toInt z57)), ((Int32.toInt z60) - (Int32.toInt x2))), 0) : (WH × Int) × Int) = MSK (NMF x12) (NMF x11) (PA fm0 (Int32.toInt x8)) (((Int32.toInt x7), y0), (Int32.toInt x1)) ((Int32.toInt x4) - (Int32.toInt x2)) ((Int32.toInt x3) - (Int32.toInt x2)) ∧ ((Int32.toInt x1) ≤ (Int32.toInt z57) ∧ (Int32.toInt z57) ≤ (Int32.toInt x1) + 24) ∧ (Int32.toInt x4) ≤ (Int32.toInt z60) ∧ (Int32.toInt z60) ≤ (Int32.toInt x3) from ⟨(by ((repeat' apply And.intro) <;> first | trivial | rfl | assumption | omega | decide | exact Or.inl rfl | exact Or.inr (Or.inl rfl) | exact Or.inr (Or.inr rfl))), (by ((repeat' apply And.intro) <;> first | trivial | rfl | assumption | omega | decide | exact Or.inl rfl | exact Or.inr (Or.inl rfl) | exact Or.inr (Or.inr rfl))), (show _ ∧ _ from ⟨p65, p66⟩).1, (show _ ∧ _ from ⟨p65, p66⟩).2, (show _ ∧ _ from ⟨p53, p54⟩).1, (show _ ∧ _ from ⟨p53, p54⟩).2, (by first | exact msk_y (by omega) (sha_1 (a := 1) (odd_pa (by omega) (by omega)) (by have h_0 : Int32.toInt 0 = 0 := rfl; have h_1 : Int32.toInt 1 = 1 := rfl; omega)) (by omega) p55 (by omega) (by omega) | exact msk_y (by omega) (sha_1 (a := 0) (odd_pa (by omega) (by omega)) (by have h_0 : Int32.toInt 0 = 0 := rfl; have h_1 : Int32.toInt 1 = 1 := rfl; omega)) (by omega) p55 (by omega) (by omega)), (by ((repeat' apply And.intro) <;> first | trivial | rfl | assumption | omega | decide | exact Or.inl rfl | exact Or.inr (Or.inl rfl) | exact Or.inr (Or.inr rfl))), (by ((repeat' apply And.intro) <;> first | trivial | rfl | assumption | omega | decide | exact Or.inl rfl | exact Or.inr (Or.inl rfl) | exact Or.inr (Or.inr rfl))), (by ((repeat' apply And.intro) <;> first | trivial | rfl | assumption | omega | decide | exact Or.inl rfl | exact Or.inr (Or.inl rfl) | exact Or.inr (Or.inr rfl)))⟩) [3, 0, 1, 2] (by decide) rfl (Nat.le_of_ble_eq_true rfl) (Nat.le_of_ble_eq_true rfl)
    · skip
      have k71 : (Int32.toInt z46) = 1 := (fa_eq z46 1).mp c47
      refine r_iconst 36 2 C dX0_mask_36 (by decide) ?_
      exact r_iret 37 Rt dX0_mask_37 (x1, y0, x4, x7) (show 0 ≤ (Int32.toInt 2) ∧ (Int32.toInt 2) ≤ 7 ∧ 0 ≤ (Int32.toInt x4) ∧ (Int32.toInt x4) ≤ 1500 ∧ 0 ≤ (Int32.toInt x7) ∧ (Int32.toInt x7) ≤ 1 ∧ ((((((Int32.toInt x7), y0), (Int32.toInt x1)), ((Int32.toInt x4) - (Int32.toInt x2))), 2) : (WH × Int) × Int) = MSK (NMF x12) (NMF x11) (PA fm0 (Int32.toInt x8)) (((Int32.toInt x7), y0), (Int32.toInt x1)) ((Int32.toInt x4) - (Int32.toInt x2)) ((Int32.toInt x3) - (Int32.toInt x2)) ∧ ((Int32.toInt x1) ≤ (Int32.toInt x1) ∧ (Int32.toInt x1) ≤ (Int32.toInt x1) + 24) ∧ (Int32.toInt x4) ≤ (Int32.toInt x4) ∧ (Int32.toInt x4) ≤ (Int32.toInt x3) from ⟨(by ((repeat' apply And.intro) <;> first | trivial | rfl | assumption | omega | decide | exact Or.inl rfl | exact Or.inr (Or.inl rfl) | exact Or.inr (Or.inr rfl))), (by ((repeat' apply And.intro) <;> first | trivial | rfl | assumption | omega | decide | exact Or.inl rfl | exact Or.inr (Or.inl rfl) | exact Or.inr (Or.inr rfl))), i_x4.1, i_x4.2, i_x7.1, i_x7.2, (by first | exact msk_n (by omega) (sha_1 (a := 1) (odd_pa (by omega) (by omega)) (by have h_0 : Int32.toInt 0 = 0 := rfl; have h_1 : Int32.toInt 1 = 1 := rfl; omega)) (by omega) rfl | exact msk_n (by omega) (sha_1 (a := 0) (odd_pa (by omega) (by omega)) (by have h_0 : Int32.toInt 0 = 0 := rfl; have h_1 : Int32.toInt 1 = 1 := rfl; omega)) (by omega) rfl), (by ((repeat' apply And.intro) <;> first | trivial | rfl | assumption | omega | decide | exact Or.inl rfl | exact Or.inr (Or.inl rfl) | exact Or.inr (Or.inr rfl))), (by ((repeat' apply And.intro) <;> first | trivial | rfl | assumption | omega | decide | exact Or.inl rfl | exact Or.inr (Or.inl rfl) | exact Or.inr (Or.inr rfl))), (by ((repeat' apply And.intro) <;> first | trivial | rfl | assumption | omega | decide | exact Or.inl rfl | exact Or.inr (Or.inl rfl) | exact Or.inr (Or.inr rfl)))⟩) [3, 2, 0, 1] (by decide) rfl (Nat.le_of_ble_eq_true rfl) (Nat.le_of_ble_eq_true rfl)
set_option maxHeartbeats 4000000 in
set_option maxRecDepth 100000 in
theorem c297_X0_hintOrMove (l : Launch) (g : GD) (h0 : Nat) (h1 : Nat) (h2 : Nat) (h3 : Nat) (h4 : Nat) (h5 : Nat) (h6 : Nat) (x0 : Int32) (x1 : Int32) (x2 : Int32) (y0 : Int64) (x3 : Int32) (x4 : Int32) (x5 : Int32) (x6 : Int32) (h7 : Nat) (h8 : Nat) (h9 : Nat) (x7 : Int32) (x8 : Int32) (h10 : Nat) (x9 : Int32) (x10 : Int32) (x11 : Int32) (x12 : Int32) (y1 : Int64) (y2 : Int64) (x13 : Int32) (h11 : Nat) (h12 : Nat) (h13 : Nat) (h14 : Nat) (x14 : Int32) (x15 : Int32) (x16 : Int32) (fm0 : Nat → Int64) (fn0 : Nat → Int32) (fm1 : Nat → Int64) (i_x0 : (0 ≤ (Int32.toInt x0) ∧ (Int32.toInt x0) ≤ 511)) (i_x2 : (0 ≤ (Int32.toInt x2) ∧ (Int32.toInt x2) ≤ 100000)) (i_x3 : (0 ≤ (Int32.toInt x3) ∧ (Int32.toInt x3) ≤ 1500)) (i_x4 : (0 ≤ (Int32.toInt x4) ∧ (Int32.toInt x4) ≤ 1500)) (i_x5 : (0 ≤ (Int32.toInt x5) ∧ (Int32.toInt x5) ≤ 1500)) (i_x6 : (0 ≤ (Int32.toInt x6) ∧ (Int32.toInt x6) ≤ 1)) (i_x7 : (0 ≤ (Int32.toInt x7) ∧ (Int32.toInt x7) ≤ 10)) (i_x8 : (0 ≤ (Int32.toInt x8) ∧ (Int32.toInt x8) ≤ 1)) (i_x9 : (0 ≤ (Int32.toInt x9) ∧ (Int32.toInt x9) ≤ 48)) (i_x10 : (0 ≤ (Int32.toInt x10) ∧ (Int32.toInt x10) ≤ 48)) (i_x11 : (0 ≤ (Int32.toInt x11) ∧ (Int32.toInt x11) ≤ 400)) (i_x12 : (0 ≤ (Int32.toInt x12) ∧ (Int32.toInt x12) ≤ 400)) (i_x13 : (0 ≤ (Int32.toInt x13) ∧ (Int32.toInt x13) ≤ 1)) (pre0 : ((Int32.toInt x3) ≤ (Int32.toInt x5) ∧ (Int32.toInt x5) ≤ (Int32.toInt x4))) (sz : Nat) : Met l yX0_hintOrMove wsX0_hintOrMove ({ frames := 4, cells := 0, slots := 0, locals := 87 }) (va_Pc [.ref h0, .int x0] (PW g [(h0, .inr (0, [.ref h1, .ref h2, .ref h3, .int x1, .int x2, .long y0, .int x3, .int x4, .int x5, .int x6, .ref h7, .ref h8, .ref h9, .int x7, .int x8])), (h1, .inr (6, [.ref h4, .ref h10, .int x9, .int x10])), (h2, .inr (5, [.ref h5, .ref h6, .int x11, .int x12, .long y1, .long y2, .int x13])), (h3, .inr (3, [.ref h11, .ref h12, .ref h13, .ref h14, .int x14, .int x15, .int x16])), (h4, .inl (gJ g, 48, .inr (.inl fm0))), (h5, .inl (gB g, 400, .inl fn0)), (h6, .inl (gJ g, 2400, .inr (.inl fm1)))] sz)) (va_Qi (fun (r : Int32) (u : (Int32) × (Int64) × (Int32) × (Int32) × (Int32) × (Int32) × (Int64) × (Int64) × (Int32) × (Nat → Int32) × (Nat → Int64)) => 0 ≤ (Int32.toInt r) ∧ (Int32.toInt r) ≤ 7 ∧ 0 ≤ (Int32.toInt (u.2.2.1)) ∧ (Int32.toInt (u.2.2.1)) ≤ 1500 ∧ 0 ≤ (Int32.toInt (u.2.2.2.1)) ∧ (Int32.toInt (u.2.2.2.1)) ≤ 1 ∧ 0 ≤ (Int32.toInt (u.2.2.2.2.1)) ∧ (Int32.toInt (u.2.2.2.2.1)) ≤ 1 ∧ 0 ≤ (Int32.toInt (u.2.2.2.2.2.1)) ∧ (Int32.toInt (u.2.2.2.2.2.1)) ≤ 400 ∧ 0 ≤ (Int32.toInt (u.2.2.2.2.2.2.2.2.1)) ∧ (Int32.toInt (u.2.2.2.2.2.2.2.2.1)) ≤ 1 ∧ CEQ (((Int32.toInt (u.2.2.2.2.1)), (u.2.1)), (Int32.toInt (u.1))) ((Int32.toInt (u.2.2.1)) - (Int32.toInt x3)) (PTS (u.2.2.2.2.2.2.2.2.2.1) (u.2.2.2.2.2.2.2.2.2.2) (Int32.toInt (u.2.2.2.2.2.1))) (u.2.2.2.2.2.2.1) (u.2.2.2.2.2.2.2.1) (Int32.toInt (u.2.2.2.2.2.2.2.2.1)) (Int32.toInt (u.2.2.2.1)) (Int32.toInt r) (HMS (NMF x16) (NMF x15) (Int32.toInt x12) ((Int32.toInt x4) - (Int32.toInt x3)) (PA fm0 (Int32.toInt x9)) (Int32.toInt x0) ((((Int32.toInt x8), y0), (Int32.toInt x2)), ((Int32.toInt x5) - (Int32.toInt x3)), (PTS fn0 fm1 (Int32.toInt x11), y1, y2, (Int32.toInt x13)), (Int32.toInt x6))) ∧ ((Int32.toInt x2) ≤ (Int32.toInt (u.1)) ∧ (Int32.toInt (u.1)) ≤ (Int32.toInt x2) + 24) ∧ ((Int32.toInt x3) ≤ (Int32.toInt (u.2.2.1)) ∧ (Int32.toInt (u.2.2.1)) ≤ (Int32.toInt x4))) (BW g (va_A [(h0, .inr (0, [.ref h1, .ref h2, .ref h3, .int x1, .int x2, .long y0, .int x3, .int x4, .int x5, .int x6, .ref h7, .ref h8, .ref h9, .int x7, .int x8])), (h1, .inr (6, [.ref h4, .ref h10, .int x9, .int x10])), (h2, .inr (5, [.ref h5, .ref h6, .int x11, .int x12, .long y1, .long y2, .int x13])), (h3, .inr (3, [.ref h11, .ref h12, .ref h13, .ref h14, .int x14, .int x15, .int x16])), (h4, .inl (gJ g, 48, .inr (.inl fm0))), (h5, .inl (gB g, 400, .inl fn0)), (h6, .inl (gJ g, 2400, .inr (.inl fm1)))] sz) (fun u : (Int32) × (Int64) × (Int32) × (Int32) × (Int32) × (Int32) × (Int64) × (Int64) × (Int32) × (Nat → Int32) × (Nat → Int64) => [(h0, .inr (0, [.ref h1, .ref h2, .ref h3, .int x1, .int u.1, .long u.2.1, .int x3, .int x4, .int u.2.2.1, .int u.2.2.2.1, .ref h7, .ref h8, .ref h9, .int x7, .int u.2.2.2.2.1])), (h1, .inr (6, [.ref h4, .ref h10, .int x9, .int x10])), (h2, .inr (5, [.ref h5, .ref h6, .int u.2.2.2.2.2.1, .int x12, .long u.2.2.2.2.2.2.1, .long u.2.2.2.2.2.2.2.1, .int u.2.2.2.2.2.2.2.2.1])), (h3, .inr (3, [.ref h11, .ref h12, .ref h13, .ref h14, .int x14, .int x15, .int x16])), (h4, .inl (gJ g, 48, .inr (.inl fm0))), (h5, .inl (gB g, 400, .inl u.2.2.2.2.2.2.2.2.2.1)), (h6, .inl (gJ g, 2400, .inr (.inl u.2.2.2.2.2.2.2.2.2.2)))])) (va_A [(h0, .inr (0, [.ref h1, .ref h2, .ref h3, .int x1, .int x2, .long y0, .int x3, .int x4, .int x5, .int x6, .ref h7, .ref h8, .ref h9, .int x7, .int x8])), (h1, .inr (6, [.ref h4, .ref h10, .int x9, .int x10])), (h2, .inr (5, [.ref h5, .ref h6, .int x11, .int x12, .long y1, .long y2, .int x13])), (h3, .inr (3, [.ref h11, .ref h12, .ref h13, .ref h14, .int x14, .int x15, .int x16])), (h4, .inl (gJ g, 48, .inr (.inl fm0))), (h5, .inl (gB g, 400, .inl fn0)), (h6, .inl (gJ g, 2400, .inr (.inl fm1)))] sz)) 0 0 (va_A [(h0, .inr (0, [.ref h1, .ref h2, .ref h3, .int x1, .int x2, .long y0, .int x3, .int x4, .int x5, .int x6, .ref h7, .ref h8, .ref h9, .int x7, .int x8])), (h1, .inr (6, [.ref h4, .ref h10, .int x9, .int x10])), (h2, .inr (5, [.ref h5, .ref h6, .int x11, .int x12, .long y1, .long y2, .int x13])), (h3, .inr (3, [.ref h11, .ref h12, .ref h13, .ref h14, .int x14, .int x15, .int x16])), (h4, .inl (gJ g, 48, .inr (.inl fm0))), (h5, .inl (gB g, 400, .inl fn0)), (h6, .inl (gJ g, 2400, .inr (.inl fm1)))] sz) := by
  refine met_i RX0 (by decide) rfl rfl (Nat.le_of_ble_eq_true rfl) [(0, .ref h0), (1, .int x0)] rfl ?_
  intro p e s m args below meth c A Q C hnm Rt
  refine r_iload_n 0 1 C dX0_hintOrMove_0 rfl ?_
  by_cases c1 : x0 = 4
  · skip
    have k2 : (Int32.toInt x0) = 4 := (fa_eq x0 4).mp c1
    refine r_tableIn 1 97 4 C dX0_hintOrMove_1 c1 (by decide) (by decide) rfl (by decide) ?_
    refine r_aload_n 97 0 C dX0_hintOrMove_97 rfl ?_
    refine r_iload_n 98 1 C dX0_hintOrMove_98 rfl ?_
    refine r_callVi 99 C dX0_hintOrMove_99 [] [(h0, .inr (0, [.ref h1, .ref h2, .ref h3, .int x1, .int x2, .long y0, .int x3, .int x4, .int x5, .int x6, .ref h7, .ref h8, .ref h9, .int x7, .int x8])), (h1, .inr (6, [.ref h4, .ref h10, .int x9, .int x10])), (h2, .inr (5, [.ref h5, .ref h6, .int x11, .int x12, .long y1, .long y2, .int x13])), (h3, .inr (3, [.ref h11, .ref h12, .ref h13, .ref h14, .int x14, .int x15, .int x16])), (h4, .inl (gJ g, 48, .inr (.inl fm0))), (h5, .inl (gB g, 400, .inl fn0)), (h6, .inl (gJ g, 2400, .inr (.inl fm1)))] [] (fun sz => c291_X0_move l g h0 h1 h2 h3 h4 h5 h6 x0 x1 x2 y0 x3 x4 x5 x6 h7 h8 h9 x7 x8 h10 x9 x10 x11 x12 y1 y2 x13 h11 h12 h13 h14 x14 x15 x16 fm0 fn0 fm1 i_x0 i_x3 i_x4 i_x5 i_x6 i_x7 i_x8 i_x9 i_x10 i_x11 i_x12 i_x13 sz) gX0_hintOrMove_X0_move rfl ⟨rfl, rfl⟩ 1 (by decide) ⟨Nat.le_of_ble_eq_true rfl, Nat.le_of_ble_eq_true rfl⟩ 0 rfl rfl [0, 1, 2, 3, 4, 5, 6] [] rfl rfl (by decide) (by decide) (by decide) rfl rfl (Nat.le_of_ble_eq_true rfl) ⟨Nat.le_of_ble_eq_true rfl, Nat.le_of_ble_eq_true rfl⟩ (fun r11 u13 w12 => ?_)
    obtain ⟨z3, z4, z5, z6, z7, z8, f9, f10⟩ := u13
    refine r_ws [(h0, .inr (0, [.ref h1, .ref h2, .ref h3, .int x1, .int x2, .long z3, .int x3, .int x4, .int x5, .int x6, .ref h7, .ref h8, .ref h9, .int x7, .int z4])), (h1, .inr (6, [.ref h4, .ref h10, .int x9, .int x10])), (h2, .inr (5, [.ref h5, .ref h6, .int z5, .int x12, .long z6, .long z7, .int z8])), (h3, .inr (3, [.ref h11, .ref h12, .ref h13, .ref h14, .int x14, .int x15, .int x16])), (h4, .inl (gJ g, 48, .inr (.inl fm0))), (h5, .inl (gB g, 400, .inl f9)), (h6, .inl (gJ g, 2400, .inr (.inl f10)))] rfl ?_
    have gz3 := fb_rngL z3
    have gz6 := fb_rngL z6
    have gz7 := fb_rngL z7
    have p14 : 0 ≤ (Int32.toInt r11) := w12.1
    have p15 : (Int32.toInt r11) ≤ 6 := w12.2.1
    have p16 : 0 ≤ (Int32.toInt z4) := w12.2.2.1
    have p17 : (Int32.toInt z4) ≤ 1 := w12.2.2.2.1
    have p18 : 0 ≤ (Int32.toInt z5) := w12.2.2.2.2.1
    have p19 : (Int32.toInt z5) ≤ 400 := w12.2.2.2.2.2.1
    have p20 : 0 ≤ (Int32.toInt z8) := w12.2.2.2.2.2.2.1
    have p21 : (Int32.toInt z8) ≤ 1 := w12.2.2.2.2.2.2.2.1
    have p22 : (((Int32.toInt z4), z3) : Int × Int64) = MVW (NMF x16) (NMF x15) (PA fm0 (Int32.toInt x9)) (Int32.toInt x0) ((Int32.toInt x8), y0) := w12.2.2.2.2.2.2.2.2.1
    have p23 : OEQ (PTS f9 f10 (Int32.toInt z5)) z6 z7 (Int32.toInt z8) (Int32.toInt r11) (MVO (Int32.toInt x12) (PA fm0 (Int32.toInt x9)) (Int32.toInt x0) (Int32.toInt x8) (PTS fn0 fm1 (Int32.toInt x11), y1, y2, (Int32.toInt x13))) := w12.2.2.2.2.2.2.2.2.2
    exact r_iret 102 Rt dX0_hintOrMove_102 (x2, z3, x5, x6, z4, z5, z6, z7, z8, f9, f10) (show 0 ≤ (Int32.toInt r11) ∧ (Int32.toInt r11) ≤ 7 ∧ 0 ≤ (Int32.toInt x5) ∧ (Int32.toInt x5) ≤ 1500 ∧ 0 ≤ (Int32.toInt x6) ∧ (Int32.toInt x6) ≤ 1 ∧ 0 ≤ (Int32.toInt z4) ∧ (Int32.toInt z4) ≤ 1 ∧ 0 ≤ (Int32.toInt z5) ∧ (Int32.toInt z5) ≤ 400 ∧ 0 ≤ (Int32.toInt z8) ∧ (Int32.toInt z8) ≤ 1 ∧ CEQ (((Int32.toInt z4), z3), (Int32.toInt x2)) ((Int32.toInt x5) - (Int32.toInt x3)) (PTS f9 f10 (Int32.toInt z5)) z6 z7 (Int32.toInt z8) (Int32.toInt x6) (Int32.toInt r11) (HMS (NMF x16) (NMF x15) (Int32.toInt x12) ((Int32.toInt x4) - (Int32.toInt x3)) (PA fm0 (Int32.toInt x9)) (Int32.toInt x0) ((((Int32.toInt x8), y0), (Int32.toInt x2)), ((Int32.toInt x5) - (Int32.toInt x3)), (PTS fn0 fm1 (Int32.toInt x11), y1, y2, (Int32.toInt x13)), (Int32.toInt x6))) ∧ ((Int32.toInt x2) ≤ (Int32.toInt x2) ∧ (Int32.toInt x2) ≤ (Int32.toInt x2) + 24) ∧ ((Int32.toInt x3) ≤ (Int32.toInt x5) ∧ (Int32.toInt x5) ≤ (Int32.toInt x4)) from ⟨(iv_wide (c := 0) (d := 7) ⟨p14, p15⟩ (by decide) (by decide)).1, (iv_wide (c := 0) (d := 7) ⟨p14, p15⟩ (by decide) (by decide)).2, i_x5.1, i_x5.2, i_x6.1, i_x6.2, (show _ ∧ _ from ⟨p16, p17⟩).1, (show _ ∧ _ from ⟨p16, p17⟩).2, (show _ ∧ _ from ⟨p18, p19⟩).1, (show _ ∧ _ from ⟨p18, p19⟩).2, (show _ ∧ _ from ⟨p20, p21⟩).1, (show _ ∧ _ from ⟨p20, p21⟩).2, (by exact hms_v (by omega) p22 p23), (by ((repeat' apply And.intro) <;> first | trivial | rfl | assumption | omega | decide | exact Or.inl rfl | exact Or.inr (Or.inl rfl) | exact Or.inr (Or.inr rfl))), (by ((repeat' apply And.intro) <;> first | trivial | rfl | assumption | omega | decide | exact Or.inl rfl | exact Or.inr (Or.inl rfl) | exact Or.inr (Or.inr rfl)))⟩) [0, 1, 2, 3, 4, 5, 6] (by decide) rfl (Nat.le_of_ble_eq_true rfl) (Nat.le_of_ble_eq_true rfl)
  · skip
    have k24 : ¬ ((Int32.toInt x0) = 4) := fun h_9 => c1 ((fa_eq x0 4).mpr h_9)
    by_cases c25 : x0 = 5
    · skip
      have k26 : (Int32.toInt x0) = 5 := (fa_eq x0 5).mp c25
      refine r_tableIn 1 108 5 C dX0_hintOrMove_1 c25 (by decide) (by decide) rfl (by decide) ?_
      refine r_aload_n 108 0 C dX0_hintOrMove_108 rfl ?_
      refine r_callVi 109 C dX0_hintOrMove_109 [] [(h0, .inr (0, [.ref h1, .ref h2, .ref h3, .int x1, .int x2, .long y0, .int x3, .int x4, .int x5, .int x6, .ref h7, .ref h8, .ref h9, .int x7, .int x8])), (h1, .inr (6, [.ref h4, .ref h10, .int x9, .int x10])), (h3, .inr (3, [.ref h11, .ref h12, .ref h13, .ref h14, .int x14, .int x15, .int x16])), (h4, .inl (gJ g, 48, .inr (.inl fm0)))] [(h2, .inr (5, [.ref h5, .ref h6, .int x11, .int x12, .long y1, .long y2, .int x13])), (h5, .inl (gB g, 400, .inl fn0)), (h6, .inl (gJ g, 2400, .inr (.inl fm1)))] (fun sz => c292_X0_stems l g h0 h1 h3 h4 h2 x1 x2 y0 x3 x4 x5 x6 h7 h8 h9 x7 x8 h10 x9 x10 h11 h12 h13 h14 x14 x15 x16 fm0 i_x2 i_x3 i_x4 i_x5 i_x6 i_x7 i_x8 i_x9 i_x10 sz) gX0_hintOrMove_X0_stems rfl ⟨rfl, rfl⟩ 0 (by decide) ⟨Nat.le_of_ble_eq_true rfl, Nat.le_of_ble_eq_true rfl⟩ 0 rfl rfl [0, 1, 3, 4] [2, 5, 6] rfl rfl (by decide) (by decide) (by decide) rfl rfl (Nat.le_of_ble_eq_true rfl) ⟨Nat.le_of_ble_eq_true rfl, Nat.le_of_ble_eq_true rfl⟩ (fun r30 u32 w31 => ?_)
      obtain ⟨z27, z28, z29⟩ := u32
      refine r_ws [(h2, .inr (5, [.ref h5, .ref h6, .int x11, .int x12, .long y1, .long y2, .int x13])), (h5, .inl (gB g, 400, .inl fn0)), (h6, .inl (gJ g, 2400, .inr (.inl fm1))), (h0, .inr (0, [.ref h1, .ref h2, .ref h3, .int x1, .int z27, .long z28, .int x3, .int x4, .int x5, .int x6, .ref h7, .ref h8, .ref h9, .int x7, .int z29])), (h1, .inr (6, [.ref h4, .ref h10, .int x9, .int x10])), (h3, .inr (3, [.ref h11, .ref h12, .ref h13, .ref h14, .int x14, .int x15, .int x16])), (h4, .inl (gJ g, 48, .inr (.inl fm0)))] rfl ?_
      have gz27 := fb_rng z27
      have gz28 := fb_rngL z28
      have p33 : 0 ≤ (Int32.toInt r30) := w31.1
      have p34 : (Int32.toInt r30) ≤ 2 := w31.2.1
      have p35 : 0 ≤ (Int32.toInt z29) := w31.2.2.1
      have p36 : (Int32.toInt z29) ≤ 1 := w31.2.2.2.1
      have p37 : (((((Int32.toInt z29), z28), (Int32.toInt z27)), (Int32.toInt r30)) : WH × Int) = STM (NMF x16) (NMF x15) (PA fm0 (Int32.toInt x9)) (((Int32.toInt x8), y0), (Int32.toInt x2)) := w31.2.2.2.2.1
      have p38 : ((Int32.toInt x2) ≤ (Int32.toInt z27) ∧ (Int32.toInt z27) ≤ (Int32.toInt x2) + 24) := w31.2.2.2.2.2
      exact r_iret 112 Rt dX0_hintOrMove_112 (z27, z28, x5, x6, z29, x11, y1, y2, x13, fn0, fm1) (show 0 ≤ (Int32.toInt r30) ∧ (Int32.toInt r30) ≤ 7 ∧ 0 ≤ (Int32.toInt x5) ∧ (Int32.toInt x5) ≤ 1500 ∧ 0 ≤ (Int32.toInt x6) ∧ (Int32.toInt x6) ≤ 1 ∧ 0 ≤ (Int32.toInt z29) ∧ (Int32.toInt z29) ≤ 1 ∧ 0 ≤ (Int32.toInt x11) ∧ (Int32.toInt x11) ≤ 400 ∧ 0 ≤ (Int32.toInt x13) ∧ (Int32.toInt x13) ≤ 1 ∧ CEQ (((Int32.toInt z29), z28), (Int32.toInt z27)) ((Int32.toInt x5) - (Int32.toInt x3)) (PTS fn0 fm1 (Int32.toInt x11)) y1 y2 (Int32.toInt x13) (Int32.toInt x6) (Int32.toInt r30) (HMS (NMF x16) (NMF x15) (Int32.toInt x12) ((Int32.toInt x4) - (Int32.toInt x3)) (PA fm0 (Int32.toInt x9)) (Int32.toInt x0) ((((Int32.toInt x8), y0), (Int32.toInt x2)), ((Int32.toInt x5) - (Int32.toInt x3)), (PTS fn0 fm1 (Int32.toInt x11), y1, y2, (Int32.toInt x13)), (Int32.toInt x6))) ∧ ((Int32.toInt x2) ≤ (Int32.toInt z27) ∧ (Int32.toInt z27) ≤ (Int32.toInt x2) + 24) ∧ ((Int32.toInt x3) ≤ (Int32.toInt x5) ∧ (Int32.toInt x5) ≤ (Int32.toInt x4)) from ⟨(iv_wide (c := 0) (d := 7) ⟨p33, p34⟩ (by decide) (by decide)).1, (iv_wide (c := 0) (d := 7) ⟨p33, p34⟩ (by decide) (by decide)).2, i_x5.1, i_x5.2, i_x6.1, i_x6.2, (show _ ∧ _ from ⟨p35, p36⟩).1, (show _ ∧ _ from ⟨p35, p36⟩).2, i_x11.1, i_x11.2, i_x13.1, i_x13.2, (by exact hms_s (by omega) p37), (by ((repeat' apply And.intro) <;> first | trivial | rfl | assumption | omega | decide | exact Or.inl rfl | exact Or.inr (Or.inl rfl) | exact Or.inr (Or.inr rfl))), (by ((repeat' apply And.intro) <;> first | trivial | rfl | assumption | omega | decide | exact Or.inl rfl | exact Or.inr (Or.inl rfl) | exact Or.inr (Or.inr rfl)))⟩) [3, 4, 0, 5, 6, 1, 2] (by decide) rfl (Nat.le_of_ble_eq_true rfl) (Nat.le_of_ble_eq_true rfl)
    · skip
      have k39 : ¬ ((Int32.toInt x0) = 5) := fun h_9 => c25 ((fa_eq x0 5).mpr h_9)
      by_cases c40 : x0 = 6
      · skip
        have k41 : (Int32.toInt x0) = 6 := (fa_eq x0 6).mp c40
        refine r_tableIn 1 108 6 C dX0_hintOrMove_1 c40 (by decide) (by decide) rfl (by decide) ?_
        refine r_aload_n 108 0 C dX0_hintOrMove_108 rfl ?_
        refine r_callVi 109 C dX0_hintOrMove_109 [] [(h0, .inr (0, [.ref h1, .ref h2, .ref h3, .int x1, .int x2, .long y0, .int x3, .int x4, .int x5, .int x6, .ref h7, .ref h8, .ref h9, .int x7, .int x8])), (h1, .inr (6, [.ref h4, .ref h10, .int x9, .int x10])), (h3, .inr (3, [.ref h11, .ref h12, .ref h13, .ref h14, .int x14, .int x15, .int x16])), (h4, .inl (gJ g, 48, .inr (.inl fm0)))] [(h2, .inr (5, [.ref h5, .ref h6, .int x11, .int x12, .long y1, .long y2, .int x13])), (h5, .inl (gB g, 400, .inl fn0)), (h6, .inl (gJ g, 2400, .inr (.inl fm1)))] (fun sz => c292_X0_stems l g h0 h1 h3 h4 h2 x1 x2 y0 x3 x4 x5 x6 h7 h8 h9 x7 x8 h10 x9 x10 h11 h12 h13 h14 x14 x15 x16 fm0 i_x2 i_x3 i_x4 i_x5 i_x6 i_x7 i_x8 i_x9 i_x10 sz) gX0_hintOrMove_X0_stems rfl ⟨rfl, rfl⟩ 0 (by decide) ⟨Nat.le_of_ble_eq_true rfl, Nat.le_of_ble_eq_true rfl⟩ 0 rfl rfl [0, 1, 3, 4] [2, 5, 6] rfl rfl (by decide) (by decide) (by decide) rfl rfl (Nat.le_of_ble_eq_true rfl) ⟨Nat.le_of_ble_eq_true rfl, Nat.le_of_ble_eq_true rfl⟩ (fun r45 u47 w46 => ?_)
        obtain ⟨z42, z43, z44⟩ := u47
        refine r_ws [(h2, .inr (5, [.ref h5, .ref h6, .int x11, .int x12, .long y1, .long y2, .int x13])), (h5, .inl (gB g, 400, .inl fn0)), (h6, .inl (gJ g, 2400, .inr (.inl fm1))), (h0, .inr (0, [.ref h1, .ref h2, .ref h3, .int x1, .int z42, .long z43, .int x3, .int x4, .int x5, .int x6, .ref h7, .ref h8, .ref h9, .int x7, .int z44])), (h1, .inr (6, [.ref h4, .ref h10, .int x9, .int x10])), (h3, .inr (3, [.ref h11, .ref h12, .ref h13, .ref h14, .int x14, .int x15, .int x16])), (h4, .inl (gJ g, 48, .inr (.inl fm0)))] rfl ?_
        have gz42 := fb_rng z42
        have gz43 := fb_rngL z43
        have p48 : 0 ≤ (Int32.toInt r45) := w46.1
        have p49 : (Int32.toInt r45) ≤ 2 := w46.2.1
        have p50 : 0 ≤ (Int32.toInt z44) := w46.2.2.1
        have p51 : (Int32.toInt z44) ≤ 1 := w46.2.2.2.1
        have p52 : (((((Int32.toInt z44), z43), (Int32.toInt z42)), (Int32.toInt r45)) : WH × Int) = STM (NMF x16) (NMF x15) (PA fm0 (Int32.toInt x9)) (((Int32.toInt x8), y0), (Int32.toInt x2)) := w46.2.2.2.2.1
        have p53 : ((Int32.toInt x2) ≤ (Int32.toInt z42) ∧ (Int32.toInt z42) ≤ (Int32.toInt x2) + 24) := w46.2.2.2.2.2
        exact r_iret 112 Rt dX0_hintOrMove_112 (z42, z43, x5, x6, z44, x11, y1, y2, x13, fn0, fm1) (show 0 ≤ (Int32.toInt r45) ∧ (Int32.toInt r45) ≤ 7 ∧ 0 ≤ (Int32.toInt x5) ∧ (Int32.toInt x5) ≤ 1500 ∧ 0 ≤ (Int32.toInt x6) ∧ (Int32.toInt x6) ≤ 1 ∧ 0 ≤ (Int32.toInt z44) ∧ (Int32.toInt z44) ≤ 1 ∧ 0 ≤ (Int32.toInt x11) ∧ (Int32.toInt x11) ≤ 400 ∧ 0 ≤ (Int32.toInt x13) ∧ (Int32.toInt x13) ≤ 1 ∧ CEQ (((Int32.toInt z44), z43), (Int32.toInt z42)) ((Int32.toInt x5) - (Int32.toInt x3)) (PTS fn0 fm1 (Int32.toInt x11)) y1 y2 (Int32.toInt x13) (Int32.toInt x6) (Int32.toInt r45) (HMS (NMF x16) (NMF x15) (Int32.toInt x12) ((Int32.toInt x4) - (Int32.toInt x3)) (PA fm0 (Int32.toInt x9)) (Int32.toInt x0) ((((Int32.toInt x8), y0), (Int32.toInt x2)), ((Int32.toInt x5) - (Int32.toInt x3)), (PTS fn0 fm1 (Int32.toInt x11), y1, y2, (Int32.toInt x13)), (Int32.toInt x6))) ∧ ((Int32.toInt x2) ≤ (Int32.toInt z42) ∧ (Int32.toInt z42) ≤ (Int32.toInt x2) + 24) ∧ ((Int32.toInt x3) ≤ (Int32.toInt x5) ∧ (Int32.toInt x5) ≤ (Int32.toInt x4)) from ⟨(iv_wide (c := 0) (d := 7) ⟨p48, p49⟩ (by decide) (by decide)).1, (iv_wide (c := 0) (d := 7) ⟨p48, p49⟩ (by decide) (by decide)).2, i_x5.1, i_x5.2, i_x6.1, i_x6.2, (show _ ∧ _ from ⟨p50, p51⟩).1, (show _ ∧ _ from ⟨p50, p51⟩).2, i_x11.1, i_x11.2, i_x13.1, i_x13.2, (by exact hms_s (by omega) p52), (by ((repeat' apply And.intro) <;> first | trivial | rfl | assumption | omega | decide | exact Or.inl rfl | exact Or.inr (Or.inl rfl) | exact Or.inr (Or.inr rfl))), (by ((repeat' apply And.intro) <;> first | trivial | rfl | assumption | omega | decide | exact Or.inl rfl | exact Or.inr (Or.inl rfl) | exact Or.inr (Or.inr rfl)))⟩) [3, 4, 0, 5, 6, 1, 2] (by decide) rfl (Nat.le_of_ble_eq_true rfl) (Nat.le_of_ble_eq_true rfl)
      · skip
        have k54 : ¬ ((Int32.toInt x0) = 6) := fun h_9 => c40 ((fa_eq x0 6).mpr h_9)
        by_cases c55 : x0 = 7
        · skip
          have k56 : (Int32.toInt x0) = 7 := (fa_eq x0 7).mp c55
          refine r_tableIn 1 108 7 C dX0_hintOrMove_1 c55 (by decide) (by decide) rfl (by decide) ?_
          refine r_aload_n 108 0 C dX0_hintOrMove_108 rfl ?_
          refine r_callVi 109 C dX0_hintOrMove_109 [] [(h0, .inr (0, [.ref h1, .ref h2, .ref h3, .int x1, .int x2, .long y0, .int x3, .int x4, .int x5, .int x6, .ref h7, .ref h8, .ref h9, .int x7, .int x8])), (h1, .inr (6, [.ref h4, .ref h10, .int x9, .int x10])), (h3, .inr (3, [.ref h11, .ref h12, .ref h13, .ref h14, .int x14, .int x15, .int x16])), (h4, .inl (gJ g, 48, .inr (.inl fm0)))] [(h2, .inr (5, [.ref h5, .ref h6, .int x11, .int x12, .long y1, .long y2, .int x13])), (h5, .inl (gB g, 400, .inl fn0)), (h6, .inl (gJ g, 2400, .inr (.inl fm1)))] (fun sz => c292_X0_stems l g h0 h1 h3 h4 h2 x1 x2 y0 x3 x4 x5 x6 h7 h8 h9 x7 x8 h10 x9 x10 h11 h12 h13 h14 x14 x15 x16 fm0 i_x2 i_x3 i_x4 i_x5 i_x6 i_x7 i_x8 i_x9 i_x10 sz) gX0_hintOrMove_X0_stems rfl ⟨rfl, rfl⟩ 0 (by decide) ⟨Nat.le_of_ble_eq_true rfl, Nat.le_of_ble_eq_true rfl⟩ 0 rfl rfl [0, 1, 3, 4] [2, 5, 6] rfl rfl (by decide) (by decide) (by decide) rfl rfl (Nat.le_of_ble_eq_true rfl) ⟨Nat.le_of_ble_eq_true rfl, Nat.le_of_ble_eq_true rfl⟩ (fun r60 u62 w61 => ?_)
          obtain ⟨z57, z58, z59⟩ := u62
          refine r_ws [(h2, .inr (5, [.ref h5, .ref h6, .int x11, .int x12, .long y1, .long y2, .int x13])), (h5, .inl (gB g, 400, .inl fn0)), (h6, .inl (gJ g, 2400, .inr (.inl fm1))), (h0, .inr (0, [.ref h1, .ref h2, .ref h3, .int x1, .int z57, .long z58, .int x3, .int x4, .int x5, .int x6, .ref h7, .ref h8, .ref h9, .int x7, .int z59])), (h1, .inr (6, [.ref h4, .ref h10, .int x9, .int x10])), (h3, .inr (3, [.ref h11, .ref h12, .ref h13, .ref h14, .int x14, .int x15, .int x16])), (h4, .inl (gJ g, 48, .inr (.inl fm0)))] rfl ?_
          have gz57 := fb_rng z57
          have gz58 := fb_rngL z58
          have p63 : 0 ≤ (Int32.toInt r60) := w61.1
          have p64 : (Int32.toInt r60) ≤ 2 := w61.2.1
          have p65 : 0 ≤ (Int32.toInt z59) := w61.2.2.1
          have p66 : (Int32.toInt z59) ≤ 1 := w61.2.2.2.1
          have p67 : (((((Int32.toInt z59), z58), (Int32.toInt z57)), (Int32.toInt r60)) : WH × Int) = STM (NMF x16) (NMF x15) (PA fm0 (Int32.toInt x9)) (((Int32.toInt x8), y0), (Int32.toInt x2)) := w61.2.2.2.2.1
          have p68 : ((Int32.toInt x2) ≤ (Int32.toInt z57) ∧ (Int32.toInt z57) ≤ (Int32.toInt x2) + 24) := w61.2.2.2.2.2
          exact r_iret 112 Rt dX0_hintOrMove_112 (z57, z58, x5, x6, z59, x11, y1, y2, x13, fn0, fm1) (show 0 ≤ (Int32.toInt r60) ∧ (Int32.toInt r60) ≤ 7 ∧ 0 ≤ (Int32.toInt x5) ∧ (Int32.toInt x5) ≤ 1500 ∧ 0 ≤ (Int32.toInt x6) ∧ (Int32.toInt x6) ≤ 1 ∧ 0 ≤ (Int32.toInt z59) ∧ (Int32.toInt z59) ≤ 1 ∧ 0 ≤ (Int32.toInt x11) ∧ (Int32.toInt x11) ≤ 400 ∧ 0 ≤ (Int32.toInt x13) ∧ (Int32.toInt x13) ≤ 1 ∧ CEQ (((Int32.toInt z59), z58), (Int32.toInt z57)) ((Int32.toInt x5) - (Int32.toInt x3)) (PTS fn0 fm1 (Int32.toInt x11)) y1 y2 (Int32.toInt x13) (Int32.toInt x6) (Int32.toInt r60) (HMS (NMF x16) (NMF x15) (Int32.toInt x12) ((Int32.toInt x4) - (Int32.toInt x3)) (PA fm0 (Int32.toInt x9)) (Int32.toInt x0) ((((Int32.toInt x8), y0), (Int32.toInt x2)), ((Int32.toInt x5) - (Int32.toInt x3)), (PTS fn0 fm1 (Int32.toInt x11), y1, y2, (Int32.toInt x13)), (Int32.toInt x6))) ∧ ((Int32.toInt x2) ≤ (Int32.toInt z57) ∧ (Int32.toInt z57) ≤ (Int32.toInt x2) + 24) ∧ ((Int32.toInt x3) ≤ (Int32.toInt x5) ∧ (Int32.toInt x5) ≤ (Int32.toInt x4)) from ⟨(iv_wide (c := 0) (d := 7) ⟨p63, p64⟩ (by decide) (by decide)).1, (iv_wide (c := 0) (d := 7) ⟨p63, p64⟩ (by decide) (by decide)).2, i_x5.1, i_x5.2, i_x6.1, i_x6.2, (show _ ∧ _ from ⟨p65, p66⟩).1, (show _ ∧ _ from ⟨p65, p66⟩).2, i_x11.1, i_x11.2, i_x13.1, i_x13.2, (by exact hms_s (by omega) p67), (by ((repeat' apply And.intro) <;> first | trivial | rfl | assumption | omega | decide | exact Or.inl rfl | exact Or.inr (Or.inl rfl) | exact Or.inr (Or.inr rfl))), (by ((repeat' apply And.intro) <;> first | trivial | rfl | assumption | omega | decide | exact Or.inl rfl | exact Or.inr (Or.inl rfl) | exact Or.inr (Or.inr rfl)))⟩) [3, 4, 0, 5, 6, 1, 2] (by decide) rfl (Nat.le_of_ble_eq_true rfl) (Nat.le_of_ble_eq_true rfl)
        · skip
          have k69 : ¬ ((Int32.toInt x0) = 7) := fun h_9 => c55 ((fa_eq x0 7).mpr h_9)
          by_cases c70 : x0 = 8
          · skip
            have k71 : (Int32.toInt x0) = 8 := (fa_eq x0 8).mp c70
            refine r_tableIn 1 108 8 C dX0_hintOrMove_1 c70 (by decide) (by decide) rfl (by decide) ?_
            refine r_aload_n 108 0 C dX0_hintOrMove_108 rfl ?_
            refine r_callVi 109 C dX0_hintOrMove_109 [] [(h0, .inr (0, [.ref h1, .ref h2, .ref h3, .int x1, .int x2, .long y0, .int x3, .int x4, .int x5, .int x6, .ref h7, .ref h8, .ref h9, .int x7, .int x8])), (h1, .inr (6, [.ref h4, .ref h10, .int x9, .int x10])), (h3, .inr (3, [.ref h11, .ref h12, .ref h13, .ref h14, .int x14, .int x15, .int x16])), (h4, .inl (gJ g, 48, .inr (.inl fm0)))] [(h2, .inr (5, [.ref h5, .ref h6, .int x11, .int x12, .long y1, .long y2, .int x13])), (h5, .inl (gB g, 400, .inl fn0)), (h6, .inl (gJ g, 2400, .inr (.inl fm1)))] (fun sz => c292_X0_stems l g h0 h1 h3 h4 h2 x1 x2 y0 x3 x4 x5 x6 h7 h8 h9 x7 x8 h10 x9 x10 h11 h12 h13 h14 x14 x15 x16 fm0 i_x2 i_x3 i_x4 i_x5 i_x6 i_x7 i_x8 i_x9 i_x10 sz) gX0_hintOrMove_X0_stems rfl ⟨rfl, rfl⟩ 0 (by decide) ⟨Nat.le_of_ble_eq_true rfl, Nat.le_of_ble_eq_true rfl⟩ 0 rfl rfl [0, 1, 3, 4] [2, 5, 6] rfl rfl (by decide) (by decide) (by decide) rfl rfl (Nat.le_of_ble_eq_true rfl) ⟨Nat.le_of_ble_eq_true rfl, Nat.le_of_ble_eq_true rfl⟩ (fun r75 u77 w76 => ?_)
            obtain ⟨z72, z73, z74⟩ := u77
            refine r_ws [(h2, .inr (5, [.ref h5, .ref h6, .int x11, .int x12, .long y1, .long y2, .int x13])), (h5, .inl (gB g, 400, .inl fn0)), (h6, .inl (gJ g, 2400, .inr (.inl fm1))), (h0, .inr (0, [.ref h1, .ref h2, .ref h3, .int x1, .int z72, .long z73, .int x3, .int x4, .int x5, .int x6, .ref h7, .ref h8, .ref h9, .int x7, .int z74])), (h1, .inr (6, [.ref h4, .ref h10, .int x9, .int x10])), (h3, .inr (3, [.ref h11, .ref h12, .ref h13, .ref h14, .int x14, .int x15, .int x16])), (h4, .inl (gJ g, 48, .inr (.inl fm0)))] rfl ?_
            have gz72 := fb_rng z72
            have gz73 := fb_rngL z73
            have p78 : 0 ≤ (Int32.toInt r75) := w76.1
            have p79 : (Int32.toInt r75) ≤ 2 := w76.2.1
            have p80 : 0 ≤ (Int32.toInt z74) := w76.2.2.1
            have p81 : (Int32.toInt z74) ≤ 1 := w76.2.2.2.1
            have p82 : (((((Int32.toInt z74), z73), (Int32.toInt z72)), (Int32.toInt r75)) : WH × Int) = STM (NMF x16) (NMF x15) (PA fm0 (Int32.toInt x9)) (((Int32.toInt x8), y0), (Int32.toInt x2)) := w76.2.2.2.2.1
            have p83 : ((Int32.toInt x2) ≤ (Int32.toInt z72) ∧ (Int32.toInt z72) ≤ (Int32.toInt x2) + 24) := w76.2.2.2.2.2
            exact r_iret 112 Rt dX0_hintOrMove_112 (z72, z73, x5, x6, z74, x11, y1, y2, x13, fn0, fm1) (show 0 ≤ (Int32.toInt r75) ∧ (Int32.toInt r75) ≤ 7 ∧ 0 ≤ (Int32.toInt x5) ∧ (Int32.toInt x5) ≤ 1500 ∧ 0 ≤ (Int32.toInt x6) ∧ (Int32.toInt x6) ≤ 1 ∧ 0 ≤ (Int32.toInt z74) ∧ (Int32.toInt z74) ≤ 1 ∧ 0 ≤ (Int32.toInt x11) ∧ (Int32.toInt x11) ≤ 400 ∧ 0 ≤ (Int32.toInt x13) ∧ (Int32.toInt x13) ≤ 1 ∧ CEQ (((Int32.toInt z74), z73), (Int32.toInt z72)) ((Int32.toInt x5) - (Int32.toInt x3)) (PTS fn0 fm1 (Int32.toInt x11)) y1 y2 (Int32.toInt x13) (Int32.toInt x6) (Int32.toInt r75) (HMS (NMF x16) (NMF x15) (Int32.toInt x12) ((Int32.toInt x4) - (Int32.toInt x3)) (PA fm0 (Int32.toInt x9)) (Int32.toInt x0) ((((Int32.toInt x8), y0), (Int32.toInt x2)), ((Int32.toInt x5) - (Int32.toInt x3)), (PTS fn0 fm1 (Int32.toInt x11), y1, y2, (Int32.toInt x13)), (Int32.toInt x6))) ∧ ((Int32.toInt x2) ≤ (Int32.toInt z72) ∧ (Int32.toInt z72) ≤ (Int32.toInt x2) + 24) ∧ ((Int32.toInt x3) ≤ (Int32.toInt x5) ∧ (Int32.toInt x5) ≤ (Int32.toInt x4)) from ⟨(iv_wide (c := 0) (d := 7) ⟨p78, p79⟩ (by decide) (by decide)).1, (iv_wide (c := 0) (d := 7) ⟨p78, p79⟩ (by decide) (by decide)).2, i_x5.1, i_x5.2, i_x6.1, i_x6.2, (show _ ∧ _ from ⟨p80, p81⟩).1, (show _ ∧ _ from ⟨p80, p81⟩).2, i_x11.1, i_x11.2, i_x13.1, i_x13.2, (by exact hms_s (by omega) p82), (by ((repeat' apply And.intro) <;> first | trivial | rfl | assumption | omega | decide | exact Or.inl rfl | exact Or.inr (Or.inl rfl) | exact Or.inr (Or.inr rfl))), (by ((repeat' apply And.intro) <;> first | trivial | rfl | assumption | omega | decide | exact Or.inl rfl | exact Or.inr (Or.inl rfl) | exact Or.inr (Or.inr rfl)))⟩) [3, 4, 0, 5, 6, 1, 2] (by decide) rfl (Nat.le_of_ble_eq_true rfl) (Nat.le_of_ble_eq_true rfl)
          · skip
            have k84 : ¬ ((Int32.toInt x0) = 8) := fun h_9 => c70 ((fa_eq x0 8).mpr h_9)
            by_cases c85 : x0 = 9
            · skip
              have k86 : (Int32.toInt x0) = 9 := (fa_eq x0 9).mp c85
              refine r_tableIn 1 108 9 C dX0_hintOrMove_1 c85 (by decide) (by decide) rfl (by decide) ?_
              refine r_aload_n 108 0 C dX0_hintOrMove_108 rfl ?_
              refine r_callVi 109 C dX0_hintOrMove_109 [] [(h0, .inr (0, [.ref h1, .ref h2, .ref h3, .int x1, .int x2, .long y0, .int x3, .int x4, .int x5, .int x6, .ref h7, .ref h8, .ref h9, .int x7, .int x8])), (h1, .inr (6, [.ref h4, .ref h10, .int x9, .int x10])), (h3, .inr (3, [.ref h11, .ref h12, .ref h13, .ref h14, .int x14, .int x15, .int x16])), (h4, .inl (gJ g, 48, .inr (.inl fm0)))] [(h2, .inr (5, [.ref h5, .ref h6, .int x11, .int x12, .long y1, .long y2, .int x13])), (h5, .inl (gB g, 400, .inl fn0)), (h6, .inl (gJ g, 2400, .inr (.inl fm1)))] (fun sz => c292_X0_stems l g h0 h1 h3 h4 h2 x1 x2 y0 x3 x4 x5 x6 h7 h8 h9 x7 x8 h10 x9 x10 h11 h12 h13 h14 x14 x15 x16 fm0 i_x2 i_x3 i_x4 i_x5 i_x6 i_x7 i_x8 i_x9 i_x10 sz) gX0_hintOrMove_X0_stems rfl ⟨rfl, rfl⟩ 0 (by decide) ⟨Nat.le_of_ble_eq_true rfl, Nat.le_of_ble_eq_true rfl⟩ 0 rfl rfl [0, 1, 3, 4] [2, 5, 6] rfl rfl (by decide) (by decide) (by decide) rfl rfl (Nat.le_of_ble_eq_true rfl) ⟨Nat.le_of_ble_eq_true rfl, Nat.le_of_ble_eq_true rfl⟩ (fun r90 u92 w91 => ?_)
              obtain ⟨z87, z88, z89⟩ := u92
              refine r_ws [(h2, .inr (5, [.ref h5, .ref h6, .int x11, .int x12, .long y1, .long y2, .int x13])), (h5, .inl (gB g, 400, .inl fn0)), (h6, .inl (gJ g, 2400, .inr (.inl fm1))), (h0, .inr (0, [.ref h1, .ref h2, .ref h3, .int x1, .int z87, .long z88, .int x3, .int x4, .int x5, .int x6, .ref h7, .ref h8, .ref h9, .int x7, .int z89])), (h1, .inr (6, [.ref h4, .ref h10, .int x9, .int x10])), (h3, .inr (3, [.ref h11, .ref h12, .ref h13, .ref h14, .int x14, .int x15, .int x16])), (h4, .inl (gJ g, 48, .inr (.inl fm0)))] rfl ?_
              have gz87 := fb_rng z87
              have gz88 := fb_rngL z88
              have p93 : 0 ≤ (Int32.toInt r90) := w91.1
              have p94 : (Int32.toInt r90) ≤ 2 := w91.2.1
              have p95 : 0 ≤ (Int32.toInt z89) := w91.2.2.1
              have p96 : (Int32.toInt z89) ≤ 1 := w91.2.2.2.1
              have p97 : (((((Int32.toInt z89), z88), (Int32.toInt z87)), (Int32.toInt r90)) : WH × Int) = STM (NMF x16) (NMF x15) (PA fm0 (Int32.toInt x9)) (((Int32.toInt x8), y0), (Int32.toInt x2)) := w91.2.2.2.2.1
              have p98 : ((Int32.toInt x2) ≤ (Int32.toInt z87) ∧ (Int32.toInt z87) ≤ (Int32.toInt x2) + 24) := w91.2.2.2.2.2
              exact r_iret 112 Rt dX0_hintOrMove_112 (z87, z88, x5, x6, z89, x11, y1, y2, x13, fn0, fm1) (show 0 ≤ (Int32.toInt r90) ∧ (Int32.toInt r90) ≤ 7 ∧ 0 ≤ (Int32.toInt x5) ∧ (Int32.toInt x5) ≤ 1500 ∧ 0 ≤ (Int32.toInt x6) ∧ (Int32.toInt x6) ≤ 1 ∧ 0 ≤ (Int32.toInt z89) ∧ (Int32.toInt z89) ≤ 1 ∧ 0 ≤ (Int32.toInt x11) ∧ (Int32.toInt x11) ≤ 400 ∧ 0 ≤ (Int32.toInt x13) ∧ (Int32.toInt x13) ≤ 1 ∧ CEQ (((Int32.toInt z89), z88), (Int32.toInt z87)) ((Int32.toInt x5) - (Int32.toInt x3)) (PTS fn0 fm1 (Int32.toInt x11)) y1 y2 (Int32.toInt x13) (Int32.toInt x6) (Int32.toInt r90) (HMS (NMF x16) (NMF x15) (Int32.toInt x12) ((Int32.toInt x4) - (Int32.toInt x3)) (PA fm0 (Int32.toInt x9)) (Int32.toInt x0) ((((Int32.toInt x8), y0), (Int32.toInt x2)), ((Int32.toInt x5) - (Int32.toInt x3)), (PTS fn0 fm1 (Int32.toInt x11), y1, y2, (Int32.toInt x13)), (Int32.toInt x6))) ∧ ((Int32.toInt x2) ≤ (Int32.toInt z87) ∧ (Int32.toInt z87) ≤ (Int32.toInt x2) + 24) ∧ ((Int32.toInt x3) ≤ (Int32.toInt x5) ∧ (Int32.toInt x5) ≤ (Int32.toInt x4)) from ⟨(iv_wide (c := 0) (d := 7) ⟨p93, p94⟩ (by decide) (by decide)).1, (iv_wide (c := 0) (d := 7) ⟨p93, p94⟩ (by decide) (by decide)).2, i_x5.1, i_x5.2, i_x6.1, i_x6.2, (show _ ∧ _ from ⟨p95, p96⟩).1, (show _ ∧ _ from ⟨p95, p96⟩).2, i_x11.1, i_x11.2, i_x13.1, i_x13.2, (by exact hms_s (by omega) p97), (by ((repeat' apply And.intro) <;> first | trivial | rfl | assumption | omega | decide | exact Or.inl rfl | exact Or.inr (Or.inl rfl) | exact Or.inr (Or.inr rfl))), (by ((repeat' apply And.intro) <;> first | trivial | rfl | assumption | omega | decide | exact Or.inl rfl | exact Or.inr (Or.inl rfl) | exact Or.inr (Or.inr rfl)))⟩) [3, 4, 0, 5, 6, 1, 2] (by decide) rfl (Nat.le_of_ble_eq_true rfl) (Nat.le_of_ble_eq_true rfl)
            · skip
              have k99 : ¬ ((Int32.toInt x0) = 9) := fun h_9 => c85 ((fa_eq x0 9).mpr h_9)
              by_cases c100 : x0 = 10
              · skip
                have k101 : (Int32.toInt x0) = 10 := (fa_eq x0 10).mp c100
                refine r_tableIn 1 108 10 C dX0_hintOrMove_1 c100 (by decide) (by decide) rfl (by decide) ?_
                refine r_aload_n 108 0 C dX0_hintOrMove_108 rfl ?_
                refine r_callVi 109 C dX0_hintOrMove_109 [] [(h0, .inr (0, [.ref h1, .ref h2, .ref h3, .int x1, .int x2, .long y0, .int x3, .int x4, .int x5, .int x6, .ref h7, .ref h8, .ref h9, .int x7, .int x8])), (h1, .inr (6, [.ref h4, .ref h10, .int x9, .int x10])), (h3, .inr (3, [.ref h11, .ref h12, .ref h13, .ref h14, .int x14, .int x15, .int x16])), (h4, .inl (gJ g, 48, .inr (.inl fm0)))] [(h2, .inr (5, [.ref h5, .ref h6, .int x11, .int x12, .long y1, .long y2, .int x13])), (h5, .inl (gB g, 400, .inl fn0)), (h6, .inl (gJ g, 2400, .inr (.inl fm1)))] (fun sz => c292_X0_stems l g h0 h1 h3 h4 h2 x1 x2 y0 x3 x4 x5 x6 h7 h8 h9 x7 x8 h10 x9 x10 h11 h12 h13 h14 x14 x15 x16 fm0 i_x2 i_x3 i_x4 i_x5 i_x6 i_x7 i_x8 i_x9 i_x10 sz) gX0_hintOrMove_X0_stems rfl ⟨rfl, rfl⟩ 0 (by decide) ⟨Nat.le_of_ble_eq_true rfl, Nat.le_of_ble_eq_true rfl⟩ 0 rfl rfl [0, 1, 3, 4] [2, 5, 6] rfl rfl (by decide) (by decide) (by decide) rfl rfl (Nat.le_of_ble_eq_true rfl) ⟨Nat.le_of_ble_eq_true rfl, Nat.le_of_ble_eq_true rfl⟩ (fun r105 u107 w106 => ?_)
                obtain ⟨z102, z103, z104⟩ := u107
                refine r_ws [(h2, .inr (5, [.ref h5, .ref h6, .int x11, .int x12, .long y1, .long y2, .int x13])), (h5, .inl (gB g, 400, .inl fn0)), (h6, .inl (gJ g, 2400, .inr (.inl fm1))), (h0, .inr (0, [.ref h1, .ref h2, .ref h3, .int x1, .int z102, .long z103, .int x3, .int x4, .int x5, .int x6, .ref h7, .ref h8, .ref h9, .int x7, .int z104])), (h1, .inr (6, [.ref h4, .ref h10, .int x9, .int x10])), (h3, .inr (3, [.ref h11, .ref h12, .ref h13, .ref h14, .int x14, .int x15, .int x16])), (h4, .inl (gJ g, 48, .inr (.inl fm0)))] rfl ?_
                have gz102 := fb_rng z102
                have gz103 := fb_rngL z103
                have p108 : 0 ≤ (Int32.toInt r105) := w106.1
                have p109 : (Int32.toInt r105) ≤ 2 := w106.2.1
                have p110 : 0 ≤ (Int32.toInt z104) := w106.2.2.1
                have p111 : (Int32.toInt z104) ≤ 1 := w106.2.2.2.1
                have p112 : (((((Int32.toInt z104), z103), (Int32.toInt z102)), (Int32.toInt r105)) : WH × Int) = STM (NMF x16) (NMF x15) (PA fm0 (Int32.toInt x9)) (((Int32.toInt x8), y0), (Int32.toInt x2)) := w106.2.2.2.2.1
                have p113 : ((Int32.toInt x2) ≤ (Int32.toInt z102) ∧ (Int32.toInt z102) ≤ (Int32.toInt x2) + 24) := w106.2.2.2.2.2
                exact r_iret 112 Rt dX0_hintOrMove_112 (z102, z103, x5, x6, z104, x11, y1, y2, x13, fn0, fm1) (show 0 ≤ (Int32.toInt r105) ∧ (Int32.toInt r105) ≤ 7 ∧ 0 ≤ (Int32.toInt x5) ∧ (Int32.toInt x5) ≤ 1500 ∧ 0 ≤ (Int32.toInt x6) ∧ (Int32.toInt x6) ≤ 1 ∧ 0 ≤ (Int32.toInt z104) ∧ (Int32.toInt z104) ≤ 1 ∧ 0 ≤ (Int32.toInt x11) ∧ (Int32.toInt x11) ≤ 400 ∧ 0 ≤ (Int32.toInt x13) ∧ (Int32.toInt x13) ≤ 1 ∧ CEQ (((Int32.toInt z104), z103), (Int32.toInt z102)) ((Int32.toInt x5) - (Int32.toInt x3)) (PTS fn0 fm1 (Int32.toInt x11)) y1 y2 (Int32.toInt x13) (Int32.toInt x6) (Int32.toInt r105) (HMS (NMF x16) (NMF x15) (Int32.toInt x12) ((Int32.toInt x4) - (Int32.toInt x3)) (PA fm0 (Int32.toInt x9)) (Int32.toInt x0) ((((Int32.toInt x8), y0), (Int32.toInt x2)), ((Int32.toInt x5) - (Int32.toInt x3)), (PTS fn0 fm1 (Int32.toInt x11), y1, y2, (Int32.toInt x13)), (Int32.toInt x6))) ∧ ((Int32.toInt x2) ≤ (Int32.toInt z102) ∧ (Int32.toInt z102) ≤ (Int32.toInt x2) + 24) ∧ ((Int32.toInt x3) ≤ (Int32.toInt x5) ∧ (Int32.toInt x5) ≤ (Int32.toInt x4)) from ⟨(iv_wide (c := 0) (d := 7) ⟨p108, p109⟩ (by decide) (by decide)).1, (iv_wide (c := 0) (d := 7) ⟨p108, p109⟩ (by decide) (by decide)).2, i_x5.1, i_x5.2, i_x6.1, i_x6.2, (show _ ∧ _ from ⟨p110, p111⟩).1, (show _ ∧ _ from ⟨p110, p111⟩).2, i_x11.1, i_x11.2, i_x13.1, i_x13.2, (by exact hms_s (by omega) p112), (by ((repeat' apply And.intro) <;> first | trivial | rfl | assumption | omega | decide | exact Or.inl rfl | exact Or.inr (Or.inl rfl) | exact Or.inr (Or.inr rfl))), (by ((repeat' apply And.intro) <;> first | trivial | rfl | assumption | omega | decide | exact Or.inl rfl | exact Or.inr (Or.inl rfl) | exact Or.inr (Or.inr rfl)))⟩) [3, 4, 0, 5, 6, 1, 2] (by decide) rfl (Nat.le_of_ble_eq_true rfl) (Nat.le_of_ble_eq_true rfl)
              · skip
                have k114 : ¬ ((Int32.toInt x0) = 10) := fun h_9 => c100 ((fa_eq x0 10).mpr h_9)
                by_cases c115 : x0 = 11
                · skip
                  have k116 : (Int32.toInt x0) = 11 := (fa_eq x0 11).mp c115
                  refine r_tableIn 1 108 11 C dX0_hintOrMove_1 c115 (by decide) (by decide) rfl (by decide) ?_
                  refine r_aload_n 108 0 C dX0_hintOrMove_108 rfl ?_
                  refine r_callVi 109 C dX0_hintOrMove_109 [] [(h0, .inr (0, [.ref h1, .ref h2, .ref h3, .int x1, .int x2, .long y0, .int x3, .int x4, .int x5, .int x6, .ref h7, .ref h8, .ref h9, .int x7, .int x8])), (h1, .inr (6, [.ref h4, .ref h10, .int x9, .int x10])), (h3, .inr (3, [.ref h11, .ref h12, .ref h13, .ref h14, .int x14, .int x15, .int x16])), (h4, .inl (gJ g, 48, .inr (.inl fm0)))] [(h2, .inr (5, [.ref h5, .ref h6, .int x11, .int x12, .long y1, .long y2, .int x13])), (h5, .inl (gB g, 400, .inl fn0)), (h6, .inl (gJ g, 2400, .inr (.inl fm1)))] (fun sz => c292_X0_stems l g h0 h1 h3 h4 h2 x1 x2 y0 x3 x4 x5 x6 h7 h8 h9 x7 x8 h10 x9 x10 h11 h12 h13 h14 x14 x15 x16 fm0 i_x2 i_x3 i_x4 i_x5 i_x6 i_x7 i_x8 i_x9 i_x10 sz) gX0_hintOrMove_X0_stems rfl ⟨rfl, rfl⟩ 0 (by decide) ⟨Nat.le_of_ble_eq_true rfl, Nat.le_of_ble_eq_true rfl⟩ 0 rfl rfl [0, 1, 3, 4] [2, 5, 6] rfl rfl (by decide) (by decide) (by decide) rfl rfl (Nat.le_of_ble_eq_true rfl) ⟨Nat.le_of_ble_eq_true rfl, Nat.le_of_ble_eq_true rfl⟩ (fun r120 u122 w121 => ?_)
                  obtain ⟨z117, z118, z119⟩ := u122
                  refine r_ws [(h2, .inr (5, [.ref h5, .ref h6, .int x11, .int x12, .long y1, .long y2, .int x13])), (h5, .inl (gB g, 400, .inl fn0)), (h6, .inl (gJ g, 2400, .inr (.inl fm1))), (h0, .inr (0, [.ref h1, .ref h2, .ref h3, .int x1, .int z117, .long z118, .int x3, .int x4, .int x5, .int x6, .ref h7, .ref h8, .ref h9, .int x7, .int z119])), (h1, .inr (6, [.ref h4, .ref h10, .int x9, .int x10])), (h3, .inr (3, [.ref h11, .ref h12, .ref h13, .ref h14, .int x14, .int x15, .int x16])), (h4, .inl (gJ g, 48, .inr (.inl fm0)))] rfl ?_
                  have gz117 := fb_rng z117
                  have gz118 := fb_rngL z118
                  have p123 : 0 ≤ (Int32.toInt r120) := w121.1
                  have p124 : (Int32.toInt r120) ≤ 2 := w121.2.1
                  have p125 : 0 ≤ (Int32.toInt z119) := w121.2.2.1
                  have p126 : (Int32.toInt z119) ≤ 1 := w121.2.2.2.1
                  have p127 : (((((Int32.toInt z119), z118), (Int32.toInt z117)), (Int32.toInt r120)) : WH × Int) = STM (NMF x16) (NMF x15) (PA fm0 (Int32.toInt x9)) (((Int32.toInt x8), y0), (Int32.toInt x2)) := w121.2.2.2.2.1
                  have p128 : ((Int32.toInt x2) ≤ (Int32.toInt z117) ∧ (Int32.toInt z117) ≤ (Int32.toInt x2) + 24) := w121.2.2.2.2.2
                  exact r_iret 112 Rt dX0_hintOrMove_112 (z117, z118, x5, x6, z119, x11, y1, y2, x13, fn0, fm1) (show 0 ≤ (Int32.toInt r120) ∧ (Int32.toInt r120) ≤ 7 ∧ 0 ≤ (Int32.toInt x5) ∧ (Int32.toInt x5) ≤ 1500 ∧ 0 ≤ (Int32.toInt x6) ∧ (Int32.toInt x6) ≤ 1 ∧ 0 ≤ (Int32.toInt z119) ∧ (Int32.toInt z119) ≤ 1 ∧ 0 ≤ (Int32.toInt x11) ∧ (Int32.toInt x11) ≤ 400 ∧ 0 ≤ (Int32.toInt x13) ∧ (Int32.toInt x13) ≤ 1 ∧ CEQ (((Int32.toInt z119), z118), (Int32.toInt z117)) ((Int32.toInt x5) - (Int32.toInt x3)) (PTS fn0 fm1 (Int32.toInt x11)) y1 y2 (Int32.toInt x13) (Int32.toInt x6) (Int32.toInt r120) (HMS (NMF x16) (NMF x15) (Int32.toInt x12) ((Int32.toInt x4) - (Int32.toInt x3)) (PA fm0 (Int32.toInt x9)) (Int32.toInt x0) ((((Int32.toInt x8), y0), (Int32.toInt x2)), ((Int32.toInt x5) - (Int32.toInt x3)), (PTS fn0 fm1 (Int32.toInt x11), y1, y2, (Int32.toInt x13)), (Int32.toInt x6))) ∧ ((Int32.toInt x2) ≤ (Int32.toInt z117) ∧ (Int32.toInt z117) ≤ (Int32.toInt x2) + 24) ∧ ((Int32.toInt x3) ≤ (Int32.toInt x5) ∧ (Int32.toInt x5) ≤ (Int32.toInt x4)) from ⟨(iv_wide (c := 0) (d := 7) ⟨p123, p124⟩ (by decide) (by decide)).1, (iv_wide (c := 0) (d := 7) ⟨p123, p124⟩ (by decide) (by decide)).2, i_x5.1, i_x5.2, i_x6.1, i_x6.2, (show _ ∧ _ from ⟨p125, p126⟩).1, (show _ ∧ _ from ⟨p125, p126⟩).2, i_x11.1, i_x11.2, i_x13.1, i_x13.2, (by exact hms_s (by omega) p127), (by ((repeat' apply And.intro) <;> first | trivial | rfl | assumption | omega | decide | exact Or.inl rfl | exact Or.inr (Or.inl rfl) | exact Or.inr (Or.inr rfl))), (by ((repeat' apply And.intro) <;> first | trivial | rfl | assumption | omega | decide | exact Or.inl rfl | exact Or.inr (Or.inl rfl) | exact Or.inr (Or.inr rfl)))⟩) [3, 4, 0, 5, 6, 1, 2] (by decide) rfl (Nat.le_of_ble_eq_true rfl) (Nat.le_of_ble_eq_true rfl)
                · skip
                  have k129 : ¬ ((Int32.toInt x0) = 11) := fun h_9 => c115 ((fa_eq x0 11).mpr h_9)
                  by_cases c130 : x0 = 12
                  · skip
                    have k131 : (Int32.toInt x0) = 12 := (fa_eq x0 12).mp c130
                    refine r_tableIn 1 108 12 C dX0_hintOrMove_1 c130 (by decide) (by decide) rfl (by decide) ?_
                    refine r_aload_n 108 0 C dX0_hintOrMove_108 rfl ?_
                    refine r_callVi 109 C dX0_hintOrMove_109 [] [(h0, .inr (0, [.ref h1, .ref h2, .ref h3, .int x1, .int x2, .long y0, .int x3, .int x4, .int x5, .int x6, .ref h7, .ref h8, .ref h9, .int x7, .int x8])), (h1, .inr (6, [.ref h4, .ref h10, .int x9, .int x10])), (h3, .inr (3, [.ref h11, .ref h12, .ref h13, .ref h14, .int x14, .int x15, .int x16])), (h4, .inl (gJ g, 48, .inr (.inl fm0)))] [(h2, .inr (5, [.ref h5, .ref h6, .int x11, .int x12, .long y1, .long y2, .int x13])), (h5, .inl (gB g, 400, .inl fn0)), (h6, .inl (gJ g, 2400, .inr (.inl fm1)))] (fun sz => c292_X0_stems l g h0 h1 h3 h4 h2 x1 x2 y0 x3 x4 x5 x6 h7 h8 h9 x7 x8 h10 x9 x10 h11 h12 h13 h14 x14 x15 x16 fm0 i_x2 i_x3 i_x4 i_x5 i_x6 i_x7 i_x8 i_x9 i_x10 sz) gX0_hintOrMove_X0_stems rfl ⟨rfl, rfl⟩ 0 (by decide) ⟨Nat.le_of_ble_eq_true rfl, Nat.le_of_ble_eq_true rfl⟩ 0 rfl rfl [0, 1, 3, 4] [2, 5, 6] rfl rfl (by decide) (by decide) (by decide) rfl rfl (Nat.le_of_ble_eq_true rfl) ⟨Nat.le_of_ble_eq_true rfl, Nat.le_of_ble_eq_true rfl⟩ (fun r135 u137 w136 => ?_)
                    obtain ⟨z132, z133, z134⟩ := u137
                    refine r_ws [(h2, .inr (5, [.ref h5, .ref h6, .int x11, .int x12, .long y1, .long y2, .int x13])), (h5, .inl (gB g, 400, .inl fn0)), (h6, .inl (gJ g, 2400, .inr (.inl fm1))), (h0, .inr (0, [.ref h1, .ref h2, .ref h3, .int x1, .int z132, .long z133, .int x3, .int x4, .int x5, .int x6, .ref h7, .ref h8, .ref h9, .int x7, .int z134])), (h1, .inr (6, [.ref h4, .ref h10, .int x9, .int x10])), (h3, .inr (3, [.ref h11, .ref h12, .ref h13, .ref h14, .int x14, .int x15, .int x16])), (h4, .inl (gJ g, 48, .inr (.inl fm0)))] rfl ?_
                    have gz132 := fb_rng z132
                    have gz133 := fb_rngL z133
                    have p138 : 0 ≤ (Int32.toInt r135) := w136.1
                    have p139 : (Int32.toInt r135) ≤ 2 := w136.2.1
                    have p140 : 0 ≤ (Int32.toInt z134) := w136.2.2.1
                    have p141 : (Int32.toInt z134) ≤ 1 := w136.2.2.2.1
                    have p142 : (((((Int32.toInt z134), z133), (Int32.toInt z132)), (Int32.toInt r135)) : WH × Int) = STM (NMF x16) (NMF x15) (PA fm0 (Int32.toInt x9)) (((Int32.toInt x8), y0), (Int32.toInt x2)) := w136.2.2.2.2.1
                    have p143 : ((Int32.toInt x2) ≤ (Int32.toInt z132) ∧ (Int32.toInt z132) ≤ (Int32.toInt x2) + 24) := w136.2.2.2.2.2
                    exact r_iret 112 Rt dX0_hintOrMove_112 (z132, z133, x5, x6, z134, x11, y1, y2, x13, fn0, fm1) (show 0 ≤ (Int32.toInt r135) ∧ (Int32.toInt r135) ≤ 7 ∧ 0 ≤ (Int32.toInt x5) ∧ (Int32.toInt x5) ≤ 1500 ∧ 0 ≤ (Int32.toInt x6) ∧ (Int32.toInt x6) ≤ 1 ∧ 0 ≤ (Int32.toInt z134) ∧ (Int32.toInt z134) ≤ 1 ∧ 0 ≤ (Int32.toInt x11) ∧ (Int32.toInt x11) ≤ 400 ∧ 0 ≤ (Int32.toInt x13) ∧ (Int32.toInt x13) ≤ 1 ∧ CEQ (((Int32.toInt z134), z133), (Int32.toInt z132)) ((Int32.toInt x5) - (Int32.toInt x3)) (PTS fn0 fm1 (Int32.toInt x11)) y1 y2 (Int32.toInt x13) (Int32.toInt x6) (Int32.toInt r135) (HMS (NMF x16) (NMF x15) (Int32.toInt x12) ((Int32.toInt x4) - (Int32.toInt x3)) (PA fm0 (Int32.toInt x9)) (Int32.toInt x0) ((((Int32.toInt x8), y0), (Int32.toInt x2)), ((Int32.toInt x5) - (Int32.toInt x3)), (PTS fn0 fm1 (Int32.toInt x11), y1, y2, (Int32.toInt x13)), (Int32.toInt x6))) ∧ ((Int32.toInt x2) ≤ (Int32.toInt z132) ∧ (Int32.toInt z132) ≤ (Int32.toInt x2) + 24) ∧ ((Int32.toInt x3) ≤ (Int32.toInt x5) ∧ (Int32.toInt x5) ≤ (Int32.toInt x4)) from ⟨(iv_wide (c := 0) (d := 7) ⟨p138, p139⟩ (by decide) (by decide)).1, (iv_wide (c := 0) (d := 7) ⟨p138, p139⟩ (by decide) (by decide)).2, i_x5.1, i_x5.2, i_x6.1, i_x6.2, (show _ ∧ _ from ⟨p140, p141⟩).1, (show _ ∧ _ from ⟨p140, p141⟩).2, i_x11.1, i_x11.2, i_x13.1, i_x13.2, (by exact hms_s (by omega) p142), (by ((repeat' apply And.intro) <;> first | trivial | rfl | assumption | omega | decide | exact Or.inl rfl | exact Or.inr (Or.inl rfl) | exact Or.inr (Or.inr rfl))), (by ((repeat' apply And.intro) <;> first | trivial | rfl | assumption | omega | decide | exact Or.inl rfl | exact Or.inr (Or.inl rfl) | exact Or.inr (Or.inr rfl)))⟩) [3, 4, 0, 5, 6, 1, 2] (by decide) rfl (Nat.le_of_ble_eq_true rfl) (Nat.le_of_ble_eq_true rfl)
                  · skip
                    have k144 : ¬ ((Int32.toInt x0) = 12) := fun h_9 => c130 ((fa_eq x0 12).mpr h_9)
                    by_cases c145 : x0 = 13
                    · skip
                      have k146 : (Int32.toInt x0) = 13 := (fa_eq x0 13).mp c145
                      refine r_tableIn 1 108 13 C dX0_hintOrMove_1 c145 (by decide) (by decide) rfl (by decide) ?_
                      refine r_aload_n 108 0 C dX0_hintOrMove_108 rfl ?_
                      refine r_callVi 109 C dX0_hintOrMove_109 [] [(h0, .inr (0, [.ref h1, .ref h2, .ref h3, .int x1, .int x2, .long y0, .int x3, .int x4, .int x5, .int x6, .ref h7, .ref h8, .ref h9, .int x7, .int x8])), (h1, .inr (6, [.ref h4, .ref h10, .int x9, .int x10])), (h3, .inr (3, [.ref h11, .ref h12, .ref h13, .ref h14, .int x14, .int x15, .int x16])), (h4, .inl (gJ g, 48, .inr (.inl fm0)))] [(h2, .inr (5, [.ref h5, .ref h6, .int x11, .int x12, .long y1, .long y2, .int x13])), (h5, .inl (gB g, 400, .inl fn0)), (h6, .inl (gJ g, 2400, .inr (.inl fm1)))] (fun sz => c292_X0_stems l g h0 h1 h3 h4 h2 x1 x2 y0 x3 x4 x5 x6 h7 h8 h9 x7 x8 h10 x9 x10 h11 h12 h13 h14 x14 x15 x16 fm0 i_x2 i_x3 i_x4 i_x5 i_x6 i_x7 i_x8 i_x9 i_x10 sz) gX0_hintOrMove_X0_stems rfl ⟨rfl, rfl⟩ 0 (by decide) ⟨Nat.le_of_ble_eq_true rfl, Nat.le_of_ble_eq_true rfl⟩ 0 rfl rfl [0, 1, 3, 4] [2, 5, 6] rfl rfl (by decide) (by decide) (by decide) rfl rfl (Nat.le_of_ble_eq_true rfl) ⟨Nat.le_of_ble_eq_true rfl, Nat.le_of_ble_eq_true rfl⟩ (fun r150 u152 w151 => ?_)
                      obtain ⟨z147, z148, z149⟩ := u152
                      refine r_ws [(h2, .inr (5, [.ref h5, .ref h6, .int x11, .int x12, .long y1, .long y2, .int x13])), (h5, .inl (gB g, 400, .inl fn0)), (h6, .inl (gJ g, 2400, .inr (.inl fm1))), (h0, .inr (0, [.ref h1, .ref h2, .ref h3, .int x1, .int z147, .long z148, .int x3, .int x4, .int x5, .int x6, .ref h7, .ref h8, .ref h9, .int x7, .int z149])), (h1, .inr (6, [.ref h4, .ref h10, .int x9, .int x10])), (h3, .inr (3, [.ref h11, .ref h12, .ref h13, .ref h14, .int x14, .int x15, .int x16])), (h4, .inl (gJ g, 48, .inr (.inl fm0)))] rfl ?_
                      have gz147 := fb_rng z147
                      have gz148 := fb_rngL z148
                      have p153 : 0 ≤ (Int32.toInt r150) := w151.1
                      have p154 : (Int32.toInt r150) ≤ 2 := w151.2.1
                      have p155 : 0 ≤ (Int32.toInt z149) := w151.2.2.1
                      have p156 : (Int32.toInt z149) ≤ 1 := w151.2.2.2.1
                      have p157 : (((((Int32.toInt z149), z148), (Int32.toInt z147)), (Int32.toInt r150)) : WH × Int) = STM (NMF x16) (NMF x15) (PA fm0 (Int32.toInt x9)) (((Int32.toInt x8), y0), (Int32.toInt x2)) := w151.2.2.2.2.1
                      have p158 : ((Int32.toInt x2) ≤ (Int32.toInt z147) ∧ (Int32.toInt z147) ≤ (Int32.toInt x2) + 24) := w151.2.2.2.2.2
                      exact r_iret 112 Rt dX0_hintOrMove_112 (z147, z148, x5, x6, z149, x11, y1, y2, x13, fn0, fm1) (show 0 ≤ (Int32.toInt r150) ∧ (Int32.toInt r150) ≤ 7 ∧ 0 ≤ (Int32.toInt x5) ∧ (Int32.toInt x5) ≤ 1500 ∧ 0 ≤ (Int32.toInt x6) ∧ (Int32.toInt x6) ≤ 1 ∧ 0 ≤ (Int32.toInt z149) ∧ (Int32.toInt z149) ≤ 1 ∧ 0 ≤ (Int32.toInt x11) ∧ (Int32.toInt x11) ≤ 400 ∧ 0 ≤ (Int32.toInt x13) ∧ (Int32.toInt x13) ≤ 1 ∧ CEQ (((Int32.toInt z149), z148), (Int32.toInt z147)) ((Int32.toInt x5) - (Int32.toInt x3)) (PTS fn0 fm1 (Int32.toInt x11)) y1 y2 (Int32.toInt x13) (Int32.toInt x6) (Int32.toInt r150) (HMS (NMF x16) (NMF x15) (Int32.toInt x12) ((Int32.toInt x4) - (Int32.toInt x3)) (PA fm0 (Int32.toInt x9)) (Int32.toInt x0) ((((Int32.toInt x8), y0), (Int32.toInt x2)), ((Int32.toInt x5) - (Int32.toInt x3)), (PTS fn0 fm1 (Int32.toInt x11), y1, y2, (Int32.toInt x13)), (Int32.toInt x6))) ∧ ((Int32.toInt x2) ≤ (Int32.toInt z147) ∧ (Int32.toInt z147) ≤ (Int32.toInt x2) + 24) ∧ ((Int32.toInt x3) ≤ (Int32.toInt x5) ∧ (Int32.toInt x5) ≤ (Int32.toInt x4)) from ⟨(iv_wide (c := 0) (d := 7) ⟨p153, p154⟩ (by decide) (by decide)).1, (iv_wide (c := 0) (d := 7) ⟨p153, p154⟩ (by decide) (by decide)).2, i_x5.1, i_x5.2, i_x6.1, i_x6.2, (show _ ∧ _ from ⟨p155, p156⟩).1, (show _ ∧ _ from ⟨p155, p156⟩).2, i_x11.1, i_x11.2, i_x13.1, i_x13.2, (by exact hms_s (by omega) p157), (by ((repeat' apply And.intro) <;> first | trivial | rfl | assumption | omega | decide | exact Or.inl rfl | exact Or.inr (Or.inl rfl) | exact Or.inr (Or.inr rfl))), (by ((repeat' apply And.intro) <;> first | trivial | rfl | assumption | omega | decide | exact Or.inl rfl | exact Or.inr (Or.inl rfl) | exact Or.inr (Or.inr rfl)))⟩) [3, 4, 0, 5, 6, 1, 2] (by decide) rfl (Nat.le_of_ble_eq_true rfl) (Nat.le_of_ble_eq_true rfl)
                    · skip
                      have k159 : ¬ ((Int32.toInt x0) = 13) := fun h_9 => c145 ((fa_eq x0 13).mpr h_9)
                      by_cases c160 : x0 = 14
                      · skip
                        have k161 : (Int32.toInt x0) = 14 := (fa_eq x0 14).mp c160
                        refine r_tableIn 1 103 14 C dX0_hintOrMove_1 c160 (by decide) (by decide) rfl (by decide) ?_
                        refine r_aload_n 103 0 C dX0_hintOrMove_103 rfl ?_
                        refine r_callVi 104 C dX0_hintOrMove_104 [] [(h0, .inr (0, [.ref h1, .ref h2, .ref h3, .int x1, .int x2, .long y0, .int x3, .int x4, .int x5, .int x6, .ref h7, .ref h8, .ref h9, .int x7, .int x8])), (h1, .inr (6, [.ref h4, .ref h10, .int x9, .int x10])), (h2, .inr (5, [.ref h5, .ref h6, .int x11, .int x12, .long y1, .long y2, .int x13])), (h3, .inr (3, [.ref h11, .ref h12, .ref h13, .ref h14, .int x14, .int x15, .int x16])), (h4, .inl (gJ g, 48, .inr (.inl fm0))), (h5, .inl (gB g, 400, .inl fn0)), (h6, .inl (gJ g, 2400, .inr (.inl fm1)))] [] (fun sz => c294_X0_endLetter l g h0 h1 h2 h3 h4 h5 h6 x1 x2 y0 x3 x4 x5 x6 h7 h8 h9 x7 x8 h10 x9 x10 x11 x12 y1 y2 x13 h11 h12 h13 h14 x14 x15 x16 fm0 fn0 fm1 i_x3 i_x4 i_x5 i_x6 i_x7 i_x8 i_x9 i_x10 i_x11 i_x12 i_x13 sz) gX0_hintOrMove_X0_endLetter rfl ⟨rfl, rfl⟩ 0 (by decide) ⟨Nat.le_of_ble_eq_true rfl, Nat.le_of_ble_eq_true rfl⟩ 0 rfl rfl [0, 1, 2, 3, 4, 5, 6] [] rfl rfl (by decide) (by decide) (by decide) rfl rfl (Nat.le_of_ble_eq_true rfl) ⟨Nat.le_of_ble_eq_true rfl, Nat.le_of_ble_eq_true rfl⟩ (fun r168 u170 w169 => ?_)
                        obtain ⟨z162, z163, z164, z165, f166, f167⟩ := u170
                        refine r_ws [(h0, .inr (0, [.ref h1, .ref h2, .ref h3, .int x1, .int x2, .long z162, .int x3, .int x4, .int x5, .int z163, .ref h7, .ref h8, .ref h9, .int x7, .int z164])), (h1, .inr (6, [.ref h4, .ref h10, .int x9, .int x10])), (h2, .inr (5, [.ref h5, .ref h6, .int z165, .int x12, .long y1, .long y2, .int x13])), (h3, .inr (3, [.ref h11, .ref h12, .ref h13, .ref h14, .int x14, .int x15, .int x16])), (h4, .inl (gJ g, 48, .inr (.inl fm0))), (h5, .inl (gB g, 400, .inl f166)), (h6, .inl (gJ g, 2400, .inr (.inl f167)))] rfl ?_
                        have gz162 := fb_rngL z162
                        have p171 : 0 ≤ (Int32.toInt r168) := w169.1
                        have p172 : (Int32.toInt r168) ≤ 6 := w169.2.1
                        have p173 : 0 ≤ (Int32.toInt z163) := w169.2.2.1
                        have p174 : (Int32.toInt z163) ≤ 1 := w169.2.2.2.1
                        have p175 : 0 ≤ (Int32.toInt z164) := w169.2.2.2.2.1
                        have p176 : (Int32.toInt z164) ≤ 1 := w169.2.2.2.2.2.1
                        have p177 : 0 ≤ (Int32.toInt z165) := w169.2.2.2.2.2.2.1
                        have p178 : (Int32.toInt z165) ≤ 400 := w169.2.2.2.2.2.2.2.1
                        have p179 : (((Int32.toInt z164), z162) : Int × Int64) = ENW (NMF x16) (NMF x15) (PA fm0 (Int32.toInt x9)) ((Int32.toInt x8), y0) := w169.2.2.2.2.2.2.2.2.1
                        have p180 : OEQ (PTS f166 f167 (Int32.toInt z165)) y1 y2 (Int32.toInt x13) (Int32.toInt r168) (ENO (Int32.toInt x12) (PA fm0 (Int32.toInt x9)) (Int32.toInt x8) (PTS fn0 fm1 (Int32.toInt x11), y1, y2, (Int32.toInt x13))) := w169.2.2.2.2.2.2.2.2.2.1
                        have p181 : (((Int32.toInt r168) = 0 ∧ (Int32.toInt z163) = 1) ∨ (¬ ((Int32.toInt r168) = 0) ∧ (Int32.toInt z163) = (Int32.toInt x6))) := w169.2.2.2.2.2.2.2.2.2.2
                        exact r_iret 107 Rt dX0_hintOrMove_107 (x2, z162, x5, z163, z164, z165, y1, y2, x13, f166, f167) (show 0 ≤ (Int32.toInt r168) ∧ (Int32.toInt r168) ≤ 7 ∧ 0 ≤ (Int32.toInt x5) ∧ (Int32.toInt x5) ≤ 1500 ∧ 0 ≤ (Int32.toInt z163) ∧ (Int32.toInt z163) ≤ 1 ∧ 0 ≤ (Int32.toInt z164) ∧ (Int32.toInt z164) ≤ 1 ∧ 0 ≤ (Int32.toInt z165) ∧ (Int32.toInt z165) ≤ 400 ∧ 0 ≤ (Int32.toInt x13) ∧ (Int32.toInt x13) ≤ 1 ∧ CEQ (((Int32.toInt z164), z162), (Int32.toInt x2)) ((Int32.toInt x5) - (Int32.toInt x3)) (PTS f166 f167 (Int32.toInt z165)) y1 y2 (Int32.toInt x13) (Int32.toInt z163) (Int32.toInt r168) (HMS (NMF x16) (NMF x15) (Int32.toInt x12) ((Int32.toInt x4) - (Int32.toInt x3)) (PA fm0 (Int32.toInt x9)) (Int32.toInt x0) ((((Int32.toInt x8), y0), (Int32.toInt x2)), ((Int32.toInt x5) - (Int32.toInt x3)), (PTS fn0 fm1 (Int32.toInt x11), y1, y2, (Int32.toInt x13)), (Int32.toInt x6))) ∧ ((Int32.toInt x2) ≤ (Int32.toInt x2) ∧ (Int32.toInt x2) ≤ (Int32.toInt x2) + 24) ∧ ((Int32.toInt x3) ≤ (Int32.toInt x5) ∧ (Int32.toInt x5) ≤ (Int32.toInt x4)) from ⟨(iv_wide (c := 0) (d := 7) ⟨p171, p172⟩ (by decide) (by decide)).1, (iv_wide (c := 0) (d := 7) ⟨p171, p172⟩ (by decide) (by decide)).2, i_x5.1, i_x5.2, (show _ ∧ _ from ⟨p173, p174⟩).1, (show _ ∧ _ from ⟨p173, p174⟩).2, (show _ ∧ _ from ⟨p175, p176⟩).1, (show _ ∧ _ from ⟨p175, p176⟩).2, (show _ ∧ _ from ⟨p177, p178⟩).1, (show _ ∧ _ from ⟨p177, p178⟩).2, i_x13.1, i_x13.2, (by exact hms_e (by omega) p179 p180 (by omega)), (by ((repeat' apply And.intro) <;> first | trivial | rfl | assumption | omega | decide | exact Or.inl rfl | exact Or.inr (Or.inl rfl) | exact Or.inr (Or.inr rfl))), (by ((repeat' apply And.intro) <;> first | trivial | rfl | assumption | omega | decide | exact Or.inl rfl | exact Or.inr (Or.inl rfl) | exact Or.inr (Or.inr rfl)))⟩) [0, 1, 2, 3, 4, 5, 6] (by decide) rfl (Nat.le_of_ble_eq_true rfl) (Nat.le_of_ble_eq_true rfl)
                      · skip
                        have k182 : ¬ ((Int32.toInt x0) = 14) := fun h_9 => c160 ((fa_eq x0 14).mpr h_9)
                        by_cases c183 : x0 = 15
                        · skip
                          have k184 : (Int32.toInt x0) = 15 := (fa_eq x0 15).mp c183
                          refine r_tableIn 1 108 15 C dX0_hintOrMove_1 c183 (by decide) (by decide) rfl (by decide) ?_
                          refine r_aload_n 108 0 C dX0_hintOrMove_108 rfl ?_
                          refine r_callVi 109 C dX0_hintOrMove_109 [] [(h0, .inr (0, [.ref h1, .ref h2, .ref h3, .int x1, .int x2, .long y0, .int x3, .int x4, .int x5, .int x6, .ref h7, .ref h8, .ref h9, .int x7, .int x8])), (h1, .inr (6, [.ref h4, .ref h10, .int x9, .int x10])), (h3, .inr (3, [.ref h11, .ref h12, .ref h13, .ref h14, .int x14, .int x15, .int x16])), (h4, .inl (gJ g, 48, .inr (.inl fm0)))] [(h2, .inr (5, [.ref h5, .ref h6, .int x11, .int x12, .long y1, .long y2, .int x13])), (h5, .inl (gB g, 400, .inl fn0)), (h6, .inl (gJ g, 2400, .inr (.inl fm1)))] (fun sz => c292_X0_stems l g h0 h1 h3 h4 h2 x1 x2 y0 x3 x4 x5 x6 h7 h8 h9 x7 x8 h10 x9 x10 h11 h12 h13 h14 x14 x15 x16 fm0 i_x2 i_x3 i_x4 i_x5 i_x6 i_x7 i_x8 i_x9 i_x10 sz) gX0_hintOrMove_X0_stems rfl ⟨rfl, rfl⟩ 0 (by decide) ⟨Nat.le_of_ble_eq_true rfl, Nat.le_of_ble_eq_true rfl⟩ 0 rfl rfl [0, 1, 3, 4] [2, 5, 6] rfl rfl (by decide) (by decide) (by decide) rfl rfl (Nat.le_of_ble_eq_true rfl) ⟨Nat.le_of_ble_eq_true rfl, Nat.le_of_ble_eq_true rfl⟩ (fun r188 u190 w189 => ?_)
                          obtain ⟨z185, z186, z187⟩ := u190
                          refine r_ws [(h2, .inr (5, [.ref h5, .ref h6, .int x11, .int x12, .long y1, .long y2, .int x13])), (h5, .inl (gB g, 400, .inl fn0)), (h6, .inl (gJ g, 2400, .inr (.inl fm1))), (h0, .inr (0, [.ref h1, .ref h2, .ref h3, .int x1, .int z185, .long z186, .int x3, .int x4, .int x5, .int x6, .ref h7, .ref h8, .ref h9, .int x7, .int z187])), (h1, .inr (6, [.ref h4, .ref h10, .int x9, .int x10])), (h3, .inr (3, [.ref h11, .ref h12, .ref h13, .ref h14, .int x14, .int x15, .int x16])), (h4, .inl (gJ g, 48, .inr (.inl fm0)))] rfl ?_
                          have gz185 := fb_rng z185
                          have gz186 := fb_rngL z186
                          have p191 : 0 ≤ (Int32.toInt r188) := w189.1
                          have p192 : (Int32.toInt r188) ≤ 2 := w189.2.1
                          have p193 : 0 ≤ (Int32.toInt z187) := w189.2.2.1
                          have p194 : (Int32.toInt z187) ≤ 1 := w189.2.2.2.1
                          have p195 : (((((Int32.toInt z187), z186), (Int32.toInt z185)), (Int32.toInt r188)) : WH × Int) = STM (NMF x16) (NMF x15) (PA fm0 (Int32.toInt x9)) (((Int32.toInt x8), y0), (Int32.toInt x2)) := w189.2.2.2.2.1
                          have p196 : ((Int32.toInt x2) ≤ (Int32.toInt z185) ∧ (Int32.toInt z185) ≤ (Int32.toInt x2) + 24) := w189.2.2.2.2.2
                          exact r_iret 112 Rt dX0_hintOrMove_112 (z185, z186, x5, x6, z187, x11, y1, y2, x13, fn0, fm1) (show 0 ≤ (Int32.toInt r188) ∧ (Int32.toInt r188) ≤ 7 ∧ 0 ≤ (Int32.toInt x5) ∧ (Int32.toInt x5) ≤ 1500 ∧ 0 ≤ (Int32.toInt x6) ∧ (Int32.toInt x6) ≤ 1 ∧ 0 ≤ (Int32.toInt z187) ∧ (Int32.toInt z187) ≤ 1 ∧ 0 ≤ (Int32.toInt x11) ∧ (Int32.toInt x11) ≤ 400 ∧ 0 ≤ (Int32.toInt x13) ∧ (Int32.toInt x13) ≤ 1 ∧ CEQ (((Int32.toInt z187), z186), (Int32.toInt z185)) ((Int32.toInt x5) - (Int32.toInt x3)) (PTS fn0 fm1 (Int32.toInt x11)) y1 y2 (Int32.toInt x13) (Int32.toInt x6) (Int32.toInt r188) (HMS (NMF x16) (NMF x15) (Int32.toInt x12) ((Int32.toInt x4) - (Int32.toInt x3)) (PA fm0 (Int32.toInt x9)) (Int32.toInt x0) ((((Int32.toInt x8), y0), (Int32.toInt x2)), ((Int32.toInt x5) - (Int32.toInt x3)), (PTS fn0 fm1 (Int32.toInt x11), y1, y2, (Int32.toInt x13)), (Int32.toInt x6))) ∧ ((Int32.toInt x2) ≤ (Int32.toInt z185) ∧ (Int32.toInt z185) ≤ (Int32.toInt x2) + 24) ∧ ((Int32.toInt x3) ≤ (Int32.toInt x5) ∧ (Int32.toInt x5) ≤ (Int32.toInt x4)) from ⟨(iv_wide (c := 0) (d := 7) ⟨p191, p192⟩ (by decide) (by decide)).1, (iv_wide (c := 0) (d := 7) ⟨p191, p192⟩ (by decide) (by decide)).2, i_x5.1, i_x5.2, i_x6.1, i_x6.2, (show _ ∧ _ from ⟨p193, p194⟩).1, (show _ ∧ _ from ⟨p193, p194⟩).2, i_x11.1, i_x11.2, i_x13.1, i_x13.2, (by exact hms_s (by omega) p195), (by ((repeat' apply And.intro) <;> first | trivial | rfl | assumption | omega | decide | exact Or.inl rfl | exact Or.inr (Or.inl rfl) | exact Or.inr (Or.inr rfl))), (by ((repeat' apply And.intro) <;> first | trivial | rfl | assumption | omega | decide | exact Or.inl rfl | exact Or.inr (Or.inl rfl) | exact Or.inr (Or.inr rfl)))⟩) [3, 4, 0, 5, 6, 1, 2] (by decide) rfl (Nat.le_of_ble_eq_true rfl) (Nat.le_of_ble_eq_true rfl)
                        · skip
                          have k197 : ¬ ((Int32.toInt x0) = 15) := fun h_9 => c183 ((fa_eq x0 15).mpr h_9)
                          by_cases c198 : x0 = 16
                          · skip
                            have k199 : (Int32.toInt x0) = 16 := (fa_eq x0 16).mp c198
                            refine r_tableIn 1 108 16 C dX0_hintOrMove_1 c198 (by decide) (by decide) rfl (by decide) ?_
                            refine r_aload_n 108 0 C dX0_hintOrMove_108 rfl ?_
                            refine r_callVi 109 C dX0_hintOrMove_109 [] [(h0, .inr (0, [.ref h1, .ref h2, .ref h3, .int x1, .int x2, .long y0, .int x3, .int x4, .int x5, .int x6, .ref h7, .ref h8, .ref h9, .int x7, .int x8])), (h1, .inr (6, [.ref h4, .ref h10, .int x9, .int x10])), (h3, .inr (3, [.ref h11, .ref h12, .ref h13, .ref h14, .int x14, .int x15, .int x16])), (h4, .inl (gJ g, 48, .inr (.inl fm0)))] [(h2, .inr (5, [.ref h5, .ref h6, .int x11, .int x12, .long y1, .long y2, .int x13])), (h5, .inl (gB g, 400, .inl fn0)), (h6, .inl (gJ g, 2400, .inr (.inl fm1)))] (fun sz => c292_X0_stems l g h0 h1 h3 h4 h2 x1 x2 y0 x3 x4 x5 x6 h7 h8 h9 x7 x8 h10 x9 x10 h11 h12 h13 h14 x14 x15 x16 fm0 i_x2 i_x3 i_x4 i_x5 i_x6 i_x7 i_x8 i_x9 i_x10 sz) gX0_hintOrMove_X0_stems rfl ⟨rfl, rfl⟩ 0 (by decide) ⟨Nat.le_of_ble_eq_true rfl, Nat.le_of_ble_eq_true rfl⟩ 0 rfl rfl [0, 1, 3, 4] [2, 5, 6] rfl rfl (by decide) (by decide) (by decide) rfl rfl (Nat.le_of_ble_eq_true rfl) ⟨Nat.le_of_ble_eq_true rfl, Nat.le_of_ble_eq_true rfl⟩ (fun r203 u205 w204 => ?_)
                            obtain ⟨z200, z201, z202⟩ := u205
                            refine r_ws [(h2, .inr (5, [.ref h5, .ref h6, .int x11, .int x12, .long y1, .long y2, .int x13])), (h5, .inl (gB g, 400, .inl fn0)), (h6, .inl (gJ g, 2400, .inr (.inl fm1))), (h0, .inr (0, [.ref h1, .ref h2, .ref h3, .int x1, .int z200, .long z201, .int x3, .int x4, .int x5, .int x6, .ref h7, .ref h8, .ref h9, .int x7, .int z202])), (h1, .inr (6, [.ref h4, .ref h10, .int x9, .int x10])), (h3, .inr (3, [.ref h11, .ref h12, .ref h13, .ref h14, .int x14, .int x15, .int x16])), (h4, .inl (gJ g, 48, .inr (.inl fm0)))] rfl ?_
                            have gz200 := fb_rng z200
                            have gz201 := fb_rngL z201
                            have p206 : 0 ≤ (Int32.toInt r203) := w204.1
                            have p207 : (Int32.toInt r203) ≤ 2 := w204.2.1
                            have p208 : 0 ≤ (Int32.toInt z202) := w204.2.2.1
                            have p209 : (Int32.toInt z202) ≤ 1 := w204.2.2.2.1
                            have p210 : (((((Int32.toInt z202), z201), (Int32.toInt z200)), (Int32.toInt r203)) : WH × Int) = STM (NMF x16) (NMF x15) (PA fm0 (Int32.toInt x9)) (((Int32.toInt x8), y0), (Int32.toInt x2)) := w204.2.2.2.2.1
                            have p211 : ((Int32.toInt x2) ≤ (Int32.toInt z200) ∧ (Int32.toInt z200) ≤ (Int32.toInt x2) + 24) := w204.2.2.2.2.2
                            exact r_iret 112 Rt dX0_hintOrMove_112 (z200, z201, x5, x6, z202, x11, y1, y2, x13, fn0, fm1) (show 0 ≤ (Int32.toInt r203) ∧ (Int32.toInt r203) ≤ 7 ∧ 0 ≤ (Int32.toInt x5) ∧ (Int32.toInt x5) ≤ 1500 ∧ 0 ≤ (Int32.toInt x6) ∧ (Int32.toInt x6) ≤ 1 ∧ 0 ≤ (Int32.toInt z202) ∧ (Int32.toInt z202) ≤ 1 ∧ 0 ≤ (Int32.toInt x11) ∧ (Int32.toInt x11) ≤ 400 ∧ 0 ≤ (Int32.toInt x13) ∧ (Int32.toInt x13) ≤ 1 ∧ CEQ (((Int32.toInt z202), z201), (Int32.toInt z200)) ((Int32.toInt x5) - (Int32.toInt x3)) (PTS fn0 fm1 (Int32.toInt x11)) y1 y2 (Int32.toInt x13) (Int32.toInt x6) (Int32.toInt r203) (HMS (NMF x16) (NMF x15) (Int32.toInt x12) ((Int32.toInt x4) - (Int32.toInt x3)) (PA fm0 (Int32.toInt x9)) (Int32.toInt x0) ((((Int32.toInt x8), y0), (Int32.toInt x2)), ((Int32.toInt x5) - (Int32.toInt x3)), (PTS fn0 fm1 (Int32.toInt x11), y1, y2, (Int32.toInt x13)), (Int32.toInt x6))) ∧ ((Int32.toInt x2) ≤ (Int32.toInt z200) ∧ (Int32.toInt z200) ≤ (Int32.toInt x2) + 24) ∧ ((Int32.toInt x3) ≤ (Int32.toInt x5) ∧ (Int32.toInt x5) ≤ (Int32.toInt x4)) from ⟨(iv_wide (c := 0) (d := 7) ⟨p206, p207⟩ (by decide) (by decide)).1, (iv_wide (c := 0) (d := 7) ⟨p206, p207⟩ (by decide) (by decide)).2, i_x5.1, i_x5.2, i_x6.1, i_x6.2, (show _ ∧ _ from ⟨p208, p209⟩).1, (show _ ∧ _ from ⟨p208, p209⟩).2, i_x11.1, i_x11.2, i_x13.1, i_x13.2, (by exact hms_s (by omega) p210), (by ((repeat' apply And.intro) <;> first | trivial | rfl | assumption | omega | decide | exact Or.inl rfl | exact Or.inr (Or.inl rfl) | exact Or.inr (Or.inr rfl))), (by ((repeat' apply And.intro) <;> first | trivial | rfl | assumption | omega | decide | exact Or.inl rfl | exact Or.inr (Or.inl rfl) | exact Or.inr (Or.inr rfl)))⟩) [3, 4, 0, 5, 6, 1, 2] (by decide) rfl (Nat.le_of_ble_eq_true rfl) (Nat.le_of_ble_eq_true rfl)
                          · skip
                            have k212 : ¬ ((Int32.toInt x0) = 16) := fun h_9 => c198 ((fa_eq x0 16).mpr h_9)
                            by_cases c213 : x0 = 17
                            · skip
                              have k214 : (Int32.toInt x0) = 17 := (fa_eq x0 17).mp c213
                              refine r_tableIn 1 108 17 C dX0_hintOrMove_1 c213 (by decide) (by decide) rfl (by decide) ?_
                              refine r_aload_n 108 0 C dX0_hintOrMove_108 rfl ?_
                              refine r_callVi 109 C dX0_hintOrMove_109 [] [(h0, .inr (0, [.ref h1, .ref h2, .ref h3, .int x1, .int x2, .long y0, .int x3, .int x4, .int x5, .int x6, .ref h7, .ref h8, .ref h9, .int x7, .int x8])), (h1, .inr (6, [.ref h4, .ref h10, .int x9, .int x10])), (h3, .inr (3, [.ref h11, .ref h12, .ref h13, .ref h14, .int x14, .int x15, .int x16])), (h4, .inl (gJ g, 48, .inr (.inl fm0)))] [(h2, .inr (5, [.ref h5, .ref h6, .int x11, .int x12, .long y1, .long y2, .int x13])), (h5, .inl (gB g, 400, .inl fn0)), (h6, .inl (gJ g, 2400, .inr (.inl fm1)))] (fun sz => c292_X0_stems l g h0 h1 h3 h4 h2 x1 x2 y0 x3 x4 x5 x6 h7 h8 h9 x7 x8 h10 x9 x10 h11 h12 h13 h14 x14 x15 x16 fm0 i_x2 i_x3 i_x4 i_x5 i_x6 i_x7 i_x8 i_x9 i_x10 sz) gX0_hintOrMove_X0_stems rfl ⟨rfl, rfl⟩ 0 (by decide) ⟨Nat.le_of_ble_eq_true rfl, Nat.le_of_ble_eq_true rfl⟩ 0 rfl rfl [0, 1, 3, 4] [2, 5, 6] rfl rfl (by decide) (by decide) (by decide) rfl rfl (Nat.le_of_ble_eq_true rfl) ⟨Nat.le_of_ble_eq_true rfl, Nat.le_of_ble_eq_true rfl⟩ (fun r218 u220 w219 => ?_)
                              obtain ⟨z215, z216, z217⟩ := u220
                              refine r_ws [(h2, .inr (5, [.ref h5, .ref h6, .int x11, .int x12, .long y1, .long y2, .int x13])), (h5, .inl (gB g, 400, .inl fn0)), (h6, .inl (gJ g, 2400, .inr (.inl fm1))), (h0, .inr (0, [.ref h1, .ref h2, .ref h3, .int x1, .int z215, .long z216, .int x3, .int x4, .int x5, .int x6, .ref h7, .ref h8, .ref h9, .int x7, .int z217])), (h1, .inr (6, [.ref h4, .ref h10, .int x9, .int x10])), (h3, .inr (3, [.ref h11, .ref h12, .ref h13, .ref h14, .int x14, .int x15, .int x16])), (h4, .inl (gJ g, 48, .inr (.inl fm0)))] rfl ?_
                              have gz215 := fb_rng z215
                              have gz216 := fb_rngL z216
                              have p221 : 0 ≤ (Int32.toInt r218) := w219.1
                              have p222 : (Int32.toInt r218) ≤ 2 := w219.2.1
                              have p223 : 0 ≤ (Int32.toInt z217) := w219.2.2.1
                              have p224 : (Int32.toInt z217) ≤ 1 := w219.2.2.2.1
                              have p225 : (((((Int32.toInt z217), z216), (Int32.toInt z215)), (Int32.toInt r218)) : WH × Int) = STM (NMF x16) (NMF x15) (PA fm0 (Int32.toInt x9)) (((Int32.toInt x8), y0), (Int32.toInt x2)) := w219.2.2.2.2.1
                              have p226 : ((Int32.toInt x2) ≤ (Int32.toInt z215) ∧ (Int32.toInt z215) ≤ (Int32.toInt x2) + 24) := w219.2.2.2.2.2
                              exact r_iret 112 Rt dX0_hintOrMove_112 (z215, z216, x5, x6, z217, x11, y1, y2, x13, fn0, fm1) (show 0 ≤ (Int32.toInt r218) ∧ (Int32.toInt r218) ≤ 7 ∧ 0 ≤ (Int32.toInt x5) ∧ (Int32.toInt x5) ≤ 1500 ∧ 0 ≤ (Int32.toInt x6) ∧ (Int32.toInt x6) ≤ 1 ∧ 0 ≤ (Int32.toInt z217) ∧ (Int32.toInt z217) ≤ 1 ∧ 0 ≤ (Int32.toInt x11) ∧ (Int32.toInt x11) ≤ 400 ∧ 0 ≤ (Int32.toInt x13) ∧ (Int32.toInt x13) ≤ 1 ∧ CEQ (((Int32.toInt z217), z216), (Int32.toInt z215)) ((Int32.toInt x5) - (Int32.toInt x3)) (PTS fn0 fm1 (Int32.toInt x11)) y1 y2 (Int32.toInt x13) (Int32.toInt x6) (Int32.toInt r218) (HMS (NMF x16) (NMF x15) (Int32.toInt x12) ((Int32.toInt x4) - (Int32.toInt x3)) (PA fm0 (Int32.toInt x9)) (Int32.toInt x0) ((((Int32.toInt x8), y0), (Int32.toInt x2)), ((Int32.toInt x5) - (Int32.toInt x3)), (PTS fn0 fm1 (Int32.toInt x11), y1, y2, (Int32.toInt x13)), (Int32.toInt x6))) ∧ ((Int32.toInt x2) ≤ (Int32.toInt z215) ∧ (Int32.toInt z215) ≤ (Int32.toInt x2) + 24) ∧ ((Int32.toInt x3) ≤ (Int32.toInt x5) ∧ (Int32.toInt x5) ≤ (Int32.toInt x4)) from ⟨(iv_wide (c := 0) (d := 7) ⟨p221, p222⟩ (by decide) (by decide)).1, (iv_wide (c := 0) (d := 7) ⟨p221, p222⟩ (by decide) (by decide)).2, i_x5.1, i_x5.2, i_x6.1, i_x6.2, (show _ ∧ _ from ⟨p223, p224⟩).1, (show _ ∧ _ from ⟨p223, p224⟩).2, i_x11.1, i_x11.2, i_x13.1, i_x13.2, (by exact hms_s (by omega) p225), (by ((repeat' apply And.intro) <;> first | trivial | rfl | assumption | omega | decide | exact Or.inl rfl | exact Or.inr (Or.inl rfl) | exact Or.inr (Or.inr rfl))), (by ((repeat' apply And.intro) <;> first | trivial | rfl | assumption | omega | decide | exact Or.inl rfl | exact Or.inr (Or.inl rfl) | exact Or.inr (Or.inr rfl)))⟩) [3, 4, 0, 5, 6, 1, 2] (by decide) rfl (Nat.le_of_ble_eq_true rfl) (Nat.le_of_ble_eq_true rfl)
                            · skip
                              have k227 : ¬ ((Int32.toInt x0) = 17) := fun h_9 => c213 ((fa_eq x0 17).mpr h_9)
                              by_cases c228 : x0 = 18
                              · skip
                                have k229 : (Int32.toInt x0) = 18 := (fa_eq x0 18).mp c228
                                refine r_tableIn 1 108 18 C dX0_hintOrMove_1 c228 (by decide) (by decide) rfl (by decide) ?_
                                refine r_aload_n 108 0 C dX0_hintOrMove_108 rfl ?_
                                refine r_callVi 109 C dX0_hintOrMove_109 [] [(h0, .inr (0, [.ref h1, .ref h2, .ref h3, .int x1, .int x2, .long y0, .int x3, .int x4, .int x5, .int x6, .ref h7, .ref h8, .ref h9, .int x7, .int x8])), (h1, .inr (6, [.ref h4, .ref h10, .int x9, .int x10])), (h3, .inr (3, [.ref h11, .ref h12, .ref h13, .ref h14, .int x14, .int x15, .int x16])), (h4, .inl (gJ g, 48, .inr (.inl fm0)))] [(h2, .inr (5, [.ref h5, .ref h6, .int x11, .int x12, .long y1, .long y2, .int x13])), (h5, .inl (gB g, 400, .inl fn0)), (h6, .inl (gJ g, 2400, .inr (.inl fm1)))] (fun sz => c292_X0_stems l g h0 h1 h3 h4 h2 x1 x2 y0 x3 x4 x5 x6 h7 h8 h9 x7 x8 h10 x9 x10 h11 h12 h13 h14 x14 x15 x16 fm0 i_x2 i_x3 i_x4 i_x5 i_x6 i_x7 i_x8 i_x9 i_x10 sz) gX0_hintOrMove_X0_stems rfl ⟨rfl, rfl⟩ 0 (by decide) ⟨Nat.le_of_ble_eq_true rfl, Nat.le_of_ble_eq_true rfl⟩ 0 rfl rfl [0, 1, 3, 4] [2, 5, 6] rfl rfl (by decide) (by decide) (by decide) rfl rfl (Nat.le_of_ble_eq_true rfl) ⟨Nat.le_of_ble_eq_true rfl, Nat.le_of_ble_eq_true rfl⟩ (fun r233 u235 w234 => ?_)
                                obtain ⟨z230, z231, z232⟩ := u235
                                refine r_ws [(h2, .inr (5, [.ref h5, .ref h6, .int x11, .int x12, .long y1, .long y2, .int x13])), (h5, .inl (gB g, 400, .inl fn0)), (h6, .inl (gJ g, 2400, .inr (.inl fm1))), (h0, .inr (0, [.ref h1, .ref h2, .ref h3, .int x1, .int z230, .long z231, .int x3, .int x4, .int x5, .int x6, .ref h7, .ref h8, .ref h9, .int x7, .int z232])), (h1, .inr (6, [.ref h4, .ref h10, .int x9, .int x10])), (h3, .inr (3, [.ref h11, .ref h12, .ref h13, .ref h14, .int x14, .int x15, .int x16])), (h4, .inl (gJ g, 48, .inr (.inl fm0)))] rfl ?_
                                have gz230 := fb_rng z230
                                have gz231 := fb_rngL z231
                                have p236 : 0 ≤ (Int32.toInt r233) := w234.1
                                have p237 : (Int32.toInt r233) ≤ 2 := w234.2.1
                                have p238 : 0 ≤ (Int32.toInt z232) := w234.2.2.1
                                have p239 : (Int32.toInt z232) ≤ 1 := w234.2.2.2.1
                                have p240 : (((((Int32.toInt z232), z231), (Int32.toInt z230)), (Int32.toInt r233)) : WH × Int) = STM (NMF x16) (NMF x15) (PA fm0 (Int32.toInt x9)) (((Int32.toInt x8), y0), (Int32.toInt x2)) := w234.2.2.2.2.1
                                have p241 : ((Int32.toInt x2) ≤ (Int32.toInt z230) ∧ (Int32.toInt z230) ≤ (Int32.toInt x2) + 24) := w234.2.2.2.2.2
                                exact r_iret 112 Rt dX0_hintOrMove_112 (z230, z231, x5, x6, z232, x11, y1, y2, x13, fn0, fm1) (show 0 ≤ (Int32.toInt r233) ∧ (Int32.toInt r233) ≤ 7 ∧ 0 ≤ (Int32.toInt x5) ∧ (Int32.toInt x5) ≤ 1500 ∧ 0 ≤ (Int32.toInt x6) ∧ (Int32.toInt x6) ≤ 1 ∧ 0 ≤ (Int32.toInt z232) ∧ (Int32.toInt z232) ≤ 1 ∧ 0 ≤ (Int32.toInt x11) ∧ (Int32.toInt x11) ≤ 400 ∧ 0 ≤ (Int32.toInt x13) ∧ (Int32.toInt x13) ≤ 1 ∧ CEQ (((Int32.toInt z232), z231), (Int32.toInt z230)) ((Int32.toInt x5) - (Int32.toInt x3)) (PTS fn0 fm1 (Int32.toInt x11)) y1 y2 (Int32.toInt x13) (Int32.toInt x6) (Int32.toInt r233) (HMS (NMF x16) (NMF x15) (Int32.toInt x12) ((Int32.toInt x4) - (Int32.toInt x3)) (PA fm0 (Int32.toInt x9)) (Int32.toInt x0) ((((Int32.toInt x8), y0), (Int32.toInt x2)), ((Int32.toInt x5) - (Int32.toInt x3)), (PTS fn0 fm1 (Int32.toInt x11), y1, y2, (Int32.toInt x13)), (Int32.toInt x6))) ∧ ((Int32.toInt x2) ≤ (Int32.toInt z230) ∧ (Int32.toInt z230) ≤ (Int32.toInt x2) + 24) ∧ ((Int32.toInt x3) ≤ (Int32.toInt x5) ∧ (Int32.toInt x5) ≤ (Int32.toInt x4)) from ⟨(iv_wide (c := 0) (d := 7) ⟨p236, p237⟩ (by decide) (by decide)).1, (iv_wide (c := 0) (d := 7) ⟨p236, p237⟩ (by decide) (by decide)).2, i_x5.1, i_x5.2, i_x6.1, i_x6.2, (show _ ∧ _ from ⟨p238, p239⟩).1, (show _ ∧ _ from ⟨p238, p239⟩).2, i_x11.1, i_x11.2, i_x13.1, i_x13.2, (by exact hms_s (by omega) p240), (by ((repeat' apply And.intro) <;> first | trivial | rfl | assumption | omega | decide | exact Or.inl rfl | exact Or.inr (Or.inl rfl) | exact Or.inr (Or.inr rfl))), (by ((repeat' apply And.intro) <;> first | trivial | rfl | assumption | omega | decide | exact Or.inl rfl | exact Or.inr (Or.inl rfl) | exact Or.inr (Or.inr rfl)))⟩) [3, 4, 0, 5, 6, 1, 2] (by decide) rfl (Nat.le_of_ble_eq_true rfl) (Nat.le_of_ble_eq_true rfl)
                              · skip
                                have k242 : ¬ ((Int32.toInt x0) = 18) := fun h_9 => c228 ((fa_eq x0 18).mpr h_9)
                                by_cases c243 : x0 = 19
                                · skip
                                  have k244 : (Int32.toInt x0) = 19 := (fa_eq x0 19).mp c243
                                  refine r_tableIn 1 92 19 C dX0_hintOrMove_1 c243 (by decide) (by decide) rfl (by decide) ?_
                                  refine r_aload_n 92 0 C dX0_hintOrMove_92 rfl ?_
                                  refine r_callVi 93 C dX0_hintOrMove_93 [] [(h0, .inr (0, [.ref h1, .ref h2, .ref h3, .int x1, .int x2, .long y0, .int x3, .int x4, .int x5, .int x6, .ref h7, .ref h8, .ref h9, .int x7, .int x8])), (h1, .inr (6, [.ref h4, .ref h10, .int x9, .int x10])), (h3, .inr (3, [.ref h11, .ref h12, .ref h13, .ref h14, .int x14, .int x15, .int x16])), (h4, .inl (gJ g, 48, .inr (.inl fm0)))] [(h2, .inr (5, [.ref h5, .ref h6, .int x11, .int x12, .long y1, .long y2, .int x13])), (h5, .inl (gB g, 400, .inl fn0)), (h6, .inl (gJ g, 2400, .inr (.inl fm1)))] (fun sz => c296_X0_mask l g h0 h1 h3 h4 h2 x1 x2 y0 x3 x4 x5 x6 h7 h8 h9 x7 x8 h10 x9 x10 h11 h12 h13 h14 x14 x15 x16 fm0 i_x2 i_x3 i_x4 i_x5 i_x6 i_x7 i_x8 i_x9 i_x10 (by show ((Int32.toInt x3) ≤ (Int32.toInt x5) ∧ (Int32.toInt x5) ≤ (Int32.toInt x4)); first | assumption | omega) sz) gX0_hintOrMove_X0_mask rfl ⟨rfl, rfl⟩ 0 (by decide) ⟨Nat.le_of_ble_eq_true rfl, Nat.le_of_ble_eq_true rfl⟩ 0 rfl rfl [0, 1, 3, 4] [2, 5, 6] rfl rfl (by decide) (by decide) (by decide) rfl rfl (Nat.le_of_ble_eq_true rfl) ⟨Nat.le_of_ble_eq_true rfl, Nat.le_of_ble_eq_true rfl⟩ (fun r249 u251 w250 => ?_)
                                  obtain ⟨z245, z246, z247, z248⟩ := u251
                                  refine r_ws [(h2, .inr (5, [.ref h5, .ref h6, .int x11, .int x12, .long y1, .long y2, .int x13])), (h5, .inl (gB g, 400, .inl fn0)), (h6, .inl (gJ g, 2400, .inr (.inl fm1))), (h0, .inr (0, [.ref h1, .ref h2, .ref h3, .int x1, .int z245, .long z246, .int x3, .int x4, .int z247, .int x6, .ref h7, .ref h8, .ref h9, .int x7, .int z248])), (h1, .inr (6, [.ref h4, .ref h10, .int x9, .int x10])), (h3, .inr (3, [.ref h11, .ref h12, .ref h13, .ref h14, .int x14, .int x15, .int x16])), (h4, .inl (gJ g, 48, .inr (.inl fm0)))] rfl ?_
                                  have gz245 := fb_rng z245
                                  have gz246 := fb_rngL z246
                                  have p252 : 0 ≤ (Int32.toInt r249) := w250.1
                                  have p253 : (Int32.toInt r249) ≤ 7 := w250.2.1
                                  have p254 : 0 ≤ (Int32.toInt z247) := w250.2.2.1
                                  have p255 : (Int32.toInt z247) ≤ 1500 := w250.2.2.2.1
                                  have p256 : 0 ≤ (Int32.toInt z248) := w250.2.2.2.2.1
                                  have p257 : (Int32.toInt z248) ≤ 1 := w250.2.2.2.2.2.1
                                  have p258 : ((((((Int32.toInt z248), z246), (Int32.toInt z245)), ((Int32.toInt z247) - (Int32.toInt x3))), (Int32.toInt r249)) : (WH × Int) × Int) = MSK (NMF x16) (NMF x15) (PA fm0 (Int32.toInt x9)) (((Int32.toInt x8), y0), (Int32.toInt x2)) ((Int32.toInt x5) - (Int32.toInt x3)) ((Int32.toInt x4) - (Int32.toInt x3)) := w250.2.2.2.2.2.2.1
                                  have p259 : ((Int32.toInt x2) ≤ (Int32.toInt z245) ∧ (Int32.toInt z245) ≤ (Int32.toInt x2) + 24) := w250.2.2.2.2.2.2.2.1
                                  have p260 : (Int32.toInt x5) ≤ (Int32.toInt z247) := w250.2.2.2.2.2.2.2.2.1
                                  have p261 : (Int32.toInt z247) ≤ (Int32.toInt x4) := w250.2.2.2.2.2.2.2.2.2
                                  exact r_iret 96 Rt dX0_hintOrMove_96 (z245, z246, z247, x6, z248, x11, y1, y2, x13, fn0, fm1) (show 0 ≤ (Int32.toInt r249) ∧ (Int32.toInt r249) ≤ 7 ∧ 0 ≤ (Int32.toInt z247) ∧ (Int32.toInt z247) ≤ 1500 ∧ 0 ≤ (Int32.toInt x6) ∧ (Int32.toInt x6) ≤ 1 ∧ 0 ≤ (Int32.toInt z248) ∧ (Int32.toInt z248) ≤ 1 ∧ 0 ≤ (Int32.toInt x11) ∧ (Int32.toInt x11) ≤ 400 ∧ 0 ≤ (Int32.toInt x13) ∧ (Int32.toInt x13) ≤ 1 ∧ CEQ (((Int32.toInt z248), z246), (Int32.toInt z245)) ((Int32.toInt z247) - (Int32.toInt x3)) (PTS fn0 fm1 (Int32.toInt x11)) y1 y2 (Int32.toInt x13) (Int32.toInt x6) (Int32.toInt r249) (HMS (NMF x16) (NMF x15) (Int32.toInt x12) ((Int32.toInt x4) - (Int32.toInt x3)) (PA fm0 (Int32.toInt x9)) (Int32.toInt x0) ((((Int32.toInt x8), y0), (Int32.toInt x2)), ((Int32.toInt x5) - (Int32.toInt x3)), (PTS fn0 fm1 (Int32.toInt x11), y1, y2, (Int32.toInt x13)), (Int32.toInt x6))) ∧ ((Int32.toInt x2) ≤ (Int32.toInt z245) ∧ (Int32.toInt z245) ≤ (Int32.toInt x2) + 24) ∧ ((Int32.toInt x3) ≤ (Int32.toInt z247) ∧ (Int32.toInt z247) ≤ (Int32.toInt x4)) from ⟨(show _ ∧ _ from ⟨p252, p253⟩).1, (show _ ∧ _ from ⟨p252, p253⟩).2, (show _ ∧ _ from ⟨p254, p255⟩).1, (show _ ∧ _ from ⟨p254, p255⟩).2, i_x6.1, i_x6.2, (show _ ∧ _ from ⟨p256, p257⟩).1, (show _ ∧ _ from ⟨p256, p257⟩).2, i_x11.1, i_x11.2, i_x13.1, i_x13.2, (by exact hms_m (by omega) p258), (by ((repeat' apply And.intro) <;> first | trivial | rfl | assumption | omega | decide | exact Or.inl rfl | exact Or.inr (Or.inl rfl) | exact Or.inr (Or.inr rfl))), (by ((repeat' apply And.intro) <;> first | trivial | rfl | assumption | omega | decide | exact Or.inl rfl | exact Or.inr (Or.inl rfl) | exact Or.inr (Or.inr rfl)))⟩) [3, 4, 0, 5, 6, 1, 2] (by decide) rfl (Nat.le_of_ble_eq_true rfl) (Nat.le_of_ble_eq_true rfl)
                                · skip
                                  have k262 : ¬ ((Int32.toInt x0) = 19) := fun h_9 => c243 ((fa_eq x0 19).mpr h_9)
                                  by_cases c263 : x0 = 20
                                  · skip
                                    have k264 : (Int32.toInt x0) = 20 := (fa_eq x0 20).mp c263
                                    refine r_tableIn 1 92 20 C dX0_hintOrMove_1 c263 (by decide) (by decide) rfl (by decide) ?_
                                    refine r_aload_n 92 0 C dX0_hintOrMove_92 rfl ?_
                                    refine r_callVi 93 C dX0_hintOrMove_93 [] [(h0, .inr (0, [.ref h1, .ref h2, .ref h3, .int x1, .int x2, .long y0, .int x3, .int x4, .int x5, .int x6, .ref h7, .ref h8, .ref h9, .int x7, .int x8])), (h1, .inr (6, [.ref h4, .ref h10, .int x9, .int x10])), (h3, .inr (3, [.ref h11, .ref h12, .ref h13, .ref h14, .int x14, .int x15, .int x16])), (h4, .inl (gJ g, 48, .inr (.inl fm0)))] [(h2, .inr (5, [.ref h5, .ref h6, .int x11, .int x12, .long y1, .long y2, .int x13])), (h5, .inl (gB g, 400, .inl fn0)), (h6, .inl (gJ g, 2400, .inr (.inl fm1)))] (fun sz => c296_X0_mask l g h0 h1 h3 h4 h2 x1 x2 y0 x3 x4 x5 x6 h7 h8 h9 x7 x8 h10 x9 x10 h11 h12 h13 h14 x14 x15 x16 fm0 i_x2 i_x3 i_x4 i_x5 i_x6 i_x7 i_x8 i_x9 i_x10 (by show ((Int32.toInt x3) ≤ (Int32.toInt x5) ∧ (Int32.toInt x5) ≤ (Int32.toInt x4)); first | assumption | omega) sz) gX0_hintOrMove_X0_mask rfl ⟨rfl, rfl⟩ 0 (by decide) ⟨Nat.le_of_ble_eq_true rfl, Nat.le_of_ble_eq_true rfl⟩ 0 rfl rfl [0, 1, 3, 4] [2, 5, 6] rfl rfl (by decide) (by decide) (by decide) rfl rfl (Nat.le_of_ble_eq_true rfl) ⟨Nat.le_of_ble_eq_true rfl, Nat.le_of_ble_eq_true rfl⟩ (fun r269 u271 w270 => ?_)
                                    obtain ⟨z265, z266, z267, z268⟩ := u271
                                    refine r_ws [(h2, .inr (5, [.ref h5, .ref h6, .int x11, .int x12, .long y1, .long y2, .int x13])), (h5, .inl (gB g, 400, .inl fn0)), (h6, .inl (gJ g, 2400, .inr (.inl fm1))), (h0, .inr (0, [.ref h1, .ref h2, .ref h3, .int x1, .int z265, .long z266, .int x3, .int x4, .int z267, .int x6, .ref h7, .ref h8, .ref h9, .int x7, .int z268])), (h1, .inr (6, [.ref h4, .ref h10, .int x9, .int x10])), (h3, .inr (3, [.ref h11, .ref h12, .ref h13, .ref h14, .int x14, .int x15, .int x16])), (h4, .inl (gJ g, 48, .inr (.inl fm0)))] rfl ?_
                                    have gz265 := fb_rng z265
                                    have gz266 := fb_rngL z266
                                    have p272 : 0 ≤ (Int32.toInt r269) := w270.1
                                    have p273 : (Int32.toInt r269) ≤ 7 := w270.2.1
                                    have p274 : 0 ≤ (Int32.toInt z267) := w270.2.2.1
                                    have p275 : (Int32.toInt z267) ≤ 1500 := w270.2.2.2.1
                                    have p276 : 0 ≤ (Int32.toInt z268) := w270.2.2.2.2.1
                                    have p277 : (Int32.toInt z268) ≤ 1 := w270.2.2.2.2.2.1
                                    have p278 : ((((((Int32.toInt z268), z266), (Int32.toInt z265)), ((Int32.toInt z267) - (Int32.toInt x3))), (Int32.toInt r269)) : (WH × Int) × Int) = MSK (NMF x16) (NMF x15) (PA fm0 (Int32.toInt x9)) (((Int32.toInt x8), y0), (Int32.toInt x2)) ((Int32.toInt x5) - (Int32.toInt x3)) ((Int32.toInt x4) - (Int32.toInt x3)) := w270.2.2.2.2.2.2.1
                                    have p279 : ((Int32.toInt x2) ≤ (Int32.toInt z265) ∧ (Int32.toInt z265) ≤ (Int32.toInt x2) + 24) := w270.2.2.2.2.2.2.2.1
                                    have p280 : (Int32.toInt x5) ≤ (Int32.toInt z267) := w270.2.2.2.2.2.2.2.2.1
                                    have p281 : (Int32.toInt z267) ≤ (Int32.toInt x4) := w270.2.2.2.2.2.2.2.2.2
                                    exact r_iret 96 Rt dX0_hintOrMove_96 (z265, z266, z267, x6, z268, x11, y1, y2, x13, fn0, fm1) (show 0 ≤ (Int32.toInt r269) ∧ (Int32.toInt r269) ≤ 7 ∧ 0 ≤ (Int32.toInt z267) ∧ (Int32.toInt z267) ≤ 1500 ∧ 0 ≤ (Int32.toInt x6) ∧ (Int32.toInt x6) ≤ 1 ∧ 0 ≤ (Int32.toInt z268) ∧ (Int32.toInt z268) ≤ 1 ∧ 0 ≤ (Int32.toInt x11) ∧ (Int32.toInt x11) ≤ 400 ∧ 0 ≤ (Int32.toInt x13) ∧ (Int32.toInt x13) ≤ 1 ∧ CEQ (((Int32.toInt z268), z266), (Int32.toInt z265)) ((Int32.toInt z267) - (Int32.toInt x3)) (PTS fn0 fm1 (Int32.toInt x11)) y1 y2 (Int32.toInt x13) (Int32.toInt x6) (Int32.toInt r269) (HMS (NMF x16) (NMF x15) (Int32.toInt x12) ((Int32.toInt x4) - (Int32.toInt x3)) (PA fm0 (Int32.toInt x9)) (Int32.toInt x0) ((((Int32.toInt x8), y0), (Int32.toInt x2)), ((Int32.toInt x5) - (Int32.toInt x3)), (PTS fn0 fm1 (Int32.toInt x11), y1, y2, (Int32.toInt x13)), (Int32.toInt x6))) ∧ ((Int32.toInt x2) ≤ (Int32.toInt z265) ∧ (Int32.toInt z265) ≤ (Int32.toInt x2) + 24) ∧ ((Int32.toInt x3) ≤ (Int32.toInt z267) ∧ (Int32.toInt z267) ≤ (Int32.toInt x4)) from ⟨(show _ ∧ _ from ⟨p272, p273⟩).1, (show _ ∧ _ from ⟨p272, p273⟩).2, (show _ ∧ _ from ⟨p274, p275⟩).1, (show _ ∧ _ from ⟨p274, p275⟩).2, i_x6.1, i_x6.2, (show _ ∧ _ from ⟨p276, p277⟩).1, (show _ ∧ _ from ⟨p276, p277⟩).2, i_x11.1, i_x11.2, i_x13.1, i_x13.2, (by exact hms_m (by omega) p278), (by ((repeat' apply And.intro) <;> first | trivial | rfl | assumption | omega | decide | exact Or.inl rfl | exact Or.inr (Or.inl rfl) | exact Or.inr (Or.inr rfl))), (by ((repeat' apply And.intro) <;> first | trivial | rfl | assumption | omega | decide | exact Or.inl rfl | exact Or.inr (Or.inl rfl) | exact Or.inr (Or.inr rfl)))⟩) [3, 4, 0, 5, 6, 1, 2] (by decide) rfl (Nat.le_of_ble_eq_true rfl) (Nat.le_of_ble_eq_true rfl)
                                  · skip
                                    have k282 : ¬ ((Int32.toInt x0) = 20) := fun h_9 => c263 ((fa_eq x0 20).mpr h_9)
                                    by_cases c283 : x0 = 21
                                    · skip
                                      have k284 : (Int32.toInt x0) = 21 := (fa_eq x0 21).mp c283
                                      refine r_tableIn 1 97 21 C dX0_hintOrMove_1 c283 (by decide) (by decide) rfl (by decide) ?_
                                      refine r_aload_n 97 0 C dX0_hintOrMove_97 rfl ?_
                                      refine r_iload_n 98 1 C dX0_hintOrMove_98 rfl ?_
                                      refine r_callVi 99 C dX0_hintOrMove_99 [] [(h0, .inr (0, [.ref h1, .ref h2, .ref h3, .int x1, .int x2, .long y0, .int x3, .int x4, .int x5, .int x6, .ref h7, .ref h8, .ref h9, .int x7, .int x8])), (h1, .inr (6, [.ref h4, .ref h10, .int x9, .int x10])), (h2, .inr (5, [.ref h5, .ref h6, .int x11, .int x12, .long y1, .long y2, .int x13])), (h3, .inr (3, [.ref h11, .ref h12, .ref h13, .ref h14, .int x14, .int x15, .int x16])), (h4, .inl (gJ g, 48, .inr (.inl fm0))), (h5, .inl (gB g, 400, .inl fn0)), (h6, .inl (gJ g, 2400, .inr (.inl fm1)))] [] (fun sz => c291_X0_move l g h0 h1 h2 h3 h4 h5 h6 x0 x1 x2 y0 x3 x4 x5 x6 h7 h8 h9 x7 x8 h10 x9 x10 x11 x12 y1 y2 x13 h11 h12 h13 h14 x14 x15 x16 fm0 fn0 fm1 i_x0 i_x3 i_x4 i_x5 i_x6 i_x7 i_x8 i_x9 i_x10 i_x11 i_x12 i_x13 sz) gX0_hintOrMove_X0_move rfl ⟨rfl, rfl⟩ 1 (by decide) ⟨Nat.le_of_ble_eq_true rfl, Nat.le_of_ble_eq_true rfl⟩ 0 rfl rfl [0, 1, 2, 3, 4, 5, 6] [] rfl rfl (by decide) (by decide) (by decide) rfl rfl (Nat.le_of_ble_eq_true rfl) ⟨Nat.le_of_ble_eq_true rfl, Nat.le_of_ble_eq_true rfl⟩ (fun r293 u295 w294 => ?_)
                                      obtain ⟨z285, z286, z287, z288, z289, z290, f291, f292⟩ := u295
                                      refine r_ws [(h0, .inr (0, [.ref h1, .ref h2, .ref h3, .int x1, .int x2, .long z285, .int x3, .int x4, .int x5, .int x6, .ref h7, .ref h8, .ref h9, .int x7, .int z286])), (h1, .inr (6, [.ref h4, .ref h10, .int x9, .int x10])), (h2, .inr (5, [.ref h5, .ref h6, .int z287, .int x12, .long z288, .long z289, .int z290])), (h3, .inr (3, [.ref h11, .ref h12, .ref h13, .ref h14, .int x14, .int x15, .int x16])), (h4, .inl (gJ g, 48, .inr (.inl fm0))), (h5, .inl (gB g, 400, .inl f291)), (h6, .inl (gJ g, 2400, .inr (.inl f292)))] rfl ?_
                                      have gz285 := fb_rngL z285
                                      have gz288 := fb_rngL z288
                                      have gz289 := fb_rngL z289
                                      have p296 : 0 ≤ (Int32.toInt r293) := w294.1
                                      have p297 : (Int32.toInt r293) ≤ 6 := w294.2.1
                                      have p298 : 0 ≤ (Int32.toInt z286) := w294.2.2.1
                                      have p299 : (Int32.toInt z286) ≤ 1 := w294.2.2.2.1
                                      have p300 : 0 ≤ (Int32.toInt z287) := w294.2.2.2.2.1
                                      have p301 : (Int32.toInt z287) ≤ 400 := w294.2.2.2.2.2.1
                                      have p302 : 0 ≤ (Int32.toInt z290) := w294.2.2.2.2.2.2.1
                                      have p303 : (Int32.toInt z290) ≤ 1 := w294.2.2.2.2.2.2.2.1
                                      have p304 : (((Int32.toInt z286), z285) : Int × Int64) = MVW (NMF x16) (NMF x15) (PA fm0 (Int32.toInt x9)) (Int32.toInt x0) ((Int32.toInt x8), y0) := w294.2.2.2.2.2.2.2.2.1
                                      have p305 : OEQ (PTS f291 f292 (Int32.toInt z287)) z288 z289 (Int32.toInt z290) (Int32.toInt r293) (MVO (Int32.toInt x12) (PA fm0 (Int32.toInt x9)) (Int32.toInt x0) (Int32.toInt x8) (PTS fn0 fm1 (Int32.toInt x11), y1, y2, (Int32.toInt x13))) := w294.2.2.2.2.2.2.2.2.2
                                      exact r_iret 102 Rt dX0_hintOrMove_102 (x2, z285, x5, x6, z286, z287, z288, z289, z290, f291, f292) (show 0 ≤ (Int32.toInt r293) ∧ (Int32.toInt r293) ≤ 7 ∧ 0 ≤ (Int32.toInt x5) ∧ (Int32.toInt x5) ≤ 1500 ∧ 0 ≤ (Int32.toInt x6) ∧ (Int32.toInt x6) ≤ 1 ∧ 0 ≤ (Int32.toInt z286) ∧ (Int32.toInt z286) ≤ 1 ∧ 0 ≤ (Int32.toInt z287) ∧ (Int32.toInt z287) ≤ 400 ∧ 0 ≤ (Int32.toInt z290) ∧ (Int32.toInt z290) ≤ 1 ∧ CEQ (((Int32.toInt z286), z285), (Int32.toInt x2)) ((Int32.toInt x5) - (Int32.toInt x3)) (PTS f291 f292 (Int32.toInt z287)) z288 z289 (Int32.toInt z290) (Int32.toInt x6) (Int32.toInt r293) (HMS (NMF x16) (NMF x15) (Int32.toInt x12) ((Int32.toInt x4) - (Int32.toInt x3)) (PA fm0 (Int32.toInt x9)) (Int32.toInt x0) ((((Int32.toInt x8), y0), (Int32.toInt x2)), ((Int32.toInt x5) - (Int32.toInt x3)), (PTS fn0 fm1 (Int32.toInt x11), y1, y2, (Int32.toInt x13)), (Int32.toInt x6))) ∧ ((Int32.toInt x2) ≤ (Int32.toInt x2) ∧ (Int32.toInt x2) ≤ (Int32.toInt x2) + 24) ∧ ((Int32.toInt x3) ≤ (Int32.toInt x5) ∧ (Int32.toInt x5) ≤ (Int32.toInt x4)) from ⟨(iv_wide (c := 0) (d := 7) ⟨p296, p297⟩ (by decide) (by decide)).1, (iv_wide (c := 0) (d := 7) ⟨p296, p297⟩ (by decide) (by decide)).2, i_x5.1, i_x5.2, i_x6.1, i_x6.2, (show _ ∧ _ from ⟨p298, p299⟩).1, (show _ ∧ _ from ⟨p298, p299⟩).2, (show _ ∧ _ from ⟨p300, p301⟩).1, (show _ ∧ _ from ⟨p300, p301⟩).2, (show _ ∧ _ from ⟨p302, p303⟩).1, (show _ ∧ _ from ⟨p302, p303⟩).2, (by exact hms_v (by omega) p304 p305), (by ((repeat' apply And.intro) <;> first | trivial | rfl | assumption | omega | decide | exact Or.inl rfl | exact Or.inr (Or.inl rfl) | exact Or.inr (Or.inr rfl))), (by ((repeat' apply And.intro) <;> first | trivial | rfl | assumption | omega | decide | exact Or.inl rfl | exact Or.inr (Or.inl rfl) | exact Or.inr (Or.inr rfl)))⟩) [0, 1, 2, 3, 4, 5, 6] (by decide) rfl (Nat.le_of_ble_eq_true rfl) (Nat.le_of_ble_eq_true rfl)
                                    · skip
                                      have k306 : ¬ ((Int32.toInt x0) = 21) := fun h_9 => c283 ((fa_eq x0 21).mpr h_9)
                                      by_cases c307 : x0 = 22
                                      · skip
                                        have k308 : (Int32.toInt x0) = 22 := (fa_eq x0 22).mp c307
                                        refine r_tableIn 1 97 22 C dX0_hintOrMove_1 c307 (by decide) (by decide) rfl (by decide) ?_
                                        refine r_aload_n 97 0 C dX0_hintOrMove_97 rfl ?_
                                        refine r_iload_n 98 1 C dX0_hintOrMove_98 rfl ?_
                                        refine r_callVi 99 C dX0_hintOrMove_99 [] [(h0, .inr (0, [.ref h1, .ref h2, .ref h3, .int x1, .int x2, .long y0, .int x3, .int x4, .int x5, .int x6, .ref h7, .ref h8, .ref h9, .int x7, .int x8])), (h1, .inr (6, [.ref h4, .ref h10, .int x9, .int x10])), (h2, .inr (5, [.ref h5, .ref h6, .int x11, .int x12, .long y1, .long y2, .int x13])), (h3, .inr (3, [.ref h11, .ref h12, .ref h13, .ref h14, .int x14, .int x15, .int x16])), (h4, .inl (gJ g, 48, .inr (.inl fm0))), (h5, .inl (gB g, 400, .inl fn0)), (h6, .inl (gJ g, 2400, .inr (.inl fm1)))] [] (fun sz => c291_X0_move l g h0 h1 h2 h3 h4 h5 h6 x0 x1 x2 y0 x3 x4 x5 x6 h7 h8 h9 x7 x8 h10 x9 x10 x11 x12 y1 y2 x13 h11 h12 h13 h14 x14 x15 x16 fm0 fn0 fm1 i_x0 i_x3 i_x4 i_x5 i_x6 i_x7 i_x8 i_x9 i_x10 i_x11 i_x12 i_x13 sz) gX0_hintOrMove_X0_move rfl ⟨rfl, rfl⟩ 1 (by decide) ⟨Nat.le_of_ble_eq_true rfl, Nat.le_of_ble_eq_true rfl⟩ 0 rfl rfl [0, 1, 2, 3, 4, 5, 6] [] rfl rfl (by decide) (by decide) (by decide) rfl rfl (Nat.le_of_ble_eq_true rfl) ⟨Nat.le_of_ble_eq_true rfl, Nat.le_of_ble_eq_true rfl⟩ (fun r317 u319 w318 => ?_)
                                        obtain ⟨z309, z310, z311, z312, z313, z314, f315, f316⟩ := u319
                                        refine r_ws [(h0, .inr (0, [.ref h1, .ref h2, .ref h3, .int x1, .int x2, .long z309, .int x3, .int x4, .int x5, .int x6, .ref h7, .ref h8, .ref h9, .int x7, .int z310])), (h1, .inr (6, [.ref h4, .ref h10, .int x9, .int x10])), (h2, .inr (5, [.ref h5, .ref h6, .int z311, .int x12, .long z312, .long z313, .int z314])), (h3, .inr (3, [.ref h11, .ref h12, .ref h13, .ref h14, .int x14, .int x15, .int x16])), (h4, .inl (gJ g, 48, .inr (.inl fm0))), (h5, .inl (gB g, 400, .inl f315)), (h6, .inl (gJ g, 2400, .inr (.inl f316)))] rfl ?_
                                        have gz309 := fb_rngL z309
                                        have gz312 := fb_rngL z312
                                        have gz313 := fb_rngL z313
                                        have p320 : 0 ≤ (Int32.toInt r317) := w318.1
                                        have p321 : (Int32.toInt r317) ≤ 6 := w318.2.1
                                        have p322 : 0 ≤ (Int32.toInt z310) := w318.2.2.1
                                        have p323 : (Int32.toInt z310) ≤ 1 := w318.2.2.2.1
                                        have p324 : 0 ≤ (Int32.toInt z311) := w318.2.2.2.2.1
                                        have p325 : (Int32.toInt z311) ≤ 400 := w318.2.2.2.2.2.1
                                        have p326 : 0 ≤ (Int32.toInt z314) := w318.2.2.2.2.2.2.1
                                        have p327 : (Int32.toInt z314) ≤ 1 := w318.2.2.2.2.2.2.2.1
                                        have p328 : (((Int32.toInt z310), z309) : Int × Int64) = MVW (NMF x16) (NMF x15) (PA fm0 (Int32.toInt x9)) (Int32.toInt x0) ((Int32.toInt x8), y0) := w318.2.2.2.2.2.2.2.2.1
                                        have p329 : OEQ (PTS f315 f316 (Int32.toInt z311)) z312 z313 (Int32.toInt z314) (Int32.toInt r317) (MVO (Int32.toInt x12) (PA fm0 (Int32.toInt x9)) (Int32.toInt x0) (Int32.toInt x8) (PTS fn0 fm1 (Int32.toInt x11), y1, y2, (Int32.toInt x13))) := w318.2.2.2.2.2.2.2.2.2
                                        exact r_iret 102 Rt dX0_hintOrMove_102 (x2, z309, x5, x6, z310, z311, z312, z313, z314, f315, f316) (show 0 ≤ (Int32.toInt r317) ∧ (Int32.toInt r317) ≤ 7 ∧ 0 ≤ (Int32.toInt x5) ∧ (Int32.toInt x5) ≤ 1500 ∧ 0 ≤ (Int32.toInt x6) ∧ (Int32.toInt x6) ≤ 1 ∧ 0 ≤ (Int32.toInt z310) ∧ (Int32.toInt z310) ≤ 1 ∧ 0 ≤ (Int32.toInt z311) ∧ (Int32.toInt z311) ≤ 400 ∧ 0 ≤ (Int32.toInt z314) ∧ (Int32.toInt z314) ≤ 1 ∧ CEQ (((Int32.toInt z310), z309), (Int32.toInt x2)) ((Int32.toInt x5) - (Int32.toInt x3)) (PTS f315 f316 (Int32.toInt z311)) z312 z313 (Int32.toInt z314) (Int32.toInt x6) (Int32.toInt r317) (HMS (NMF x16) (NMF x15) (Int32.toInt x12) ((Int32.toInt x4) - (Int32.toInt x3)) (PA fm0 (Int32.toInt x9)) (Int32.toInt x0) ((((Int32.toInt x8), y0), (Int32.toInt x2)), ((Int32.toInt x5) - (Int32.toInt x3)), (PTS fn0 fm1 (Int32.toInt x11), y1, y2, (Int32.toInt x13)), (Int32.toInt x6))) ∧ ((Int32.toInt x2) ≤ (Int32.toInt x2) ∧ (Int32.toInt x2) ≤ (Int32.toInt x2) + 24) ∧ ((Int32.toInt x3) ≤ (Int32.toInt x5) ∧ (Int32.toInt x5) ≤ (Int32.toInt x4)) from ⟨(iv_wide (c := 0) (d := 7) ⟨p320, p321⟩ (by decide) (by decide)).1, (iv_wide (c := 0) (d := 7) ⟨p320, p321⟩ (by decide) (by decide)).2, i_x5.1, i_x5.2, i_x6.1, i_x6.2, (show _ ∧ _ from ⟨p322, p323⟩).1, (show _ ∧ _ from ⟨p322, p323⟩).2, (show _ ∧ _ from ⟨p324, p325⟩).1, (show _ ∧ _ from ⟨p324, p325⟩).2, (show _ ∧ _ from ⟨p326, p327⟩).1, (show _ ∧ _ from ⟨p326, p327⟩).2, (by exact hms_v (by omega) p328 p329), (by ((repeat' apply And.intro) <;> first | trivial | rfl | assumption | omega | decide | exact Or.inl rfl | exact Or.inr (Or.inl rfl) | exact Or.inr (Or.inr rfl))), (by ((repeat' apply And.intro) <;> first | trivial | rfl | assumption | omega | decide | exact Or.inl rfl | exact Or.inr (Or.inl rfl) | exact Or.inr (Or.inr rfl)))⟩) [0, 1, 2, 3, 4, 5, 6] (by decide) rfl (Nat.le_of_ble_eq_true rfl) (Nat.le_of_ble_eq_true rfl)
                                      · skip
                                        have k330 : ¬ ((Int32.toInt x0) = 22) := fun h_9 => c307 ((fa_eq x0 22).mpr h_9)
                                        refine r_tableOut 1 108 C dX0_hintOrMove_1 (by omega) (by decide) ?_
                                        refine r_aload_n 108 0 C dX0_hintOrMove_108 rfl ?_
                                        refine r_callVi 109 C dX0_hintOrMove_109 [] [(h0, .inr (0, [.ref h1, .ref h2, .ref h3, .int x1, .int x2, .long y0, .int x3, .int x4, .int x5, .int x6, .ref h7, .ref h8, .ref h9, .int x7, .int x8])), (h1, .inr (6, [.ref h4, .ref h10, .int x9, .int x10])), (h3, .inr (3, [.ref h11, .ref h12, .ref h13, .ref h14, .int x14, .int x15, .int x16])), (h4, .inl (gJ g, 48, .inr (.inl fm0)))] [(h2, .inr (5, [.ref h5, .ref h6, .int x11, .int x12, .long y1, .long y2, .int x13])), (h5, .inl (gB g, 400, .inl fn0)), (h6, .inl (gJ g, 2400, .inr (.inl fm1)))] (fun sz => c292_X0_stems l g h0 h1 h3 h4 h2 x1 x2 y0 x3 x4 x5 x6 h7 h8 h9 x7 x8 h10 x9 x10 h11 h12 h13 h14 x14 x15 x16 fm0 i_x2 i_x3 i_x4 i_x5 i_x6 i_x7 i_x8 i_x9 i_x10 sz) gX0_hintOrMove_X0_stems rfl ⟨rfl, rfl⟩ 0 (by decide) ⟨Nat.le_of_ble_eq_true rfl, Nat.le_of_ble_eq_true rfl⟩ 0 rfl rfl [0, 1, 3, 4] [2, 5, 6] rfl rfl (by decide) (by decide) (by decide) rfl rfl (Nat.le_of_ble_eq_true rfl) ⟨Nat.le_of_ble_eq_true rfl, Nat.le_of_ble_eq_true rfl⟩ (fun r334 u336 w335 => ?_)
                                        obtain ⟨z331, z332, z333⟩ := u336
                                        refine r_ws [(h2, .inr (5, [.ref h5, .ref h6, .int x11, .int x12, .long y1, .long y2, .int x13])), (h5, .inl (gB g, 400, .inl fn0)), (h6, .inl (gJ g, 2400, .inr (.inl fm1))), (h0, .inr (0, [.ref h1, .ref h2, .ref h3, .int x1, .int z331, .long z332, .int x3, .int x4, .int x5, .int x6, .ref h7, .ref h8, .ref h9, .int x7, .int z333])), (h1, .inr (6, [.ref h4, .ref h10, .int x9, .int x10])), (h3, .inr (3, [.ref h11, .ref h12, .ref h13, .ref h14, .int x14, .int x15, .int x16])), (h4, .inl (gJ g, 48, .inr (.inl fm0)))] rfl ?_
                                        have gz331 := fb_rng z331
                                        have gz332 := fb_rngL z332
                                        have p337 : 0 ≤ (Int32.toInt r334) := w335.1
                                        have p338 : (Int32.toInt r334) ≤ 2 := w335.2.1
                                        have p339 : 0 ≤ (Int32.toInt z333) := w335.2.2.1
                                        have p340 : (Int32.toInt z333) ≤ 1 := w335.2.2.2.1
                                        have p341 : (((((Int32.toInt z333), z332), (Int32.toInt z331)), (Int32.toInt r334)) : WH × Int) = STM (NMF x16) (NMF x15) (PA fm0 (Int32.toInt x9)) (((Int32.toInt x8), y0), (Int32.toInt x2)) := w335.2.2.2.2.1
                                        have p342 : ((Int32.toInt x2) ≤ (Int32.toInt z331) ∧ (Int32.toInt z331) ≤ (Int32.toInt x2) + 24) := w335.2.2.2.2.2
                                        exact r_iret 112 Rt dX0_hintOrMove_112 (z331, z332, x5, x6, z333, x11, y1, y2, x13, fn0, fm1) (show 0 ≤ (Int32.toInt r334) ∧ (Int32.toInt r334) ≤ 7 ∧ 0 ≤ (Int32.toInt x5) ∧ (Int32.toInt x5) ≤ 1500 ∧ 0 ≤ (Int32.toInt x6) ∧ (Int32.toInt x6) ≤ 1 ∧ 0 ≤ (Int32.toInt z333) ∧ (Int32.toInt z333) ≤ 1 ∧ 0 ≤ (Int32.toInt x11) ∧ (Int32.toInt x11) ≤ 400 ∧ 0 ≤ (Int32.toInt x13) ∧ (Int32.toInt x13) ≤ 1 ∧ CEQ (((Int32.toInt z333), z332), (Int32.toInt z331)) ((Int32.toInt x5) - (Int32.toInt x3)) (PTS fn0 fm1 (Int32.toInt x11)) y1 y2 (Int32.toInt x13) (Int32.toInt x6) (Int32.toInt r334) (HMS (NMF x16) (NMF x15) (Int32.toInt x12) ((Int32.toInt x4) - (Int32.toInt x3)) (PA fm0 (Int32.toInt x9)) (Int32.toInt x0) ((((Int32.toInt x8), y0), (Int32.toInt x2)), ((Int32.toInt x5) - (Int32.toInt x3)), (PTS fn0 fm1 (Int32.toInt x11), y1, y2, (Int32.toInt x13)), (Int32.toInt x6))) ∧ ((Int32.toInt x2) ≤ (Int32.toInt z331) ∧ (Int32.toInt z331) ≤ (Int32.toInt x2) + 24) ∧ ((Int32.toInt x3) ≤ (Int32.toInt x5) ∧ (Int32.toInt x5) ≤ (Int32.toInt x4)) from ⟨(iv_wide (c := 0) (d := 7) ⟨p337, p338⟩ (by decide) (by decide)).1, (iv_wide (c := 0) (d := 7) ⟨p337, p338⟩ (by decide) (by decide)).2, i_x5.1, i_x5.2, i_x6.1, i_x6.2, (show _ ∧ _ from ⟨p339, p340⟩).1, (show _ ∧ _ from ⟨p339, p340⟩).2, i_x11.1, i_x11.2, i_x13.1, i_x13.2, (by exact hms_s (by omega) p341), (by ((repeat' apply And.intro) <;> first | trivial | rfl | assumption | omega | decide | exact Or.inl rfl | exact Or.inr (Or.inl rfl) | exact Or.inr (Or.inr rfl))), (by ((repeat' apply And.intro) <;> first | trivial | rfl | assumption | omega | decide | exact Or.inl rfl | exact Or.inr (Or.inl rfl) | exact Or.inr (Or.inr rfl)))⟩) [3, 4, 0, 5, 6, 1, 2] (by decide) rfl (Nat.le_of_ble_eq_true rfl) (Nat.le_of_ble_eq_true rfl)
set_option maxHeartbeats 4000000 in
set_option maxRecDepth 100000 in
theorem c298_X0_isFlex (l : Launch) (g : GD) (x0 : Int32) (sz : Nat) : Met l yX0_isFlex wsX0_isFlex ({ frames := 0, cells := 0, slots := 0, locals := 0 }) (va_Pc [.int x0] (PW g [] sz)) (va_Qi (fun (r : Int32) (_ : Unit) => 0 ≤ (Int32.toInt r) ∧ (Int32.toInt r) ≤ 1 ∧ FLF (Int32.toInt x0) (Int32.toInt r)) (BW g (va_A [] sz) (fun _ : Unit => [])) (va_A [] sz)) 0 0 (va_A [] sz) := by
  refine met_z RX0 (by decide) rfl rfl (Nat.le_of_ble_eq_true rfl) [(0, .int x0)] rfl ?_
  intro p e s m args below meth c A Q C hnm Rt
  have gx0 := fb_rng x0
  refine r_iload_n 0 0 C dX0_isFlex_0 rfl ?_
  refine r_sipush 1 290 C dX0_isFlex_1 (by decide) ?_
  refine r_icmp_lt 4 18 C dX0_isFlex_4 (by decide) (fun c1 => ?_) (fun c1 => ?_)
  · skip
    have k2 : (Int32.toInt x0) < 290 := (fa_lt x0 290).mp c1
    refine r_iconst 18 0 C dX0_isFlex_18 (by decide) ?_
    exact r_zret 19 Rt dX0_isFlex_19 (by decide) () (show 0 ≤ (Int32.toInt 0) ∧ (Int32.toInt 0) ≤ 1 ∧ FLF (Int32.toInt x0) 0 from ⟨(by ((repeat' apply And.intro) <;> first | trivial | rfl | assumption | omega | decide | exact Or.inl rfl | exact Or.inr (Or.inl rfl) | exact Or.inr (Or.inr rfl))), (by ((repeat' apply And.intro) <;> first | trivial | rfl | assumption | omega | decide | exact Or.inl rfl | exact Or.inr (Or.inl rfl) | exact Or.inr (Or.inr rfl))), (by first | exact Or.inl ⟨⟨by omega, by omega⟩, rfl⟩ | exact Or.inr ⟨by unfold FLX; omega, rfl⟩)⟩) [] (by decide) rfl (Nat.le_of_ble_eq_true rfl) (Nat.le_of_ble_eq_true rfl)
  · skip
    have k3 : ¬ ((Int32.toInt x0) < 290) := fun h_9 => c1 ((fa_lt x0 290).mpr h_9)
    refine r_iload_n 7 0 C dX0_isFlex_7 rfl ?_
    refine r_sipush 8 293 C dX0_isFlex_8 (by decide) ?_
    refine r_icmp_gt 11 18 C dX0_isFlex_11 (by decide) (fun c4 => ?_) (fun c4 => ?_)
    · skip
      have k5 : 293 < (Int32.toInt x0) := (fa_lt 293 x0).mp c4
      refine r_iconst 18 0 C dX0_isFlex_18 (by decide) ?_
      exact r_zret 19 Rt dX0_isFlex_19 (by decide) () (show 0 ≤ (Int32.toInt 0) ∧ (Int32.toInt 0) ≤ 1 ∧ FLF (Int32.toInt x0) 0 from ⟨(by ((repeat' apply And.intro) <;> first | trivial | rfl | assumption | omega | decide | exact Or.inl rfl | exact Or.inr (Or.inl rfl) | exact Or.inr (Or.inr rfl))), (by ((repeat' apply And.intro) <;> first | trivial | rfl | assumption | omega | decide | exact Or.inl rfl | exact Or.inr (Or.inl rfl) | exact Or.inr (Or.inr rfl))), (by first | exact Or.inl ⟨⟨by omega, by omega⟩, rfl⟩ | exact Or.inr ⟨by unfold FLX; omega, rfl⟩)⟩) [] (by decide) rfl (Nat.le_of_ble_eq_true rfl) (Nat.le_of_ble_eq_true rfl)
    · skip
      have k6 : ¬ (293 < (Int32.toInt x0)) := fun h_9 => c4 ((fa_lt 293 x0).mpr h_9)
      refine r_iconst 14 1 C dX0_isFlex_14 (by decide) ?_
      refine r_goto 15 19 C dX0_isFlex_15 (by decide) ?_
      exact r_zret 19 Rt dX0_isFlex_19 (by decide) () (show 0 ≤ (Int32.toInt 1) ∧ (Int32.toInt 1) ≤ 1 ∧ FLF (Int32.toInt x0) 1 from ⟨(by ((repeat' apply And.intro) <;> first | trivial | rfl | assumption | omega | decide | exact Or.inl rfl | exact Or.inr (Or.inl rfl) | exact Or.inr (Or.inr rfl))), (by ((repeat' apply And.intro) <;> first | trivial | rfl | assumption | omega | decide | exact Or.inl rfl | exact Or.inr (Or.inl rfl) | exact Or.inr (Or.inr rfl))), (by first | exact Or.inl ⟨⟨by omega, by omega⟩, rfl⟩ | exact Or.inr ⟨by unfold FLX; omega, rfl⟩)⟩) [] (by decide) rfl (Nat.le_of_ble_eq_true rfl) (Nat.le_of_ble_eq_true rfl)
set_option maxHeartbeats 4000000 in
set_option maxRecDepth 100000 in
theorem c299_X7_wantedBy (l : Launch) (g : GD) (x0 : Int32) (sz : Nat) : Met l yX7_wantedBy wsX7_wantedBy ({ frames := 0, cells := 0, slots := 0, locals := 0 }) (va_Pc [.int x0] (PW g [] sz)) (va_Qi (fun (r : Int32) (_ : Unit) => -1 ≤ (Int32.toInt r) ∧ (Int32.toInt r) ≤ 4 ∧ (Int32.toInt r) = NED (Int32.toInt x0) ∧ ((Int32.toInt r) = 1 ∨ (Int32.toInt r) = 2 ∨ (Int32.toInt r) = 4 ∨ (Int32.toInt r) = -1)) (BW g (va_A [] sz) (fun _ : Unit => [])) (va_A [] sz)) 0 0 (va_A [] sz) := by
  refine met_i RX7 (by decide) rfl rfl (Nat.le_of_ble_eq_true rfl) [(0, .int x0)] rfl ?_
  intro p e s m args below meth c A Q C hnm Rt
  have gx0 := fb_rng x0
  refine r_iload_n 0 0 C dX7_wantedBy_0 rfl ?_
  by_cases c1 : x0 = 3
  · skip
    have k2 : (Int32.toInt x0) = 3 := (fa_eq x0 3).mp c1
    refine r_tableIn 1 130 3 C dX7_wantedBy_1 c1 (by decide) (by decide) rfl (by decide) ?_
    refine r_iconst 130 2 C dX7_wantedBy_130 (by decide) ?_
    exact r_iret 131 Rt dX7_wantedBy_131 () (show -1 ≤ (Int32.toInt 2) ∧ (Int32.toInt 2) ≤ 4 ∧ 2 = NED (Int32.toInt x0) ∧ (2 = 1 ∨ 2 = 2 ∨ 2 = 4 ∨ 2 = -1) from ⟨(by ((repeat' apply And.intro) <;> first | trivial | rfl | assumption | omega | decide | exact Or.inl rfl | exact Or.inr (Or.inl rfl) | exact Or.inr (Or.inr rfl))), (by ((repeat' apply And.intro) <;> first | trivial | rfl | assumption | omega | decide | exact Or.inl rfl | exact Or.inr (Or.inl rfl) | exact Or.inr (Or.inr rfl))), (by first | exact (if_pos (by omega)).symm | exact ((if_neg (by omega)).trans (if_pos (by omega))).symm | exact ((if_neg (by omega)).trans ((if_neg (by omega)).trans (if_pos (by omega)))).symm | exact ((if_neg (by omega)).trans ((if_neg (by omega)).trans (if_neg (by omega)))).symm), (by ((repeat' apply And.intro) <;> first | trivial | rfl | assumption | omega | decide | exact Or.inl rfl | exact Or.inr (Or.inl rfl) | exact Or.inr (Or.inr rfl)))⟩) [] (by decide) rfl (Nat.le_of_ble_eq_true rfl) (Nat.le_of_ble_eq_true rfl)
  · skip
    have k3 : ¬ ((Int32.toInt x0) = 3) := fun h_9 => c1 ((fa_eq x0 3).mpr h_9)
    by_cases c4 : x0 = 4
    · skip
      have k5 : (Int32.toInt x0) = 4 := (fa_eq x0 4).mp c4
      refine r_tableIn 1 130 4 C dX7_wantedBy_1 c4 (by decide) (by decide) rfl (by decide) ?_
      refine r_iconst 130 2 C dX7_wantedBy_130 (by decide) ?_
      exact r_iret 131 Rt dX7_wantedBy_131 () (show -1 ≤ (Int32.toInt 2) ∧ (Int32.toInt 2) ≤ 4 ∧ 2 = NED (Int32.toInt x0) ∧ (2 = 1 ∨ 2 = 2 ∨ 2 = 4 ∨ 2 = -1) from ⟨(by ((repeat' apply And.intro) <;> first | trivial | rfl | assumption | omega | decide | exact Or.inl rfl | exact Or.inr (Or.inl rfl) | exact Or.inr (Or.inr rfl))), (by ((repeat' apply And.intro) <;> first | trivial | rfl | assumption | omega | decide | exact Or.inl rfl | exact Or.inr (Or.inl rfl) | exact Or.inr (Or.inr rfl))), (by first | exact (if_pos (by omega)).symm | exact ((if_neg (by omega)).trans (if_pos (by omega))).symm | exact ((if_neg (by omega)).trans ((if_neg (by omega)).trans (if_pos (by omega)))).symm | exact ((if_neg (by omega)).trans ((if_neg (by omega)).trans (if_neg (by omega)))).symm), (by ((repeat' apply And.intro) <;> first | trivial | rfl | assumption | omega | decide | exact Or.inl rfl | exact Or.inr (Or.inl rfl) | exact Or.inr (Or.inr rfl)))⟩) [] (by decide) rfl (Nat.le_of_ble_eq_true rfl) (Nat.le_of_ble_eq_true rfl)
    · skip
      have k6 : ¬ ((Int32.toInt x0) = 4) := fun h_9 => c4 ((fa_eq x0 4).mpr h_9)
      by_cases c7 : x0 = 5
      · skip
        have k8 : (Int32.toInt x0) = 5 := (fa_eq x0 5).mp c7
        refine r_tableIn 1 128 5 C dX7_wantedBy_1 c7 (by decide) (by decide) rfl (by decide) ?_
        refine r_iconst 128 1 C dX7_wantedBy_128 (by decide) ?_
        exact r_iret 129 Rt dX7_wantedBy_129 () (show -1 ≤ (Int32.toInt 1) ∧ (Int32.toInt 1) ≤ 4 ∧ 1 = NED (Int32.toInt x0) ∧ (1 = 1 ∨ 1 = 2 ∨ 1 = 4 ∨ 1 = -1) from ⟨(by ((repeat' apply And.intro) <;> first | trivial | rfl | assumption | omega | decide | exact Or.inl rfl | exact Or.inr (Or.inl rfl) | exact Or.inr (Or.inr rfl))), (by ((repeat' apply And.intro) <;> first | trivial | rfl | assumption | omega | decide | exact Or.inl rfl | exact Or.inr (Or.inl rfl) | exact Or.inr (Or.inr rfl))), (by first | exact (if_pos (by omega)).symm | exact ((if_neg (by omega)).trans (if_pos (by omega))).symm | exact ((if_neg (by omega)).trans ((if_neg (by omega)).trans (if_pos (by omega)))).symm | exact ((if_neg (by omega)).trans ((if_neg (by omega)).trans (if_neg (by omega)))).symm), (by ((repeat' apply And.intro) <;> first | trivial | rfl | assumption | omega | decide | exact Or.inl rfl | exact Or.inr (Or.inl rfl) | exact Or.inr (Or.inr rfl)))⟩) [] (by decide) rfl (Nat.le_of_ble_eq_true rfl) (Nat.le_of_ble_eq_true rfl)
      · skip
        have k9 : ¬ ((Int32.toInt x0) = 5) := fun h_9 => c7 ((fa_eq x0 5).mpr h_9)
        by_cases c10 : x0 = 6
        · skip
          have k11 : (Int32.toInt x0) = 6 := (fa_eq x0 6).mp c10
          refine r_tableIn 1 134 6 C dX7_wantedBy_1 c10 (by decide) (by decide) rfl (by decide) ?_
          refine r_iconst 134 (-1) C dX7_wantedBy_134 (by decide) ?_
          exact r_iret 135 Rt dX7_wantedBy_135 () (show -1 ≤ (Int32.toInt (-1)) ∧ (Int32.toInt (-1)) ≤ 4 ∧ (-1) = NED (Int32.toInt x0) ∧ ((-1) = 1 ∨ (-1) = 2 ∨ (-1) = 4 ∨ (-1) = -1) from ⟨(by ((repeat' apply And.intro) <;> first | trivial | rfl | assumption | omega | decide | exact Or.inl rfl | exact Or.inr (Or.inl rfl) | exact Or.inr (Or.inr rfl))), (by ((repeat' apply And.intro) <;> first | trivial | rfl | assumption | omega | decide | exact Or.inl rfl | exact Or.inr (Or.inl rfl) | exact Or.inr (Or.inr rfl))), (by first | exact (if_pos (by omega)).symm | exact ((if_neg (by omega)).trans (if_pos (by omega))).symm | exact ((if_neg (by omega)).trans ((if_neg (by omega)).trans (if_pos (by omega)))).symm | exact ((if_neg (by omega)).trans ((if_neg (by omega)).trans (if_neg (by omega)))).symm), (by ((repeat' apply And.intro) <;> first | trivial | rfl | assumption | omega | decide | exact Or.inl rfl | exact Or.inr (Or.inl rfl) | exact Or.inr (Or.inr rfl)))⟩) [] (by decide) rfl (Nat.le_of_ble_eq_true rfl) (Nat.le_of_ble_eq_true rfl)
        · skip
          have k12 : ¬ ((Int32.toInt x0) = 6) := fun h_9 => c10 ((fa_eq x0 6).mpr h_9)
          by_cases c13 : x0 = 7
          · skip
            have k14 : (Int32.toInt x0) = 7 := (fa_eq x0 7).mp c13
            refine r_tableIn 1 134 7 C dX7_wantedBy_1 c13 (by decide) (by decide) rfl (by decide) ?_
            refine r_iconst 134 (-1) C dX7_wantedBy_134 (by decide) ?_
            exact r_iret 135 Rt dX7_wantedBy_135 () (show -1 ≤ (Int32.toInt (-1)) ∧ (Int32.toInt (-1)) ≤ 4 ∧ (-1) = NED (Int32.toInt x0) ∧ ((-1) = 1 ∨ (-1) = 2 ∨ (-1) = 4 ∨ (-1) = -1) from ⟨(by ((repeat' apply And.intro) <;> first | trivial | rfl | assumption | omega | decide | exact Or.inl rfl | exact Or.inr (Or.inl rfl) | exact Or.inr (Or.inr rfl))), (by ((repeat' apply And.intro) <;> first | trivial | rfl | assumption | omega | decide | exact Or.inl rfl | exact Or.inr (Or.inl rfl) | exact Or.inr (Or.inr rfl))), (by first | exact (if_pos (by omega)).symm | exact ((if_neg (by omega)).trans (if_pos (by omega))).symm | exact ((if_neg (by omega)).trans ((if_neg (by omega)).trans (if_pos (by omega)))).symm | exact ((if_neg (by omega)).trans ((if_neg (by omega)).trans (if_neg (by omega)))).symm), (by ((repeat' apply And.intro) <;> first | trivial | rfl | assumption | omega | decide | exact Or.inl rfl | exact Or.inr (Or.inl rfl) | exact Or.inr (Or.inr rfl)))⟩) [] (by decide) rfl (Nat.le_of_ble_eq_true rfl) (Nat.le_of_ble_eq_true rfl)
          · skip
            have k15 : ¬ ((Int32.toInt x0) = 7) := fun h_9 => c13 ((fa_eq x0 7).mpr h_9)
            by_cases c16 : x0 = 8
            · skip
              have k17 : (Int32.toInt x0) = 8 := (fa_eq x0 8).mp c16
              refine r_tableIn 1 134 8 C dX7_wantedBy_1 c16 (by decide) (by decide) rfl (by decide) ?_
              refine r_iconst 134 (-1) C dX7_wantedBy_134 (by decide) ?_
              exact r_iret 135 Rt dX7_wantedBy_135 () (show -1 ≤ (Int32.toInt (-1)) ∧ (Int32.toInt (-1)) ≤ 4 ∧ (-1) = NED (Int32.toInt x0) ∧ ((-1) = 1 ∨ (-1) = 2 ∨ (-1) = 4 ∨ (-1) = -1) from ⟨(by ((repeat' apply And.intro) <;> first | trivial | rfl | assumption | omega | decide | exact Or.inl rfl | exact Or.inr (Or.inl rfl) | exact Or.inr (Or.inr rfl))), (by ((repeat' apply And.intro) <;> first | trivial | rfl | assumption | omega | decide | exact Or.inl rfl | exact Or.inr (Or.inl rfl) | exact Or.inr (Or.inr rfl))), (by first | exact (if_pos (by omega)).symm | exact ((if_neg (by omega)).trans (if_pos (by omega))).symm | exact ((if_neg (by omega)).trans ((if_neg (by omega)).trans (if_pos (by omega)))).symm | exact ((if_neg (by omega)).trans ((if_neg (by omega)).trans (if_neg (by omega)))).symm), (by ((repeat' apply And.intro) <;> first | trivial | rfl | assumption | omega | decide | exact Or.inl rfl | exact Or.inr (Or.inl rfl) | exact Or.inr (Or.inr rfl)))⟩) [] (by decide) rfl (Nat.le_of_ble_eq_true rfl) (Nat.le_of_ble_eq_true rfl)
            · skip
              have k18 : ¬ ((Int32.toInt x0) = 8) := fun h_9 => c16 ((fa_eq x0 8).mpr h_9)
              by_cases c19 : x0 = 9
              · skip
                have k20 : (Int32.toInt x0) = 9 := (fa_eq x0 9).mp c19
                refine r_tableIn 1 128 9 C dX7_wantedBy_1 c19 (by decide) (by decide) rfl (by decide) ?_
                refine r_iconst 128 1 C dX7_wantedBy_128 (by decide) ?_
                exact r_iret 129 Rt dX7_wantedBy_129 () (show -1 ≤ (Int32.toInt 1) ∧ (Int32.toInt 1) ≤ 4 ∧ 1 = NED (Int32.toInt x0) ∧ (1 = 1 ∨ 1 = 2 ∨ 1 = 4 ∨ 1 = -1) from ⟨(by ((repeat' apply And.intro) <;> first | trivial | rfl | assumption | omega | decide | exact Or.inl rfl | exact Or.inr (Or.inl rfl) | exact Or.inr (Or.inr rfl))), (by ((repeat' apply And.intro) <;> first | trivial | rfl | assumption | omega | decide | exact Or.inl rfl | exact Or.inr (Or.inl rfl) | exact Or.inr (Or.inr rfl))), (by first | exact (if_pos (by omega)).symm | exact ((if_neg (by omega)).trans (if_pos (by omega))).symm | exact ((if_neg (by omega)).trans ((if_neg (by omega)).trans (if_pos (by omega)))).symm | exact ((if_neg (by omega)).trans ((if_neg (by omega)).trans (if_neg (by omega)))).symm), (by ((repeat' apply And.intro) <;> first | trivial | rfl | assumption | omega | decide | exact Or.inl rfl | exact Or.inr (Or.inl rfl) | exact Or.inr (Or.inr rfl)))⟩) [] (by decide) rfl (Nat.le_of_ble_eq_true rfl) (Nat.le_of_ble_eq_true rfl)
              · skip
                have k21 : ¬ ((Int32.toInt x0) = 9) := fun h_9 => c19 ((fa_eq x0 9).mpr h_9)
                by_cases c22 : x0 = 10
                · skip
                  have k23 : (Int32.toInt x0) = 10 := (fa_eq x0 10).mp c22
                  refine r_tableIn 1 130 10 C dX7_wantedBy_1 c22 (by decide) (by decide) rfl (by decide) ?_
                  refine r_iconst 130 2 C dX7_wantedBy_130 (by decide) ?_
                  exact r_iret 131 Rt dX7_wantedBy_131 () (show -1 ≤ (Int32.toInt 2) ∧ (Int32.toInt 2) ≤ 4 ∧ 2 = NED (Int32.toInt x0) ∧ (2 = 1 ∨ 2 = 2 ∨ 2 = 4 ∨ 2 = -1) from ⟨(by ((repeat' apply And.intro) <;> first | trivial | rfl | assumption | omega | decide | exact Or.inl rfl | exact Or.inr (Or.inl rfl) | exact Or.inr (Or.inr rfl))), (by ((repeat' apply And.intro) <;> first | trivial | rfl | assumption | omega | decide | exact Or.inl rfl | exact Or.inr (Or.inl rfl) | exact Or.inr (Or.inr rfl))), (by first | exact (if_pos (by omega)).symm | exact ((if_neg (by omega)).trans (if_pos (by omega))).symm | exact ((if_neg (by omega)).trans ((if_neg (by omega)).trans (if_pos (by omega)))).symm | exact ((if_neg (by omega)).trans ((if_neg (by omega)).trans (if_neg (by omega)))).symm), (by ((repeat' apply And.intro) <;> first | trivial | rfl | assumption | omega | decide | exact Or.inl rfl | exact Or.inr (Or.inl rfl) | exact Or.inr (Or.inr rfl)))⟩) [] (by decide) rfl (Nat.le_of_ble_eq_true rfl) (Nat.le_of_ble_eq_true rfl)
                · skip
                  have k24 : ¬ ((Int32.toInt x0) = 10) := fun h_9 => c22 ((fa_eq x0 10).mpr h_9)
                  by_cases c25 : x0 = 11
                  · skip
                    have k26 : (Int32.toInt x0) = 11 := (fa_eq x0 11).mp c25
                    refine r_tableIn 1 130 11 C dX7_wantedBy_1 c25 (by decide) (by decide) rfl (by decide) ?_
                    refine r_iconst 130 2 C dX7_wantedBy_130 (by decide) ?_
                    exact r_iret 131 Rt dX7_wantedBy_131 () (show -1 ≤ (Int32.toInt 2) ∧ (Int32.toInt 2) ≤ 4 ∧ 2 = NED (Int32.toInt x0) ∧ (2 = 1 ∨ 2 = 2 ∨ 2 = 4 ∨ 2 = -1) from ⟨(by ((repeat' apply And.intro) <;> first | trivial | rfl | assumption | omega | decide | exact Or.inl rfl | exact Or.inr (Or.inl rfl) | exact Or.inr (Or.inr rfl))), (by ((repeat' apply And.intro) <;> first | trivial | rfl | assumption | omega | decide | exact Or.inl rfl | exact Or.inr (Or.inl rfl) | exact Or.inr (Or.inr rfl))), (by first | exact (if_pos (by omega)).symm | exact ((if_neg (by omega)).trans (if_pos (by omega))).symm | exact ((if_neg (by omega)).trans ((if_neg (by omega)).trans (if_pos (by omega)))).symm | exact ((if_neg (by omega)).trans ((if_neg (by omega)).trans (if_neg (by omega)))).symm), (by ((repeat' apply And.intro) <;> first | trivial | rfl | assumption | omega | decide | exact Or.inl rfl | exact Or.inr (Or.inl rfl) | exact Or.inr (Or.inr rfl)))⟩) [] (by decide) rfl (Nat.le_of_ble_eq_true rfl) (Nat.le_of_ble_eq_true rfl)
                  · skip
                    have k27 : ¬ ((Int32.toInt x0) = 11) := fun h_9 => c25 ((fa_eq x0 11).mpr h_9)
                    by_cases c28 : x0 = 12
                    · skip
                      have k29 : (Int32.toInt x0) = 12 := (fa_eq x0 12).mp c28
                      refine r_tableIn 1 130 12 C dX7_wantedBy_1 c28 (by decide) (by decide) rfl (by decide) ?_
                      refine r_iconst 130 2 C dX7_wantedBy_130 (by decide) ?_
                      exact r_iret 131 Rt dX7_wantedBy_131 () (show -1 ≤ (Int32.toInt 2) ∧ (Int32.toInt 2) ≤ 4 ∧ 2 = NED (Int32.toInt x0) ∧ (2 = 1 ∨ 2 = 2 ∨ 2 = 4 ∨ 2 = -1) from ⟨(by ((repeat' apply And.intro) <;> first | trivial | rfl | assumption | omega | decide | exact Or.inl rfl | exact Or.inr (Or.inl rfl) | exact Or.inr (Or.inr rfl))), (by ((repeat' apply And.intro) <;> first | trivial | rfl | assumption | omega | decide | exact Or.inl rfl | exact Or.inr (Or.inl rfl) | exact Or.inr (Or.inr rfl))), (by first | exact (if_pos (by omega)).symm | exact ((if_neg (by omega)).trans (if_pos (by omega))).symm | exact ((if_neg (by omega)).trans ((if_neg (by omega)).trans (if_pos (by omega)))).symm | exact ((if_neg (by omega)).trans ((if_neg (by omega)).trans (if_neg (by omega)))).symm), (by ((repeat' apply And.intro) <;> first | trivial | rfl | assumption | omega | decide | exact Or.inl rfl | exact Or.inr (Or.inl rfl) | exact Or.inr (Or.inr rfl)))⟩) [] (by decide) rfl (Nat.le_of_ble_eq_true rfl) (Nat.le_of_ble_eq_true rfl)
                    · skip
                      have k30 : ¬ ((Int32.toInt x0) = 12) := fun h_9 => c28 ((fa_eq x0 12).mpr h_9)
                      by_cases c31 : x0 = 13
                      · skip
                        have k32 : (Int32.toInt x0) = 13 := (fa_eq x0 13).mp c31
                        refine r_tableIn 1 134 13 C dX7_wantedBy_1 c31 (by decide) (by decide) rfl (by decide) ?_
                        refine r_iconst 134 (-1) C dX7_wantedBy_134 (by decide) ?_
                        exact r_iret 135 Rt dX7_wantedBy_135 () (show -1 ≤ (Int32.toInt (-1)) ∧ (Int32.toInt (-1)) ≤ 4 ∧ (-1) = NED (Int32.toInt x0) ∧ ((-1) = 1 ∨ (-1) = 2 ∨ (-1) = 4 ∨ (-1) = -1) from ⟨(by ((repeat' apply And.intro) <;> first | trivial | rfl | assumption | omega | decide | exact Or.inl rfl | exact Or.inr (Or.inl rfl) | exact Or.inr (Or.inr rfl))), (by ((repeat' apply And.intro) <;> first | trivial | rfl | assumption | omega | decide | exact Or.inl rfl | exact Or.inr (Or.inl rfl) | exact Or.inr (Or.inr rfl))), (by first | exact (if_pos (by omega)).symm | exact ((if_neg (by omega)).trans (if_pos (by omega))).symm | exact ((if_neg (by omega)).trans ((if_neg (by omega)).trans (if_pos (by omega)))).symm | exact ((if_neg (by omega)).trans ((if_neg (by omega)).trans (if_neg (by omega)))).symm), (by ((repeat' apply And.intro) <;> first | trivial | rfl | assumption | omega | decide | exact Or.inl rfl | exact Or.inr (Or.inl rfl) | exact Or.inr (Or.inr rfl)))⟩) [] (by decide) rfl (Nat.le_of_ble_eq_true rfl) (Nat.le_of_ble_eq_true rfl)
                      · skip
                        have k33 : ¬ ((Int32.toInt x0) = 13) := fun h_9 => c31 ((fa_eq x0 13).mpr h_9)
                        by_cases c34 : x0 = 14
                        · skip
                          have k35 : (Int32.toInt x0) = 14 := (fa_eq x0 14).mp c34
                          refine r_tableIn 1 128 14 C dX7_wantedBy_1 c34 (by decide) (by decide) rfl (by decide) ?_
                          refine r_iconst 128 1 C dX7_wantedBy_128 (by decide) ?_
                          exact r_iret 129 Rt dX7_wantedBy_129 () (show -1 ≤ (Int32.toInt 1) ∧ (Int32.toInt 1) ≤ 4 ∧ 1 = NED (Int32.toInt x0) ∧ (1 = 1 ∨ 1 = 2 ∨ 1 = 4 ∨ 1 = -1) from ⟨(by ((repeat' apply And.intro) <;> first | trivial | rfl | assumption | omega | decide | exact Or.inl rfl | exact Or.inr (Or.inl rfl) | exact Or.inr (Or.inr rfl))), (by ((repeat' apply And.intro) <;> first | trivial | rfl | assumption | omega | decide | exact Or.inl rfl | exact Or.inr (Or.inl rfl) | exact Or.inr (Or.inr rfl))), (by first | exact (if_pos (by omega)).symm | exact ((if_neg (by omega)).trans (if_pos (by omega))).symm | exact ((if_neg (by omega)).trans ((if_neg (by omega)).trans (if_pos (by omega)))).symm | exact ((if_neg (by omega)).trans ((if_neg (by omega)).trans (if_neg (by omega)))).symm), (by ((repeat' apply And.intro) <;> first | trivial | rfl | assumption | omega | decide | exact Or.inl rfl | exact Or.inr (Or.inl rfl) | exact Or.inr (Or.inr rfl)))⟩) [] (by decide) rfl (Nat.le_of_ble_eq_true rfl) (Nat.le_of_ble_eq_true rfl)
                        · skip
                          have k36 : ¬ ((Int32.toInt x0) = 14) := fun h_9 => c34 ((fa_eq x0 14).mpr h_9)
                          by_cases c37 : x0 = 15
                          · skip
                            have k38 : (Int32.toInt x0) = 15 := (fa_eq x0 15).mp c37
                            refine r_tableIn 1 130 15 C dX7_wantedBy_1 c37 (by decide) (by decide) rfl (by decide) ?_
                            refine r_iconst 130 2 C dX7_wantedBy_130 (by decide) ?_
                            exact r_iret 131 Rt dX7_wantedBy_131 () (show -1 ≤ (Int32.toInt 2) ∧ (Int32.toInt 2) ≤ 4 ∧ 2 = NED (Int32.toInt x0) ∧ (2 = 1 ∨ 2 = 2 ∨ 2 = 4 ∨ 2 = -1) from ⟨(by ((repeat' apply And.intro) <;> first | trivial | rfl | assumption | omega | decide | exact Or.inl rfl | exact Or.inr (Or.inl rfl) | exact Or.inr (Or.inr rfl))), (by ((repeat' apply And.intro) <;> first | trivial | rfl | assumption | omega | decide | exact Or.inl rfl | exact Or.inr (Or.inl rfl) | exact Or.inr (Or.inr rfl))), (by first | exact (if_pos (by omega)).symm | exact ((if_neg (by omega)).trans (if_pos (by omega))).symm | exact ((if_neg (by omega)).trans ((if_neg (by omega)).trans (if_pos (by omega)))).symm | exact ((if_neg (by omega)).trans ((if_neg (by omega)).trans (if_neg (by omega)))).symm), (by ((repeat' apply And.intro) <;> first | trivial | rfl | assumption | omega | decide | exact Or.inl rfl | exact Or.inr (Or.inl rfl) | exact Or.inr (Or.inr rfl)))⟩) [] (by decide) rfl (Nat.le_of_ble_eq_true rfl) (Nat.le_of_ble_eq_true rfl)
                          · skip
                            have k39 : ¬ ((Int32.toInt x0) = 15) := fun h_9 => c37 ((fa_eq x0 15).mpr h_9)
                            by_cases c40 : x0 = 16
                            · skip
                              have k41 : (Int32.toInt x0) = 16 := (fa_eq x0 16).mp c40
                              refine r_tableIn 1 134 16 C dX7_wantedBy_1 c40 (by decide) (by decide) rfl (by decide) ?_
                              refine r_iconst 134 (-1) C dX7_wantedBy_134 (by decide) ?_
                              exact r_iret 135 Rt dX7_wantedBy_135 () (show -1 ≤ (Int32.toInt (-1)) ∧ (Int32.toInt (-1)) ≤ 4 ∧ (-1) = NED (Int32.toInt x0) ∧ ((-1) = 1 ∨ (-1) = 2 ∨ (-1) = 4 ∨ (-1) = -1) from ⟨(by ((repeat' apply And.intro) <;> first | trivial | rfl | assumption | omega | decide | exact Or.inl rfl | exact Or.inr (Or.inl rfl) | exact Or.inr (Or.inr rfl))), (by ((repeat' apply And.intro) <;> first | trivial | rfl | assumption | omega | decide | exact Or.inl rfl | exact Or.inr (Or.inl rfl) | exact Or.inr (Or.inr rfl))), (by first | exact (if_pos (by omega)).symm | exact ((if_neg (by omega)).trans (if_pos (by omega))).symm | exact ((if_neg (by omega)).trans ((if_neg (by omega)).trans (if_pos (by omega)))).symm | exact ((if_neg (by omega)).trans ((if_neg (by omega)).trans (if_neg (by omega)))).symm), (by ((repeat' apply And.intro) <;> first | trivial | rfl | assumption | omega | decide | exact Or.inl rfl | exact Or.inr (Or.inl rfl) | exact Or.inr (Or.inr rfl)))⟩) [] (by decide) rfl (Nat.le_of_ble_eq_true rfl) (Nat.le_of_ble_eq_true rfl)
                            · skip
                              have k42 : ¬ ((Int32.toInt x0) = 16) := fun h_9 => c40 ((fa_eq x0 16).mpr h_9)
                              by_cases c43 : x0 = 17
                              · skip
                                have k44 : (Int32.toInt x0) = 17 := (fa_eq x0 17).mp c43
                                refine r_tableIn 1 134 17 C dX7_wantedBy_1 c43 (by decide) (by decide) rfl (by decide) ?_
                                refine r_iconst 134 (-1) C dX7_wantedBy_134 (by decide) ?_
                                exact r_iret 135 Rt dX7_wantedBy_135 () (show -1 ≤ (Int32.toInt (-1)) ∧ (Int32.toInt (-1)) ≤ 4 ∧ (-1) = NED (Int32.toInt x0) ∧ ((-1) = 1 ∨ (-1) = 2 ∨ (-1) = 4 ∨ (-1) = -1) from ⟨(by ((repeat' apply And.intro) <;> first | trivial | rfl | assumption | omega | decide | exact Or.inl rfl | exact Or.inr (Or.inl rfl) | exact Or.inr (Or.inr rfl))), (by ((repeat' apply And.intro) <;> first | trivial | rfl | assumption | omega | decide | exact Or.inl rfl | exact Or.inr (Or.inl rfl) | exact Or.inr (Or.inr rfl))), (by first | exact (if_pos (by omega)).symm | exact ((if_neg (by omega)).trans (if_pos (by omega))).symm | exact ((if_neg (by omega)).trans ((if_neg (by omega)).trans (if_pos (by omega)))).symm | exact ((if_neg (by omega)).trans ((if_neg (by omega)).trans (if_neg (by omega)))).symm), (by ((repeat' apply And.intro) <;> first | trivial | rfl | assumption | omega | decide | exact Or.inl rfl | exact Or.inr (Or.inl rfl) | exact Or.inr (Or.inr rfl)))⟩) [] (by decide) rfl (Nat.le_of_ble_eq_true rfl) (Nat.le_of_ble_eq_true rfl)
                              · skip
                                have k45 : ¬ ((Int32.toInt x0) = 17) := fun h_9 => c43 ((fa_eq x0 17).mpr h_9)
                                by_cases c46 : x0 = 18
                                · skip
                                  have k47 : (Int32.toInt x0) = 18 := (fa_eq x0 18).mp c46
                                  refine r_tableIn 1 128 18 C dX7_wantedBy_1 c46 (by decide) (by decide) rfl (by decide) ?_
                                  refine r_iconst 128 1 C dX7_wantedBy_128 (by decide) ?_
                                  exact r_iret 129 Rt dX7_wantedBy_129 () (show -1 ≤ (Int32.toInt 1) ∧ (Int32.toInt 1) ≤ 4 ∧ 1 = NED (Int32.toInt x0) ∧ (1 = 1 ∨ 1 = 2 ∨ 1 = 4 ∨ 1 = -1) from ⟨(by ((repeat' apply And.intro) <;> first | trivial | rfl | assumption | omega | decide | exact Or.inl rfl | exact Or.inr (Or.inl rfl) | exact Or.inr (Or.inr rfl))), (by ((repeat' apply And.intro) <;> first | trivial | rfl | assumption | omega | decide | exact Or.inl rfl | exact Or.inr (Or.inl rfl) | exact Or.inr (Or.inr rfl))), (by first | exact (if_pos (by omega)).symm | exact ((if_neg (by omega)).trans (if_pos (by omega))).symm | exact ((if_neg (by omega)).trans ((if_neg (by omega)).trans (if_pos (by omega)))).symm | exact ((if_neg (by omega)).trans ((if_neg (by omega)).trans (if_neg (by omega)))).symm), (by ((repeat' apply And.intro) <;> first | trivial | rfl | assumption | omega | decide | exact Or.inl rfl | exact Or.inr (Or.inl rfl) | exact Or.inr (Or.inr rfl)))⟩) [] (by decide) rfl (Nat.le_of_ble_eq_true rfl) (Nat.le_of_ble_eq_true rfl)
                                · skip
                                  have k48 : ¬ ((Int32.toInt x0) = 18) := fun h_9 => c46 ((fa_eq x0 18).mpr h_9)
                                  by_cases c49 : x0 = 19
                                  · skip
                                    have k50 : (Int32.toInt x0) = 19 := (fa_eq x0 19).mp c49
                                    refine r_tableIn 1 134 19 C dX7_wantedBy_1 c49 (by decide) (by decide) rfl (by decide) ?_
                                    refine r_iconst 134 (-1) C dX7_wantedBy_134 (by decide) ?_
                                    exact r_iret 135 Rt dX7_wantedBy_135 () (show -1 ≤ (Int32.toInt (-1)) ∧ (Int32.toInt (-1)) ≤ 4 ∧ (-1) = NED (Int32.toInt x0) ∧ ((-1) = 1 ∨ (-1) = 2 ∨ (-1) = 4 ∨ (-1) = -1) from ⟨(by ((repeat' apply And.intro) <;> first | trivial | rfl | assumption | omega | decide | exact Or.inl rfl | exact Or.inr (Or.inl rfl) | exact Or.inr (Or.inr rfl))), (by ((repeat' apply And.intro) <;> first | trivial | rfl | assumption | omega | decide | exact Or.inl rfl | exact Or.inr (Or.inl rfl) | exact Or.inr (Or.inr rfl))), (by first | exact (if_pos (by omega)).symm | exact ((if_neg (by omega)).trans (if_pos (by omega))).symm | exact ((if_neg (by omega)).trans ((if_neg (by omega)).trans (if_pos (by omega)))).symm | exact ((if_neg (by omega)).trans ((if_neg (by omega)).trans (if_neg (by omega)))).symm), (by ((repeat' apply And.intro) <;> first | trivial | rfl | assumption | omega | decide | exact Or.inl rfl | exact Or.inr (Or.inl rfl) | exact Or.inr (Or.inr rfl)))⟩) [] (by decide) rfl (Nat.le_of_ble_eq_true rfl) (Nat.le_of_ble_eq_true rfl)
                                  · skip
                                    have k51 : ¬ ((Int32.toInt x0) = 19) := fun h_9 => c49 ((fa_eq x0 19).mpr h_9)
                                    by_cases c52 : x0 = 20
                                    · skip
                                      have k53 : (Int32.toInt x0) = 20 := (fa_eq x0 20).mp c52
                                      refine r_tableIn 1 130 20 C dX7_wantedBy_1 c52 (by decide) (by decide) rfl (by decide) ?_
                                      refine r_iconst 130 2 C dX7_wantedBy_130 (by decide) ?_
                                      exact r_iret 131 Rt dX7_wantedBy_131 () (show -1 ≤ (Int32.toInt 2) ∧ (Int32.toInt 2) ≤ 4 ∧ 2 = NED (Int32.toInt x0) ∧ (2 = 1 ∨ 2 = 2 ∨ 2 = 4 ∨ 2 = -1) from ⟨(by ((repeat' apply And.intro) <;> first | trivial | rfl | assumption | omega | decide | exact Or.inl rfl | exact Or.inr (Or.inl rfl) | exact Or.inr (Or.inr rfl))), (by ((repeat' apply And.intro) <;> first | trivial | rfl | assumption | omega | decide | exact Or.inl rfl | exact Or.inr (Or.inl rfl) | exact Or.inr (Or.inr rfl))), (by first | exact (if_pos (by omega)).symm | exact ((if_neg (by omega)).trans (if_pos (by omega))).symm | exact ((if_neg (by omega)).trans ((if_neg (by omega)).trans (if_pos (by omega)))).symm | exact ((if_neg (by omega)).trans ((if_neg (by omega)).trans (if_neg (by omega)))).symm), (by ((repeat' apply And.intro) <;> first | trivial | rfl | assumption | omega | decide | exact Or.inl rfl | exact Or.inr (Or.inl rfl) | exact Or.inr (Or.inr rfl)))⟩) [] (by decide) rfl (Nat.le_of_ble_eq_true rfl) (Nat.le_of_ble_eq_true rfl)
                                    · skip
                                      have k54 : ¬ ((Int32.toInt x0) = 20) := fun h_9 => c52 ((fa_eq x0 20).mpr h_9)
                                      by_cases c55 : x0 = 21
                                      · skip
                                        have k56 : (Int32.toInt x0) = 21 := (fa_eq x0 21).mp c55
                                        refine r_tableIn 1 128 21 C dX7_wantedBy_1 c55 (by decide) (by decide) rfl (by decide) ?_
                                        refine r_iconst 128 1 C dX7_wantedBy_128 (by decide) ?_
                                        exact r_iret 129 Rt dX7_wantedBy_129 () (show -1 ≤ (Int32.toInt 1) ∧ (Int32.toInt 1) ≤ 4 ∧ 1 = NED (Int32.toInt x0) ∧ (1 = 1 ∨ 1 = 2 ∨ 1 = 4 ∨ 1 = -1) from ⟨(by ((repeat' apply And.intro) <;> first | trivial | rfl | assumption | omega | decide | exact Or.inl rfl | exact Or.inr (Or.inl rfl) | exact Or.inr (Or.inr rfl))), (by ((repeat' apply And.intro) <;> first | trivial | rfl | assumption | omega | decide | exact Or.inl rfl | exact Or.inr (Or.inl rfl) | exact Or.inr (Or.inr rfl))), (by first | exact (if_pos (by omega)).symm | exact ((if_neg (by omega)).trans (if_pos (by omega))).symm | exact ((if_neg (by omega)).trans ((if_neg (by omega)).trans (if_pos (by omega)))).symm | exact ((if_neg (by omega)).trans ((if_neg (by omega)).trans (if_neg (by omega)))).symm), (by ((repeat' apply And.intro) <;> first | trivial | rfl | assumption | omega | decide | exact Or.inl rfl | exact Or.inr (Or.inl rfl) | exact Or.inr (Or.inr rfl)))⟩) [] (by decide) rfl (Nat.le_of_ble_eq_true rfl) (Nat.le_of_ble_eq_true rfl)
                                      · skip
                                        have k57 : ¬ ((Int32.toInt x0) = 21) := fun h_9 => c55 ((fa_eq x0 21).mpr h_9)
                                        by_cases c58 : x0 = 22
                                        · skip
                                          have k59 : (Int32.toInt x0) = 22 := (fa_eq x0 22).mp c58
                                          refine r_tableIn 1 132 22 C dX7_wantedBy_1 c58 (by decide) (by decide) rfl (by decide) ?_
                                          refine r_iconst 132 4 C dX7_wantedBy_132 (by decide) ?_
                                          exact r_iret 133 Rt dX7_wantedBy_133 () (show -1 ≤ (Int32.toInt 4) ∧ (Int32.toInt 4) ≤ 4 ∧ 4 = NED (Int32.toInt x0) ∧ (4 = 1 ∨ 4 = 2 ∨ 4 = 4 ∨ 4 = -1) from ⟨(by ((repeat' apply And.intro) <;> first | trivial | rfl | assumption | omega | decide | exact Or.inl rfl | exact Or.inr (Or.inl rfl) | exact Or.inr (Or.inr rfl))), (by ((repeat' apply And.intro) <;> first | trivial | rfl | assumption | omega | decide | exact Or.inl rfl | exact Or.inr (Or.inl rfl) | exact Or.inr (Or.inr rfl))), (by first | exact (if_pos (by omega)).symm | exact ((if_neg (by omega)).trans (if_pos (by omega))).symm | exact ((if_neg (by omega)).trans ((if_neg (by omega)).trans (if_pos (by omega)))).symm | exact ((if_neg (by omega)).trans ((if_neg (by omega)).trans (if_neg (by omega)))).symm), (by ((repeat' apply And.intro) <;> first | trivial | rfl | assumption | omega | decide | exact Or.inl rfl | exact Or.inr (Or.inl rfl) | exact Or.inr (Or.inr rfl)))⟩) [] (by decide) rfl (Nat.le_of_ble_eq_true rfl) (Nat.le_of_ble_eq_true rfl)
                                        · skip
                                          have k60 : ¬ ((Int32.toInt x0) = 22) := fun h_9 => c58 ((fa_eq x0 22).mpr h_9)
                                          by_cases c61 : x0 = 23
                                          · skip
                                            have k62 : (Int32.toInt x0) = 23 := (fa_eq x0 23).mp c61
                                            refine r_tableIn 1 134 23 C dX7_wantedBy_1 c61 (by decide) (by decide) rfl (by decide) ?_
                                            refine r_iconst 134 (-1) C dX7_wantedBy_134 (by decide) ?_
                                            exact r_iret 135 Rt dX7_wantedBy_135 () (show -1 ≤ (Int32.toInt (-1)) ∧ (Int32.toInt (-1)) ≤ 4 ∧ (-1) = NED (Int32.toInt x0) ∧ ((-1) = 1 ∨ (-1) = 2 ∨ (-1) = 4 ∨ (-1) = -1) from ⟨(by ((repeat' apply And.intro) <;> first | trivial | rfl | assumption | omega | decide | exact Or.inl rfl | exact Or.inr (Or.inl rfl) | exact Or.inr (Or.inr rfl))), (by ((repeat' apply And.intro) <;> first | trivial | rfl | assumption | omega | decide | exact Or.inl rfl | exact Or.inr (Or.inl rfl) | exact Or.inr (Or.inr rfl))), (by first | exact (if_pos (by omega)).symm | exact ((if_neg (by omega)).trans (if_pos (by omega))).symm | exact ((if_neg (by omega)).trans ((if_neg (by omega)).trans (if_pos (by omega)))).symm | exact ((if_neg (by omega)).trans ((if_neg (by omega)).trans (if_neg (by omega)))).symm), (by ((repeat' apply And.intro) <;> first | trivial | rfl | assumption | omega | decide | exact Or.inl rfl | exact Or.inr (Or.inl rfl) | exact Or.inr (Or.inr rfl)))⟩) [] (by decide) rfl (Nat.le_of_ble_eq_true rfl) (Nat.le_of_ble_eq_true rfl)
                                          · skip
                                            have k63 : ¬ ((Int32.toInt x0) = 23) := fun h_9 => c61 ((fa_eq x0 23).mpr h_9)
                                            by_cases c64 : x0 = 24
                                            · skip
                                              have k65 : (Int32.toInt x0) = 24 := (fa_eq x0 24).mp c64
                                              refine r_tableIn 1 130 24 C dX7_wantedBy_1 c64 (by decide) (by decide) rfl (by decide) ?_
                                              refine r_iconst 130 2 C dX7_wantedBy_130 (by decide) ?_
                                              exact r_iret 131 Rt dX7_wantedBy_131 () (show -1 ≤ (Int32.toInt 2) ∧ (Int32.toInt 2) ≤ 4 ∧ 2 = NED (Int32.toInt x0) ∧ (2 = 1 ∨ 2 = 2 ∨ 2 = 4 ∨ 2 = -1) from ⟨(by ((repeat' apply And.intro) <;> first | trivial | rfl | assumption | omega | decide | exact Or.inl rfl | exact Or.inr (Or.inl rfl) | exact Or.inr (Or.inr rfl))), (by ((repeat' apply And.intro) <;> first | trivial | rfl | assumption | omega | decide | exact Or.inl rfl | exact Or.inr (Or.inl rfl) | exact Or.inr (Or.inr rfl))), (by first | exact (if_pos (by omega)).symm | exact ((if_neg (by omega)).trans (if_pos (by omega))).symm | exact ((if_neg (by omega)).trans ((if_neg (by omega)).trans (if_pos (by omega)))).symm | exact ((if_neg (by omega)).trans ((if_neg (by omega)).trans (if_neg (by omega)))).symm), (by ((repeat' apply And.intro) <;> first | trivial | rfl | assumption | omega | decide | exact Or.inl rfl | exact Or.inr (Or.inl rfl) | exact Or.inr (Or.inr rfl)))⟩) [] (by decide) rfl (Nat.le_of_ble_eq_true rfl) (Nat.le_of_ble_eq_true rfl)
                                            · skip
                                              have k66 : ¬ ((Int32.toInt x0) = 24) := fun h_9 => c64 ((fa_eq x0 24).mpr h_9)
                                              by_cases c67 : x0 = 25
                                              · skip
                                                have k68 : (Int32.toInt x0) = 25 := (fa_eq x0 25).mp c67
                                                refine r_tableIn 1 134 25 C dX7_wantedBy_1 c67 (by decide) (by decide) rfl (by decide) ?_
                                                refine r_iconst 134 (-1) C dX7_wantedBy_134 (by decide) ?_
                                                exact r_iret 135 Rt dX7_wantedBy_135 () (show -1 ≤ (Int32.toInt (-1)) ∧ (Int32.toInt (-1)) ≤ 4 ∧ (-1) = NED (Int32.toInt x0) ∧ ((-1) = 1 ∨ (-1) = 2 ∨ (-1) = 4 ∨ (-1) = -1) from ⟨(by ((repeat' apply And.intro) <;> first | trivial | rfl | assumption | omega | decide | exact Or.inl rfl | exact Or.inr (Or.inl rfl) | exact Or.inr (Or.inr rfl))), (by ((repeat' apply And.intro) <;> first | trivial | rfl | assumption | omega | decide | exact Or.inl rfl | exact Or.inr (Or.inl rfl) | exact Or.inr (Or.inr rfl))), (by first | exact (if_pos (by omega)).symm | exact ((if_neg (by omega)).trans (if_pos (by omega))).symm | exact ((if_neg (by omega)).trans ((if_neg (by omega)).trans (if_pos (by omega)))).symm | exact ((if_neg (by omega)).trans ((if_neg (by omega)).trans (if_neg (by omega)))).symm), (by ((repeat' apply And.intro) <;> first | trivial | rfl | assumption | omega | decide | exact Or.inl rfl | exact Or.inr (Or.inl rfl) | exact Or.inr (Or.inr rfl)))⟩) [] (by decide) rfl (Nat.le_of_ble_eq_true rfl) (Nat.le_of_ble_eq_true rfl)
                                              · skip
                                                have k69 : ¬ ((Int32.toInt x0) = 25) := fun h_9 => c67 ((fa_eq x0 25).mpr h_9)
                                                by_cases c70 : x0 = 26
                                                · skip
                                                  have k71 : (Int32.toInt x0) = 26 := (fa_eq x0 26).mp c70
                                                  refine r_tableIn 1 128 26 C dX7_wantedBy_1 c70 (by decide) (by decide) rfl (by decide) ?_
                                                  refine r_iconst 128 1 C dX7_wantedBy_128 (by decide) ?_
                                                  exact r_iret 129 Rt dX7_wantedBy_129 () (show -1 ≤ (Int32.toInt 1) ∧ (Int32.toInt 1) ≤ 4 ∧ 1 = NED (Int32.toInt x0) ∧ (1 = 1 ∨ 1 = 2 ∨ 1 = 4 ∨ 1 = -1) from ⟨(by ((repeat' apply And.intro) <;> first | trivial | rfl | assumption | omega | decide | exact Or.inl rfl | exact Or.inr (Or.inl rfl) | exact Or.inr (Or.inr rfl))), (by ((repeat' apply And.intro) <;> first | trivial | rfl | assumption | omega | decide | exact Or.inl rfl | exact Or.inr (Or.inl rfl) | exact Or.inr (Or.inr rfl))), (by first | exact (if_pos (by omega)).symm | exact ((if_neg (by omega)).trans (if_pos (by omega))).symm | exact ((if_neg (by omega)).trans ((if_neg (by omega)).trans (if_pos (by omega)))).symm | exact ((if_neg (by omega)).trans ((if_neg (by omega)).trans (if_neg (by omega)))).symm), (by ((repeat' apply And.intro) <;> first | trivial | rfl | assumption | omega | decide | exact Or.inl rfl | exact Or.inr (Or.inl rfl) | exact Or.inr (Or.inr rfl)))⟩) [] (by decide) rfl (Nat.le_of_ble_eq_true rfl) (Nat.le_of_ble_eq_true rfl)
                                                · skip
                                                  have k72 : ¬ ((Int32.toInt x0) = 26) := fun h_9 => c70 ((fa_eq x0 26).mpr h_9)
                                                  by_cases c73 : x0 = 27
                                                  · skip
                                                    have k74 : (Int32.toInt x0) = 27 := (fa_eq x0 27).mp c73
                                                    refine r_tableIn 1 128 27 C dX7_wantedBy_1 c73 (by decide) (by decide) rfl (by decide) ?_
                                                    refine r_iconst 128 1 C dX7_wantedBy_128 (by decide) ?_
                                                    exact r_iret 129 Rt dX7_wantedBy_129 () (show -1 ≤ (Int32.toInt 1) ∧ (Int32.toInt 1) ≤ 4 ∧ 1 = NED (Int32.toInt x0) ∧ (1 = 1 ∨ 1 = 2 ∨ 1 = 4 ∨ 1 = -1) from ⟨(by ((repeat' apply And.intro) <;> first | trivial | rfl | assumption | omega | decide | exact Or.inl rfl | exact Or.inr (Or.inl rfl) | exact Or.inr (Or.inr rfl))), (by ((repeat' apply And.intro) <;> first | trivial | rfl | assumption | omega | decide | exact Or.inl rfl | exact Or.inr (Or.inl rfl) | exact Or.inr (Or.inr rfl))), (by first | exact (if_pos (by omega)).symm | exact ((if_neg (by omega)).trans (if_pos (by omega))).symm | exact ((if_neg (by omega)).trans ((if_neg (by omega)).trans (if_pos (by omega)))).symm | exact ((if_neg (by omega)).trans ((if_neg (by omega)).trans (if_neg (by omega)))).symm), (by ((repeat' apply And.intro) <;> first | trivial | rfl | assumption | omega | decide | exact Or.inl rfl | exact Or.inr (Or.inl rfl) | exact Or.inr (Or.inr rfl)))⟩) [] (by decide) rfl (Nat.le_of_ble_eq_true rfl) (Nat.le_of_ble_eq_true rfl)
                                                  · skip
                                                    have k75 : ¬ ((Int32.toInt x0) = 27) := fun h_9 => c73 ((fa_eq x0 27).mpr h_9)
                                                    by_cases c76 : x0 = 28
                                                    · skip
                                                      have k77 : (Int32.toInt x0) = 28 := (fa_eq x0 28).mp c76
                                                      refine r_tableIn 1 130 28 C dX7_wantedBy_1 c76 (by decide) (by decide) rfl (by decide) ?_
                                                      refine r_iconst 130 2 C dX7_wantedBy_130 (by decide) ?_
                                                      exact r_iret 131 Rt dX7_wantedBy_131 () (show -1 ≤ (Int32.toInt 2) ∧ (Int32.toInt 2) ≤ 4 ∧ 2 = NED (Int32.toInt x0) ∧ (2 = 1 ∨ 2 = 2 ∨ 2 = 4 ∨ 2 = -1) from ⟨(by ((repeat' apply And.intro) <;> first | trivial | rfl | assumption | omega | decide | exact Or.inl rfl | exact Or.inr (Or.inl rfl) | exact Or.inr (Or.inr rfl))), (by ((repeat' apply And.intro) <;> first | trivial | rfl | assumption | omega | decide | exact Or.inl rfl | exact Or.inr (Or.inl rfl) | exact Or.inr (Or.inr rfl))), (by first | exact (if_pos (by omega)).symm | exact ((if_neg (by omega)).trans (if_pos (by omega))).symm | exact ((if_neg (by omega)).trans ((if_neg (by omega)).trans (if_pos (by omega)))).symm | exact ((if_neg (by omega)).trans ((if_neg (by omega)).trans (if_neg (by omega)))).symm), (by ((repeat' apply And.intro) <;> first | trivial | rfl | assumption | omega | decide | exact Or.inl rfl | exact Or.inr (Or.inl rfl) | exact Or.inr (Or.inr rfl)))⟩) [] (by decide) rfl (Nat.le_of_ble_eq_true rfl) (Nat.le_of_ble_eq_true rfl)
                                                    · skip
                                                      have k78 : ¬ ((Int32.toInt x0) = 28) := fun h_9 => c76 ((fa_eq x0 28).mpr h_9)
                                                      by_cases c79 : x0 = 29
                                                      · skip
                                                        have k80 : (Int32.toInt x0) = 29 := (fa_eq x0 29).mp c79
                                                        refine r_tableIn 1 128 29 C dX7_wantedBy_1 c79 (by decide) (by decide) rfl (by decide) ?_
                                                        refine r_iconst 128 1 C dX7_wantedBy_128 (by decide) ?_
                                                        exact r_iret 129 Rt dX7_wantedBy_129 () (show -1 ≤ (Int32.toInt 1) ∧ (Int32.toInt 1) ≤ 4 ∧ 1 = NED (Int32.toInt x0) ∧ (1 = 1 ∨ 1 = 2 ∨ 1 = 4 ∨ 1 = -1) from ⟨(by ((repeat' apply And.intro) <;> first | trivial | rfl | assumption | omega | decide | exact Or.inl rfl | exact Or.inr (Or.inl rfl) | exact Or.inr (Or.inr rfl))), (by ((repeat' apply And.intro) <;> first | trivial | rfl | assumption | omega | decide | exact Or.inl rfl | exact Or.inr (Or.inl rfl) | exact Or.inr (Or.inr rfl))), (by first | exact (if_pos (by omega)).symm | exact ((if_neg (by omega)).trans (if_pos (by omega))).symm | exact ((if_neg (by omega)).trans ((if_neg (by omega)).trans (if_pos (by omega)))).symm | exact ((if_neg (by omega)).trans ((if_neg (by omega)).trans (if_neg (by omega)))).symm), (by ((repeat' apply And.intro) <;> first | trivial | rfl | assumption | omega | decide | exact Or.inl rfl | exact Or.inr (Or.inl rfl) | exact Or.inr (Or.inr rfl)))⟩) [] (by decide) rfl (Nat.le_of_ble_eq_true rfl) (Nat.le_of_ble_eq_true rfl)
                                                      · skip
                                                        have k81 : ¬ ((Int32.toInt x0) = 29) := fun h_9 => c79 ((fa_eq x0 29).mpr h_9)
                                                        by_cases c82 : x0 = 30
                                                        · skip
                                                          have k83 : (Int32.toInt x0) = 30 := (fa_eq x0 30).mp c82
                                                          refine r_tableIn 1 130 30 C dX7_wantedBy_1 c82 (by decide) (by decide) rfl (by decide) ?_
                                                          refine r_iconst 130 2 C dX7_wantedBy_130 (by decide) ?_
                                                          exact r_iret 131 Rt dX7_wantedBy_131 () (show -1 ≤ (Int32.toInt 2) ∧ (Int32.toInt 2) ≤ 4 ∧ 2 = NED (Int32.toInt x0) ∧ (2 = 1 ∨ 2 = 2 ∨ 2 = 4 ∨ 2 = -1) from ⟨(by ((repeat' apply And.intro) <;> first | trivial | rfl | assumption | omega | decide | exact Or.inl rfl | exact Or.inr (Or.inl rfl) | exact Or.inr (Or.inr rfl))), (by ((repeat' apply And.intro) <;> first | trivial | rfl | assumption | omega | decide | exact Or.inl rfl | exact Or.inr (Or.inl rfl) | exact Or.inr (Or.inr rfl))), (by first | exact (if_pos (by omega)).symm | exact ((if_neg (by omega)).trans (if_pos (by omega))).symm | exact ((if_neg (by omega)).trans ((if_neg (by omega)).trans (if_pos (by omega)))).symm | exact ((if_neg (by omega)).trans ((if_neg (by omega)).trans (if_neg (by omega)))).symm), (by ((repeat' apply And.intro) <;> first | trivial | rfl | assumption | omega | decide | exact Or.inl rfl | exact Or.inr (Or.inl rfl) | exact Or.inr (Or.inr rfl)))⟩) [] (by decide) rfl (Nat.le_of_ble_eq_true rfl) (Nat.le_of_ble_eq_true rfl)
                                                        · skip
                                                          have k84 : ¬ ((Int32.toInt x0) = 30) := fun h_9 => c82 ((fa_eq x0 30).mpr h_9)
                                                          refine r_tableOut 1 134 C dX7_wantedBy_1 (by omega) (by decide) ?_
                                                          refine r_iconst 134 (-1) C dX7_wantedBy_134 (by decide) ?_
                                                          exact r_iret 135 Rt dX7_wantedBy_135 () (show -1 ≤ (Int32.toInt (-1)) ∧ (Int32.toInt (-1)) ≤ 4 ∧ (-1) = NED (Int32.toInt x0) ∧ ((-1) = 1 ∨ (-1) = 2 ∨ (-1) = 4 ∨ (-1) = -1) from ⟨(by ((repeat' apply And.intro) <;> first | trivial | rfl | assumption | omega | decide | exact Or.inl rfl | exact Or.inr (Or.inl rfl) | exact Or.inr (Or.inr rfl))), (by ((repeat' apply And.intro) <;> first | trivial | rfl | assumption | omega | decide | exact Or.inl rfl | exact Or.inr (Or.inl rfl) | exact Or.inr (Or.inr rfl))), (by first | exact (if_pos (by omega)).symm | exact ((if_neg (by omega)).trans (if_pos (by omega))).symm | exact ((if_neg (by omega)).trans ((if_neg (by omega)).trans (if_pos (by omega)))).symm | exact ((if_neg (by omega)).trans ((if_neg (by omega)).trans (if_neg (by omega)))).symm), (by ((repeat' apply And.intro) <;> first | trivial | rfl | assumption | omega | decide | exact Or.inl rfl | exact Or.inr (Or.inl rfl) | exact Or.inr (Or.inr rfl)))⟩) [] (by decide) rfl (Nat.le_of_ble_eq_true rfl) (Nat.le_of_ble_eq_true rfl)
set_option maxHeartbeats 4000000 in
set_option maxRecDepth 100000 in
theorem c300_X7_truth (l : Launch) (g : GD) (x0 : Int32) (i_x0 : (0 ≤ (Int32.toInt x0) ∧ (Int32.toInt x0) ≤ 1)) (sz : Nat) : Met l yX7_truth wsX7_truth ({ frames := 0, cells := 0, slots := 0, locals := 0 }) (va_Pc [.int x0] (PW g [] sz)) (va_Ql (fun (r : Int64) (_ : Unit) => 0 ≤ (Int64.toInt r) ∧ (Int64.toInt r) ≤ 65536 ∧ TRV (Int32.toInt x0) r) (BW g (va_A [] sz) (fun _ : Unit => [])) (va_A [] sz)) 0 0 (va_A [] sz) := by
  refine met_l RX7 (by decide) rfl rfl (Nat.le_of_ble_eq_true rfl) [(0, .int x0)] rfl ?_
  intro p e s m args below meth c A Q C hnm Rt
  refine r_iload_n 0 0 C dX7_truth_0 rfl ?_
  refine r_if_eq 1 10 C dX7_truth_1 (by decide) (fun c1 => ?_) (fun c1 => ?_)
  · skip
    have k2 : (Int32.toInt x0) = 0 := (fa_eq x0 0).mp c1
    refine r_lconst 10 0 C dX7_truth_10 (by decide) ?_
    exact r_lret 11 Rt dX7_truth_11 () (show 0 ≤ (Int64.toInt 0) ∧ (Int64.toInt 0) ≤ 65536 ∧ TRV (Int32.toInt x0) 0 from ⟨(by ((repeat' apply And.intro) <;> first | trivial | rfl | assumption | omega | decide | exact Or.inl rfl | exact Or.inr (Or.inl rfl) | exact Or.inr (Or.inr rfl))), (by ((repeat' apply And.intro) <;> first | trivial | rfl | assumption | omega | decide | exact Or.inl rfl | exact Or.inr (Or.inl rfl) | exact Or.inr (Or.inr rfl))), (by first | exact Or.inl ⟨by omega, rfl⟩ | exact Or.inr ⟨by omega, rfl⟩)⟩) [] (by decide) rfl (Nat.le_of_ble_eq_true rfl) (Nat.le_of_ble_eq_true rfl)
  · skip
    have k3 : ¬ ((Int32.toInt x0) = 0) := fun h_9 => c1 ((fa_eq x0 0).mpr h_9)
    refine r_ldc2 4 65536 C dX7_truth_4 (mg 1 rfl) ?_
    refine r_goto 7 11 C dX7_truth_7 (by decide) ?_
    exact r_lret 11 Rt dX7_truth_11 () (show 0 ≤ (Int64.toInt 65536) ∧ (Int64.toInt 65536) ≤ 65536 ∧ TRV (Int32.toInt x0) 65536 from ⟨(by ((repeat' apply And.intro) <;> first | trivial | rfl | assumption | omega | decide | exact Or.inl rfl | exact Or.inr (Or.inl rfl) | exact Or.inr (Or.inr rfl))), (by ((repeat' apply And.intro) <;> first | trivial | rfl | assumption | omega | decide | exact Or.inl rfl | exact Or.inr (Or.inl rfl) | exact Or.inr (Or.inr rfl))), (by first | exact Or.inl ⟨by omega, rfl⟩ | exact Or.inr ⟨by omega, rfl⟩)⟩) [] (by decide) rfl (Nat.le_of_ble_eq_true rfl) (Nat.le_of_ble_eq_true rfl)
set_option maxHeartbeats 4000000 in
set_option maxRecDepth 100000 in
theorem c301_X7_pick (l : Launch) (g : GD) (h0 : Nat) (h1 : Nat) (y0 : Int64) (h2 : Nat) (x0 : Int32) (x1 : Int32) (fm0 : Nat → Int64) (i_x0 : (0 ≤ (Int32.toInt x0) ∧ (Int32.toInt x0) ≤ 48)) (i_x1 : (0 ≤ (Int32.toInt x1) ∧ (Int32.toInt x1) ≤ 48)) (sz : Nat) : Met l yX7_pick wsX7_pick ({ frames := 2, cells := 0, slots := 0, locals := 45 }) (va_Pc [.ref h0, .long y0] (PW g [(h0, .inr (6, [.ref h1, .ref h2, .int x0, .int x1])), (h1, .inl (gJ g, 48, .inr (.inl fm0)))] sz)) (va_Qi (fun (r : Int32) (u : (Int32) × (Nat → Int64)) => 0 ≤ (Int32.toInt r) ∧ (Int32.toInt r) ≤ 9 ∧ 0 ≤ (Int32.toInt (u.1)) ∧ (Int32.toInt (u.1)) ≤ 48 ∧ ∀ q_9 : Nat → Int64, REQ (PA (u.2) (Int32.toInt (u.1))) q_9 (Int32.toInt r) (PCK (Int32.toInt x1) (PA fm0 (Int32.toInt x0)) q_9 (Int64.toInt y0))) (BW g (va_A [(h0, .inr (6, [.ref h1, .ref h2, .int x0, .int x1])), (h1, .inl (gJ g, 48, .inr (.inl fm0)))] sz) (fun u : (Int32) × (Nat → Int64) => [(h0, .inr (6, [.ref h1, .ref h2, .int u.1, .int x1])), (h1, .inl (gJ g, 48, .inr (.inl u.2)))])) (va_A [(h0, .inr (6, [.ref h1, .ref h2, .int x0, .int x1])), (h1, .inl (gJ g, 48, .inr (.inl fm0)))] sz)) 0 0 (va_A [(h0, .inr (6, [.ref h1, .ref h2, .int x0, .int x1])), (h1, .inl (gJ g, 48, .inr (.inl fm0)))] sz) := by
  refine met_i RX7 (by decide) rfl rfl (Nat.le_of_ble_eq_true rfl) [(0, .ref h0), (1, .long y0)] rfl ?_
  intro p e s m args below meth c A Q C hnm Rt
  have gy0 := fb_rngL y0
  have hiX7 : ∀ w ∈ wsX70, w ∈ wsX7_pick := fun w h => List.mem_cons_of_mem _ (List.mem_append_right _ (h))
  refine r_lconst 0 0 C dX7_pick_0 (by decide) ?_
  refine r_lload_n 1 1 C dX7_pick_1 rfl ?_
  refine r_ldc2 2 48 C dX7_pick_2 (mg 1 rfl) ?_
  obtain ⟨z1, ez1⟩ : ∃ z_9 : Int64, (if 48 < y0 then 48 else y0) = z_9 := ⟨_, rfl⟩
  have gz1 := fb_rngL z1
  refine r_lmin 5 z1 C dX7_pick_5 (mg 2 rfl) (mg 3 rfl) (mg 4 rfl) (mg 5 rfl) (Nat.le_of_ble_eq_true rfl) (Nat.le_of_ble_eq_true rfl) (Nat.le_of_ble_eq_true rfl) (Nat.le_of_ble_eq_true rfl) ez1 ?_
  obtain ⟨z2, ez2⟩ : ∃ z_9 : Int64, (if z1 < 0 then 0 else z1) = z_9 := ⟨_, rfl⟩
  have gz2 := fb_rngL z2
  refine r_lmax 8 z2 C dX7_pick_8 (mg 6 rfl) (mg 7 rfl) (mg 4 rfl) (mg 8 rfl) (Nat.le_of_ble_eq_true rfl) (Nat.le_of_ble_eq_true rfl) (Nat.le_of_ble_eq_true rfl) (Nat.le_of_ble_eq_true rfl) ez2 ?_
  obtain ⟨z3, ez3⟩ : ∃ z_9, Int64.toInt32 z2 = z_9 := ⟨_, rfl⟩
  have gz3 := fb_rng z3
  refine r_l2i 11 z3 C dX7_pick_11 ez3 ?_
  refine r_istore_n 12 C dX7_pick_12 [(3, .int z3), (0, .ref h0), (1, .long y0)] (by decide) rfl ?_
  have hq4 := clamp_48 (by assumption) (by assumption) (show _ = z3 by assumption)
  refine r_iload_n 13 0 C dX7_pick_13 rfl ?_
  refine r_iconst 14 1 C dX7_pick_14 (by decide) ?_
  obtain ⟨z5, ez5⟩ : ∃ z_9, z3 + 1 = z_9 := ⟨_, rfl⟩
  have tz5 : (Int32.toInt z5) = (Int32.toInt z3) + 1 := by rw [← ez5]; exact fb_addI (by show -2147483648 ≤ (Int32.toInt z3) + 1; omega) (by show (Int32.toInt z3) + 1 < 2147483648; omega)
  refine r_iadd 15 z5 C dX7_pick_15 ez5 ?_
  refine r_aload_n 16 1 C dX7_pick_16 rfl ?_
  refine r_get 17 C dX7_pick_17 (k := 2) 0 rfl rfl hiX7 (by decide) rfl (mg 9 rfl) (Or.inl rfl) rfl ?_
  refine r_icmp_lt 20 28 C dX7_pick_20 (by decide) (fun c6 => ?_) (fun c6 => ?_)
  · skip
    have k7 : (Int32.toInt z5) < (Int32.toInt x0) := (fa_lt z5 x0).mp c6
    refine r_aload_n 28 1 C dX7_pick_28 rfl ?_
    refine r_iconst 29 1 C dX7_pick_29 (by decide) ?_
    refine r_aload_n 30 1 C dX7_pick_30 rfl ?_
    refine r_iload_n 31 0 C dX7_pick_31 rfl ?_
    refine r_iconst 32 1 C dX7_pick_32 (by decide) ?_
    obtain ⟨z8, ez8⟩ : ∃ z_9, z3 + 1 = z_9 := ⟨_, rfl⟩
    have tz8 : (Int32.toInt z8) = (Int32.toInt z3) + 1 := by rw [← ez8]; exact fb_addI (by show -2147483648 ≤ (Int32.toInt z3) + 1; omega) (by show (Int32.toInt z3) + 1 < 2147483648; omega)
    refine r_iadd 33 z8 C dX7_pick_33 ez8 ?_
    refine r_callVl 34 C dX7_pick_34 [.int 1, .ref h0] [(h0, .inr (6, [.ref h1, .ref h2, .int x0, .int x1])), (h1, .inl (gJ g, 48, .inr (.inl fm0)))] [] (fun sz => c233_X7_below l g h0 h1 z8 h2 x0 x1 fm0 ⟨by omega, by omega⟩ i_x0 i_x1 sz) gX7_pick_X7_below rfl ⟨rfl, rfl⟩ 1 (by decide) ⟨Nat.le_of_ble_eq_true rfl, Nat.le_of_ble_eq_true rfl⟩ 0 rfl rfl [0, 1] [] rfl rfl (by decide) (by decide) (by decide) rfl rfl (Nat.le_of_ble_eq_true rfl) ⟨Nat.le_of_ble_eq_true rfl, Nat.le_of_ble_eq_true rfl⟩ (fun r9 _ w10 => ?_)
    refine r_ws [(h0, .inr (6, [.ref h1, .ref h2, .int x0, .int x1])), (h1, .inl (gJ g, 48, .inr (.inl fm0)))] rfl ?_
    have p11 : r9 = BEL (PA fm0 (Int32.toInt x0)) (Int32.toInt z8) := w10
    have gr9 := fb_rngL r9
    refine r_callVi 37 C dX7_pick_37 [] [(h0, .inr (6, [.ref h1, .ref h2, .int x0, .int x1])), (h1, .inl (gJ g, 48, .inr (.inl fm0)))] [] (fun sz => c238_X7_replace l g h0 h1 1 r9 h2 x0 x1 fm0 i_x0 i_x1 sz) gX7_pick_X7_replace rfl ⟨rfl, rfl⟩ 2 (by decide) ⟨Nat.le_of_ble_eq_true rfl, Nat.le_of_ble_eq_true rfl⟩ 0 rfl rfl [0, 1] [] rfl rfl (by decide) (by decide) (by decide) rfl rfl (Nat.le_of_ble_eq_true rfl) ⟨Nat.le_of_ble_eq_true rfl, Nat.le_of_ble_eq_true rfl⟩ (fun r14 u16 w15 => ?_)
    obtain ⟨z12, f13⟩ := u16
    refine r_ws [(h0, .inr (6, [.ref h1, .ref h2, .int z12, .int x1])), (h1, .inl (gJ g, 48, .inr (.inl f13)))] rfl ?_
    have p17 : 0 ≤ (Int32.toInt r14) := w15.1
    have p18 : (Int32.toInt r14) ≤ 3 := w15.2.1
    have p19 : 0 ≤ (Int32.toInt z12) := w15.2.2.1
    have p20 : (Int32.toInt z12) ≤ 48 := w15.2.2.2.1
    have p21 : PEQ (PA f13 (Int32.toInt z12)) (Int32.toInt r14) (PSH (Int32.toInt x1) (DRP (PA fm0 (Int32.toInt x0)) (1 : Int)) r9) := w15.2.2.2.2.1
    have p22 : ((Int32.toInt r14) = 0 ∨ ((Int32.toInt r14) = 3 ∧ (((1 : Int) ≤ 0 ∧ (Int32.toInt z12) = (Int32.toInt x0)) ∨ (0 < (1 : Int) ∧ (1 : Int) < (Int32.toInt x0) ∧ (Int32.toInt z12) = (Int32.toInt x0) - (1 : Int)) ∨ (0 < (1 : Int) ∧ (Int32.toInt x0) ≤ (1 : Int) ∧ (Int32.toInt z12) = 0)))) := w15.2.2.2.2.2
    exact r_iret 40 Rt dX7_pick_40 (z12, f13) (show 0 ≤ (Int32.toInt r14) ∧ (Int32.toInt r14) ≤ 9 ∧ 0 ≤ (Int32.toInt z12) ∧ (Int32.toInt z12) ≤ 48 ∧ ∀ q_9 : Nat → Int64, REQ (PA f13 (Int32.toInt z12)) q_9 (Int32.toInt r14) (PCK (Int32.toInt x1) (PA fm0 (Int32.toInt x0)) q_9 (Int64.toInt y0)) from ⟨(iv_wide (c := 0) (d := 9) ⟨p17, p18⟩ (by decide) (by decide)).1, (iv_wide (c := 0) (d := 9) ⟨p17, p18⟩ (by decide) (by decide)).2, (show _ ∧ _ from ⟨p19, p20⟩).1, (show _ ∧ _ from ⟨p19, p20⟩).2, (by intro q_9; exact pck_y (by omega) (by omega) (by omega) p11 (by omega) p21)⟩) [0, 1] (by decide) rfl (Nat.le_of_ble_eq_true rfl) (Nat.le_of_ble_eq_true rfl)
  · skip
    have k23 : ¬ ((Int32.toInt z5) < (Int32.toInt x0)) := fun h_9 => c6 ((fa_lt z5 x0).mpr h_9)
    refine r_bipush 23 9 C dX7_pick_23 (by decide) ?_
    refine r_goto 25 40 C dX7_pick_25 (by decide) ?_
    exact r_iret 40 Rt dX7_pick_40 (x0, fm0) (show 0 ≤ (Int32.toInt 9) ∧ (Int32.toInt 9) ≤ 9 ∧ 0 ≤ (Int32.toInt x0) ∧ (Int32.toInt x0) ≤ 48 ∧ ∀ q_9 : Nat → Int64, REQ (PA fm0 (Int32.toInt x0)) q_9 9 (PCK (Int32.toInt x1) (PA fm0 (Int32.toInt x0)) q_9 (Int64.toInt y0)) from ⟨(by ((repeat' apply And.intro) <;> first | trivial | rfl | assumption | omega | decide | exact Or.inl rfl | exact Or.inr (Or.inl rfl) | exact Or.inr (Or.inr rfl))), (by ((repeat' apply And.intro) <;> first | trivial | rfl | assumption | omega | decide | exact Or.inl rfl | exact Or.inr (Or.inl rfl) | exact Or.inr (Or.inr rfl))), i_x0.1, i_x0.2, (by intro q_9; exact pck_n (by omega) (by omega) rfl)⟩) [0, 1] (by decide) rfl (Nat.le_of_ble_eq_true rfl) (Nat.le_of_ble_eq_true rfl)
set_option maxHeartbeats 4000000 in
set_option maxRecDepth 100000 in
theorem c302_X7_fetch (l : Launch) (g : GD) (h0 : Nat) (h1 : Nat) (h2 : Nat) (y0 : Int64) (x0 : Int32) (x1 : Int32) (fm0 : Nat → Int64) (fm1 : Nat → Int64) (i_x0 : (0 ≤ (Int32.toInt x0) ∧ (Int32.toInt x0) ≤ 48)) (i_x1 : (0 ≤ (Int32.toInt x1) ∧ (Int32.toInt x1) ≤ 48)) (sz : Nat) : Met l yX7_fetch wsX7_fetch ({ frames := 2, cells := 0, slots := 0, locals := 45 }) (va_Pc [.ref h0, .long y0] (PW g [(h0, .inr (6, [.ref h1, .ref h2, .int x0, .int x1])), (h1, .inl (gJ g, 48, .inr (.inl fm0))), (h2, .inl (gJ g, 32, .inr (.inl fm1)))] sz)) (va_Qi (fun (r : Int32) (u : (Int32) × (Nat → Int64)) => 0 ≤ (Int32.toInt r) ∧ (Int32.toInt r) ≤ 9 ∧ 0 ≤ (Int32.toInt (u.1)) ∧ (Int32.toInt (u.1)) ≤ 48 ∧ REQ (PA (u.2) (Int32.toInt (u.1))) fm1 (Int32.toInt r) (FCH (Int32.toInt x1) (PA fm0 (Int32.toInt x0)) fm1 (Int64.toInt y0))) (BW g (va_A [(h0, .inr (6, [.ref h1, .ref h2, .int x0, .int x1])), (h1, .inl (gJ g, 48, .inr (.inl fm0))), (h2, .inl (gJ g, 32, .inr (.inl fm1)))] sz) (fun u : (Int32) × (Nat → Int64) => [(h0, .inr (6, [.ref h1, .ref h2, .int u.1, .int x1])), (h1, .inl (gJ g, 48, .inr (.inl u.2))), (h2, .inl (gJ g, 32, .inr (.inl fm1)))])) (va_A [(h0, .inr (6, [.ref h1, .ref h2, .int x0, .int x1])), (h1, .inl (gJ g, 48, .inr (.inl fm0))), (h2, .inl (gJ g, 32, .inr (.inl fm1)))] sz)) 0 0 (va_A [(h0, .inr (6, [.ref h1, .ref h2, .int x0, .int x1])), (h1, .inl (gJ g, 48, .inr (.inl fm0))), (h2, .inl (gJ g, 32, .inr (.inl fm1)))] sz) := by
  refine met_i RX7 (by decide) rfl rfl (Nat.le_of_ble_eq_true rfl) [(0, .ref h0), (1, .long y0)] rfl ?_
  intro p e s m args below meth c A Q C hnm Rt
  have gy0 := fb_rngL y0
  have hiX7 : ∀ w ∈ wsX70, w ∈ wsX7_fetch := fun w h => List.mem_cons_of_mem _ (List.mem_append_right _ (h))
  refine r_lload_n 0 1 C dX7_fetch_0 rfl ?_
  refine r_lconst 1 0 C dX7_fetch_1 (by decide) ?_
  obtain ⟨z1, ez1⟩ : ∃ z_9, lg_cmp y0 0 = z_9 := ⟨_, rfl⟩
  have l1z1 : (Int32.toInt z1) < 0 ↔ (Int64.toInt y0) < 0 := by rw [← ez1]; exact lgI1 y0 0
  have l2z1 : 0 < (Int32.toInt z1) ↔ 0 < (Int64.toInt y0) := by rw [← ez1]; exact lgI2 y0 0
  refine r_lcmp 2 z1 C dX7_fetch_2 ez1 ?_
  refine r_if_lt 3 14 C dX7_fetch_3 (by decide) (fun c2 => ?_) (fun c2 => ?_)
  · skip
    have k3 : (Int32.toInt z1) < 0 := (fa_lt z1 0).mp c2
    refine r_bipush 14 9 C dX7_fetch_14 (by decide) ?_
    exact r_iret 16 Rt dX7_fetch_16 (x0, fm0) (show 0 ≤ (Int32.toInt 9) ∧ (Int32.toInt 9) ≤ 9 ∧ 0 ≤ (Int32.toInt x0) ∧ (Int32.toInt x0) ≤ 48 ∧ REQ (PA fm0 (Int32.toInt x0)) fm1 9 (FCH (Int32.toInt x1) (PA fm0 (Int32.toInt x0)) fm1 (Int64.toInt y0)) from ⟨(by ((repeat' apply And.intro) <;> first | trivial | rfl | assumption | omega | decide | exact Or.inl rfl | exact Or.inr (Or.inl rfl) | exact Or.inr (Or.inr rfl))), (by ((repeat' apply And.intro) <;> first | trivial | rfl | assumption | omega | decide | exact Or.inl rfl | exact Or.inr (Or.inl rfl) | exact Or.inr (Or.inr rfl))), i_x0.1, i_x0.2, (by exact fch_n (by omega) rfl)⟩) [0, 1, 2] (by decide) rfl (Nat.le_of_ble_eq_true rfl) (Nat.le_of_ble_eq_true rfl)
  · skip
    have k4 : ¬ ((Int32.toInt z1) < 0) := fun h_9 => c2 ((fa_lt z1 0).mpr h_9)
    refine r_lload_n 6 1 C dX7_fetch_6 rfl ?_
    refine r_ldc2 7 32 C dX7_fetch_7 (mg 1 rfl) ?_
    obtain ⟨z5, ez5⟩ : ∃ z_9, lg_cmp y0 32 = z_9 := ⟨_, rfl⟩
    have l1z5 : (Int32.toInt z5) < 0 ↔ (Int64.toInt y0) < 32 := by rw [← ez5]; exact lgI1 y0 32
    have l2z5 : 0 < (Int32.toInt z5) ↔ 32 < (Int64.toInt y0) := by rw [← ez5]; exact lgI2 y0 32
    refine r_lcmp 10 z5 C dX7_fetch_10 ez5 ?_
    refine r_if_lt 11 17 C dX7_fetch_11 (by decide) (fun c6 => ?_) (fun c6 => ?_)
    · skip
      have k7 : (Int32.toInt z5) < 0 := (fa_lt z5 0).mp c6
      refine r_aload_n 17 0 C dX7_fetch_17 rfl ?_
      refine r_iconst 18 1 C dX7_fetch_18 (by decide) ?_
      refine r_aload_n 19 0 C dX7_fetch_19 rfl ?_
      refine r_get 20 C dX7_fetch_20 (k := 1) 0 rfl rfl hiX7 (by decide) rfl (mg 2 rfl) (Or.inl rfl) rfl ?_
      refine r_lload_n 23 1 C dX7_fetch_23 rfl ?_
      obtain ⟨z8, ez8⟩ : ∃ z_9, Int64.toInt32 y0 = z_9 := ⟨_, rfl⟩
      have tz8 : (Int32.toInt z8) = (Int64.toInt y0) := by rw [← ez8]; exact l2i_in (by omega) (by omega)
      refine r_l2i 24 z8 C dX7_fetch_24 ez8 ?_
      obtain ⟨z9, ez9⟩ : ∃ z_9, fm1 (Int32.toNatClampNeg z8) = z_9 := ⟨_, rfl⟩
      refine r_lald 25 z9 C dX7_fetch_25 2 rfl (vinI (by omega) (by omega)) ez9 ?_
      have gz9 := fb_rngL z9
      refine r_callVi 26 C dX7_fetch_26 [] [(h0, .inr (6, [.ref h1, .ref h2, .int x0, .int x1])), (h1, .inl (gJ g, 48, .inr (.inl fm0)))] [(h2, .inl (gJ g, 32, .inr (.inl fm1)))] (fun sz => c238_X7_replace l g h0 h1 1 z9 h2 x0 x1 fm0 i_x0 i_x1 sz) gX7_fetch_X7_replace rfl ⟨rfl, rfl⟩ 2 (by decide) ⟨Nat.le_of_ble_eq_true rfl, Nat.le_of_ble_eq_true rfl⟩ 0 rfl rfl [0, 1] [2] rfl rfl (by decide) (by decide) (by decide) rfl rfl (Nat.le_of_ble_eq_true rfl) ⟨Nat.le_of_ble_eq_true rfl, Nat.le_of_ble_eq_true rfl⟩ (fun r12 u14 w13 => ?_)
      obtain ⟨z10, f11⟩ := u14
      refine r_ws [(h2, .inl (gJ g, 32, .inr (.inl fm1))), (h0, .inr (6, [.ref h1, .ref h2, .int z10, .int x1])), (h1, .inl (gJ g, 48, .inr (.inl f11)))] rfl ?_
      have p15 : 0 ≤ (Int32.toInt r12) := w13.1
      have p16 : (Int32.toInt r12) ≤ 3 := w13.2.1
      have p17 : 0 ≤ (Int32.toInt z10) := w13.2.2.1
      have p18 : (Int32.toInt z10) ≤ 48 := w13.2.2.2.1
      have p19 : PEQ (PA f11 (Int32.toInt z10)) (Int32.toInt r12) (PSH (Int32.toInt x1) (DRP (PA fm0 (Int32.toInt x0)) (1 : Int)) z9) := w13.2.2.2.2.1
      have p20 : ((Int32.toInt r12) = 0 ∨ ((Int32.toInt r12) = 3 ∧ (((1 : Int) ≤ 0 ∧ (Int32.toInt z10) = (Int32.toInt x0)) ∨ (0 < (1 : Int) ∧ (1 : Int) < (Int32.toInt x0) ∧ (Int32.toInt z10) = (Int32.toInt x0) - (1 : Int)) ∨ (0 < (1 : Int) ∧ (Int32.toInt x0) ≤ (1 : Int) ∧ (Int32.toInt z10) = 0)))) := w13.2.2.2.2.2
      exact r_iret 29 Rt dX7_fetch_29 (z10, f11) (show 0 ≤ (Int32.toInt r12) ∧ (Int32.toInt r12) ≤ 9 ∧ 0 ≤ (Int32.toInt z10) ∧ (Int32.toInt z10) ≤ 48 ∧ REQ (PA f11 (Int32.toInt z10)) fm1 (Int32.toInt r12) (FCH (Int32.toInt x1) (PA fm0 (Int32.toInt x0)) fm1 (Int64.toInt y0)) from ⟨(iv_wide (c := 0) (d := 9) ⟨p15, p16⟩ (by decide) (by decide)).1, (iv_wide (c := 0) (d := 9) ⟨p15, p16⟩ (by decide) (by decide)).2, (show _ ∧ _ from ⟨p17, p18⟩).1, (show _ ∧ _ from ⟨p17, p18⟩).2, (by exact fch_y (by omega) (by omega) (by assumption) (by omega) p19)⟩) [1, 2, 0] (by decide) rfl (Nat.le_of_ble_eq_true rfl) (Nat.le_of_ble_eq_true rfl)
    · skip
      have k21 : ¬ ((Int32.toInt z5) < 0) := fun h_9 => c6 ((fa_lt z5 0).mpr h_9)
      refine r_bipush 14 9 C dX7_fetch_14 (by decide) ?_
      exact r_iret 16 Rt dX7_fetch_16 (x0, fm0) (show 0 ≤ (Int32.toInt 9) ∧ (Int32.toInt 9) ≤ 9 ∧ 0 ≤ (Int32.toInt x0) ∧ (Int32.toInt x0) ≤ 48 ∧ REQ (PA fm0 (Int32.toInt x0)) fm1 9 (FCH (Int32.toInt x1) (PA fm0 (Int32.toInt x0)) fm1 (Int64.toInt y0)) from ⟨(by ((repeat' apply And.intro) <;> first | trivial | rfl | assumption | omega | decide | exact Or.inl rfl | exact Or.inr (Or.inl rfl) | exact Or.inr (Or.inr rfl))), (by ((repeat' apply And.intro) <;> first | trivial | rfl | assumption | omega | decide | exact Or.inl rfl | exact Or.inr (Or.inl rfl) | exact Or.inr (Or.inr rfl))), i_x0.1, i_x0.2, (by exact fch_n (by omega) rfl)⟩) [0, 1, 2] (by decide) rfl (Nat.le_of_ble_eq_true rfl) (Nat.le_of_ble_eq_true rfl)
set_option maxHeartbeats 4000000 in
set_option maxRecDepth 100000 in
theorem c303_X7_rootOf (l : Launch) (g : GD) (y0 : Int64) (sz : Nat) : Met l yX7_rootOf wsX7_rootOf ({ frames := 0, cells := 0, slots := 0, locals := 0 }) (va_Pc [.long y0] (PW g [] sz)) (va_Ql (fun (r : Int64) (_ : Unit) => r = RTC y0 24) (BW g (va_A [] sz) (fun _ : Unit => [])) (va_A [] sz)) 0 0 (va_A [] sz) := by
  refine met_l RX7 (by decide) rfl rfl (Nat.le_of_ble_eq_true rfl) [(0, .long y0)] rfl ?_
  intro p e s m args below meth c A Q C hnm Rt
  have gy0 := fb_rngL y0
  refine r_lconst 0 0 C dX7_rootOf_0 (by decide) ?_
  refine r_lstore_n 1 C dX7_rootOf_1 [(2, .long 0), (0, .long y0)] (by decide) rfl ?_
  refine r_bipush 2 23 C dX7_rootOf_2 (by decide) ?_
  refine r_istore 4 C dX7_rootOf_4 [(4, .int 23), (2, .long 0), (0, .long y0)] (by decide) rfl ?_
  have lp4 : ∀ (n3 : Nat) (z1 : Int32) (z2 : Int64), (-1 ≤ (Int32.toInt z1) ∧ (Int32.toInt z1) ≤ 23) → (RTL y0 z2 (Int32.toInt z1)) → Int.toNat ((Int32.toInt z1) - (-1)) < n3 → WW p l e ({ frames := 0, cells := 0, slots := 0, locals := 0 } : Room) s m args below meth c A Q g 7 0 0 [] 6 [(4, .int z1), (2, .long z2), (0, .long y0)] [] := by
    intro n3
    induction n3 with
    | zero => intro z1 z2 i7 j8 hm6; exact absurd hm6 (Nat.not_lt_zero _)
    | succ n3 ih5 =>
      intro z1 z2 i7 j8 hm6
      obtain ⟨i7a, i7b⟩ := i7
      have gz2 := fb_rngL z2
      refine r_iload 6 0 C dX7_rootOf_6 rfl ?_
      refine r_if_lt 8 38 C dX7_rootOf_8 (by decide) (fun c9 => ?_) (fun c9 => ?_)
      · skip
        have k10 : (Int32.toInt z1) < 0 := (fa_lt z1 0).mp c9
        refine r_lload_n 38 1 C dX7_rootOf_38 rfl ?_
        exact r_lret 39 Rt dX7_rootOf_39 () (show z2 = RTC y0 24 from (by exact rtl_end (show RTL y0 z2 (Int32.toInt z1) by assumption) (by omega))) [] (by decide) rfl (Nat.le_of_ble_eq_true rfl) (Nat.le_of_ble_eq_true rfl)
      · skip
        have k11 : ¬ ((Int32.toInt z1) < 0) := fun h_9 => c9 ((fa_lt z1 0).mpr h_9)
        refine r_lload_n 11 1 C dX7_rootOf_11 rfl ?_
        refine r_lconst 12 1 C dX7_rootOf_12 (by decide) ?_
        refine r_iload 13 0 C dX7_rootOf_13 rfl ?_
        obtain ⟨z12, ez12⟩ : ∃ z_9, 1 <<< (Int32.toInt64 z1 &&& 63) = z_9 := ⟨_, rfl⟩
        have gz12 := fb_rngL z12
        refine r_lshl 15 z12 C dX7_rootOf_15 ez12 ?_
        obtain ⟨z13, ez13⟩ : ∃ z_9, z2 ||| z12 = z_9 := ⟨_, rfl⟩
        have gz13 := fb_rngL z13
        refine r_lor 16 z13 C dX7_rootOf_16 ez13 ?_
        refine r_lstore 17 C dX7_rootOf_17 [(5, .long z13), (4, .int z1), (2, .long z2), (0, .long y0)] (by decide) rfl ?_
        refine r_lload 19 0 C dX7_rootOf_19 rfl ?_
        refine r_lload 21 0 C dX7_rootOf_21 rfl ?_
        obtain ⟨z14, ez14⟩ : ∃ z_9, z13 * z13 = z_9 := ⟨_, rfl⟩
        have gz14 := fb_rngL z14
        refine r_lmul 23 z14 C dX7_rootOf_23 ez14 ?_
        refine r_lload_n 24 3 C dX7_rootOf_24 rfl ?_
        obtain ⟨z15, ez15⟩ : ∃ z_9, lg_cmp z14 y0 = z_9 := ⟨_, rfl⟩
        have l1z15 : (Int32.toInt z15) < 0 ↔ (Int64.toInt z14) < (Int64.toInt y0) := by rw [← ez15]; exact lgI1 z14 y0
        have l2z15 : 0 < (Int32.toInt z15) ↔ (Int64.toInt y0) < (Int64.toInt z14) := by rw [← ez15]; exact lgI2 z14 y0
        refine r_lcmp 25 z15 C dX7_rootOf_25 ez15 ?_
        refine r_if_gt 26 32 C dX7_rootOf_26 (by decide) (fun c16 => ?_) (fun c16 => ?_)
        · skip
          have k17 : 0 < (Int32.toInt z15) := (fa_lt 0 z15).mp c16
          obtain ⟨z18, ez18⟩ : ∃ z_9, z1 + Int32.ofInt (-1) = z_9 := ⟨_, rfl⟩
          have tz18 : (Int32.toInt z18) = (Int32.toInt z1) + (-1) := by rw [← ez18]; exact fb_addIv (a := (-1)) (b := 23) (c := (-1)) (d := (-1)) ⟨i7a, i7b⟩ ⟨by decide, by decide⟩ (by decide) (by decide)
          refine r_iinc 32 1 z18 C dX7_rootOf_32 rfl ez18 [(4, .int z18), (5, .long z13), (2, .long z2), (0, .long y0)] (by decide) rfl ?_
          refine r_goto 35 6 C dX7_rootOf_35 (by decide) ?_
          refine r_lv [(4, .int z18), (2, .long z2), (0, .long y0)] [0, 2, 3] rfl ?_
          exact ih5 z18 z2 ⟨by omega, by omega⟩ (rtl_step (show RTL y0 z2 (Int32.toInt z1) by assumption) (by omega) (by omega) (by assumption) (by assumption) (by assumption) (by omega) (by first | exact Or.inl ⟨by omega, rfl⟩ | exact Or.inr ⟨by omega, rfl⟩)) (by omega)
        · skip
          have k19 : ¬ (0 < (Int32.toInt z15)) := fun h_9 => c16 ((fa_lt 0 z15).mpr h_9)
          refine r_lload 29 0 C dX7_rootOf_29 rfl ?_
          refine r_lstore_n 31 C dX7_rootOf_31 [(2, .long z13), (5, .long z13), (4, .int z1), (0, .long y0)] (by decide) rfl ?_
          obtain ⟨z20, ez20⟩ : ∃ z_9, z1 + Int32.ofInt (-1) = z_9 := ⟨_, rfl⟩
          have tz20 : (Int32.toInt z20) = (Int32.toInt z1) + (-1) := by rw [← ez20]; exact fb_addIv (a := (-1)) (b := 23) (c := (-1)) (d := (-1)) ⟨i7a, i7b⟩ ⟨by decide, by decide⟩ (by decide) (by decide)
          refine r_iinc 32 2 z20 C dX7_rootOf_32 rfl ez20 [(4, .int z20), (2, .long z13), (5, .long z13), (0, .long y0)] (by decide) rfl ?_
          refine r_goto 35 6 C dX7_rootOf_35 (by decide) ?_
          refine r_lv [(4, .int z20), (2, .long z13), (0, .long y0)] [0, 1, 3] rfl ?_
          exact ih5 z20 z13 ⟨by omega, by omega⟩ (rtl_step (show RTL y0 z2 (Int32.toInt z1) by assumption) (by omega) (by omega) (by assumption) (by assumption) (by assumption) (by omega) (by first | exact Or.inl ⟨by omega, rfl⟩ | exact Or.inr ⟨by omega, rfl⟩)) (by omega)
  exact lp4 _ 23 0 (by decide) rtl_0 (Nat.lt_succ_self _)
set_option maxHeartbeats 4000000 in
set_option maxRecDepth 100000 in
theorem c304_X7_reckonOne (l : Launch) (g : GD) (h0 : Nat) (h1 : Nat) (h2 : Nat) (x0 : Int32) (x1 : Int32) (x2 : Int32) (fm0 : Nat → Int64) (fm1 : Nat → Int64) (i_x1 : (0 ≤ (Int32.toInt x1) ∧ (Int32.toInt x1) ≤ 48)) (i_x2 : (0 ≤ (Int32.toInt x2) ∧ (Int32.toInt x2) ≤ 48)) (sz : Nat) : Met l yX7_reckonOne wsX7_reckonOne ({ frames := 3, cells := 0, slots := 0, locals := 68 }) (va_Pc [.ref h0, .int x0] (PW g [(h0, .inr (6, [.ref h1, .ref h2, .int x1, .int x2])), (h1, .inl (gJ g, 48, .inr (.inl fm0))), (h2, .inl (gJ g, 32, .inr (.inl fm1)))] sz)) (va_Qi (fun (r : Int32) (u : (Int32) × (Nat → Int64)) => 0 ≤ (Int32.toInt r) ∧ (Int32.toInt r) ≤ 9 ∧ 0 ≤ (Int32.toInt (u.1)) ∧ (Int32.toInt (u.1)) ≤ 48 ∧ REQ (PA (u.2) (Int32.toInt (u.1))) fm1 (Int32.toInt r) (RK1 (Int32.toInt x2) (Int32.toInt x0) (PA fm0 (Int32.toInt x1)) fm1)) (BW g (va_A [(h0, .inr (6, [.ref h1, .ref h2, .int x1, .int x2])), (h1, .inl (gJ g, 48, .inr (.inl fm0))), (h2, .inl (gJ g, 32, .inr (.inl fm1)))] sz) (fun u : (Int32) × (Nat → Int64) => [(h0, .inr (6, [.ref h1, .ref h2, .int u.1, .int x2])), (h1, .inl (gJ g, 48, .inr (.inl u.2))), (h2, .inl (gJ g, 32, .inr (.inl fm1)))])) (va_A [(h0, .inr (6, [.ref h1, .ref h2, .int x1, .int x2])), (h1, .inl (gJ g, 48, .inr (.inl fm0))), (h2, .inl (gJ g, 32, .inr (.inl fm1)))] sz)) 0 0 (va_A [(h0, .inr (6, [.ref h1, .ref h2, .int x1, .int x2])), (h1, .inl (gJ g, 48, .inr (.inl fm0))), (h2, .inl (gJ g, 32, .inr (.inl fm1)))] sz) := by
  refine met_i RX7 (by decide) rfl rfl (Nat.le_of_ble_eq_true rfl) [(0, .ref h0), (1, .int x0)] rfl ?_
  intro p e s m args below meth c A Q C hnm Rt
  have gx0 := fb_rng x0
  refine r_aload_n 0 0 C dX7_reckonOne_0 rfl ?_
  refine r_iconst 1 0 C dX7_reckonOne_1 (by decide) ?_
  refine r_callVl 2 C dX7_reckonOne_2 [] [(h0, .inr (6, [.ref h1, .ref h2, .int x1, .int x2])), (h1, .inl (gJ g, 48, .inr (.inl fm0)))] [(h2, .inl (gJ g, 32, .inr (.inl fm1)))] (fun sz => c233_X7_below l g h0 h1 0 h2 x1 x2 fm0 (by decide) i_x1 i_x2 sz) gX7_reckonOne_X7_below rfl ⟨rfl, rfl⟩ 1 (by decide) ⟨Nat.le_of_ble_eq_true rfl, Nat.le_of_ble_eq_true rfl⟩ 0 rfl rfl [0, 1] [2] rfl rfl (by decide) (by decide) (by decide) rfl rfl (Nat.le_of_ble_eq_true rfl) ⟨Nat.le_of_ble_eq_true rfl, Nat.le_of_ble_eq_true rfl⟩ (fun r1 _ w2 => ?_)
  refine r_ws [(h2, .inl (gJ g, 32, .inr (.inl fm1))), (h0, .inr (6, [.ref h1, .ref h2, .int x1, .int x2])), (h1, .inl (gJ g, 48, .inr (.inl fm0)))] rfl ?_
  have p3 : r1 = BEL (PA fm0 (Int32.toInt x1)) (0 : Int) := w2
  have gr1 := fb_rngL r1
  refine r_lstore_n 5 C dX7_reckonOne_5 [(2, .long r1), (0, .ref h0), (1, .int x0)] (by decide) rfl ?_
  refine r_iload_n 6 2 C dX7_reckonOne_6 rfl ?_
  by_cases c4 : x0 = 5
  · skip
    have k5 : (Int32.toInt x0) = 5 := (fa_eq x0 5).mp c4
    refine r_tableIn 7 112 5 C dX7_reckonOne_7 c4 (by decide) (by decide) rfl (by decide) ?_
    refine r_aload_n 112 1 C dX7_reckonOne_112 rfl ?_
    refine r_iconst 113 1 C dX7_reckonOne_113 (by decide) ?_
    refine r_lload_n 114 0 C dX7_reckonOne_114 rfl ?_
    refine r_lconst 115 0 C dX7_reckonOne_115 (by decide) ?_
    obtain ⟨z6, ez6⟩ : ∃ z_9, lg_cmp r1 0 = z_9 := ⟨_, rfl⟩
    have l1z6 : (Int32.toInt z6) < 0 ↔ (Int64.toInt r1) < 0 := by rw [← ez6]; exact lgI1 r1 0
    have l2z6 : 0 < (Int32.toInt z6) ↔ 0 < (Int64.toInt r1) := by rw [← ez6]; exact lgI2 r1 0
    refine r_lcmp 116 z6 C dX7_reckonOne_116 ez6 ?_
    refine r_if_ne 117 124 C dX7_reckonOne_117 (by decide) (fun c7 => ?_) (fun c7 => ?_)
    · skip
      have k8 : ¬ ((Int32.toInt z6) = 0) := fun h_9 => c7 ((fa_eq z6 0).mpr h_9)
      refine r_iconst 124 0 C dX7_reckonOne_124 (by decide) ?_
      refine r_callSl 125 C dX7_reckonOne_125 [.int 1, .ref h0] [] [(h2, .inl (gJ g, 32, .inr (.inl fm1))), (h0, .inr (6, [.ref h1, .ref h2, .int x1, .int x2])), (h1, .inl (gJ g, 48, .inr (.inl fm0)))] (fun sz => c300_X7_truth l g 0 (by decide) sz) gX7_reckonOne_X7_truth rfl ⟨rfl, rfl⟩ 1 (by decide) ⟨Nat.le_of_ble_eq_true rfl, Nat.le_of_ble_eq_true rfl⟩ [] [0, 1, 2] rfl rfl (by decide) (by decide) (by decide) rfl rfl (Nat.le_of_ble_eq_true rfl) ⟨Nat.le_of_ble_eq_true rfl, Nat.le_of_ble_eq_true rfl⟩ (fun r9 _ w10 => ?_)
      refine r_ws [(h2, .inl (gJ g, 32, .inr (.inl fm1))), (h0, .inr (6, [.ref h1, .ref h2, .int x1, .int x2])), (h1, .inl (gJ g, 48, .inr (.inl fm0)))] rfl ?_
      have p11 : 0 ≤ (Int64.toInt r9) := w10.1
      have p12 : (Int64.toInt r9) ≤ 65536 := w10.2.1
      have p13 : TRV (0 : Int) r9 := w10.2.2
      refine r_callVi 128 C dX7_reckonOne_128 [] [(h0, .inr (6, [.ref h1, .ref h2, .int x1, .int x2])), (h1, .inl (gJ g, 48, .inr (.inl fm0)))] [(h2, .inl (gJ g, 32, .inr (.inl fm1)))] (fun sz => c238_X7_replace l g h0 h1 1 r9 h2 x1 x2 fm0 i_x1 i_x2 sz) gX7_reckonOne_X7_replace rfl ⟨rfl, rfl⟩ 2 (by decide) ⟨Nat.le_of_ble_eq_true rfl, Nat.le_of_ble_eq_true rfl⟩ 1 rfl rfl [1, 2] [0] rfl rfl (by decide) (by decide) (by decide) rfl rfl (Nat.le_of_ble_eq_true rfl) ⟨Nat.le_of_ble_eq_true rfl, Nat.le_of_ble_eq_true rfl⟩ (fun r16 u18 w17 => ?_)
      obtain ⟨z14, f15⟩ := u18
      refine r_ws [(h2, .inl (gJ g, 32, .inr (.inl fm1))), (h0, .inr (6, [.ref h1, .ref h2, .int z14, .int x2])), (h1, .inl (gJ g, 48, .inr (.inl f15)))] rfl ?_
      have p19 : 0 ≤ (Int32.toInt r16) := w17.1
      have p20 : (Int32.toInt r16) ≤ 3 := w17.2.1
      have p21 : 0 ≤ (Int32.toInt z14) := w17.2.2.1
      have p22 : (Int32.toInt z14) ≤ 48 := w17.2.2.2.1
      have p23 : PEQ (PA f15 (Int32.toInt z14)) (Int32.toInt r16) (PSH (Int32.toInt x2) (DRP (PA fm0 (Int32.toInt x1)) (1 : Int)) r9) := w17.2.2.2.2.1
      have p24 : ((Int32.toInt r16) = 0 ∨ ((Int32.toInt r16) = 3 ∧ (((1 : Int) ≤ 0 ∧ (Int32.toInt z14) = (Int32.toInt x1)) ∨ (0 < (1 : Int) ∧ (1 : Int) < (Int32.toInt x1) ∧ (Int32.toInt z14) = (Int32.toInt x1) - (1 : Int)) ∨ (0 < (1 : Int) ∧ (Int32.toInt x1) ≤ (1 : Int) ∧ (Int32.toInt z14) = 0)))) := w17.2.2.2.2.2
      exact r_iret 131 Rt dX7_reckonOne_131 (z14, f15) (show 0 ≤ (Int32.toInt r16) ∧ (Int32.toInt r16) ≤ 9 ∧ 0 ≤ (Int32.toInt z14) ∧ (Int32.toInt z14) ≤ 48 ∧ REQ (PA f15 (Int32.toInt z14)) fm1 (Int32.toInt r16) (RK1 (Int32.toInt x2) (Int32.toInt x0) (PA fm0 (Int32.toInt x1)) fm1) from ⟨(iv_wide (c := 0) (d := 9) ⟨p19, p20⟩ (by decide) (by decide)).1, (iv_wide (c := 0) (d := 9) ⟨p19, p20⟩ (by decide) (by decide)).2, (show _ ∧ _ from ⟨p21, p22⟩).1, (show _ ∧ _ from ⟨p21, p22⟩).2, (by first | exact rk_5 (by omega) p3 (Or.inl ⟨l0 (by omega), trv_1 p13 (by first | rfl | omega)⟩) p23 | exact rk_5 (by omega) p3 (Or.inr ⟨n0 (by omega), trv_0 p13 (by first | rfl | omega)⟩) p23)⟩) [1, 2, 0] (by decide) rfl (Nat.le_of_ble_eq_true rfl) (Nat.le_of_ble_eq_true rfl)
    · skip
      have k25 : (Int32.toInt z6) = 0 := (fa_eq z6 0).mp c7
      refine r_iconst 120 1 C dX7_reckonOne_120 (by decide) ?_
      refine r_goto 121 125 C dX7_reckonOne_121 (by decide) ?_
      refine r_callSl 125 C dX7_reckonOne_125 [.int 1, .ref h0] [] [(h2, .inl (gJ g, 32, .inr (.inl fm1))), (h0, .inr (6, [.ref h1, .ref h2, .int x1, .int x2])), (h1, .inl (gJ g, 48, .inr (.inl fm0)))] (fun sz => c300_X7_truth l g 1 (by decide) sz) gX7_reckonOne_X7_truth rfl ⟨rfl, rfl⟩ 1 (by decide) ⟨Nat.le_of_ble_eq_true rfl, Nat.le_of_ble_eq_true rfl⟩ [] [0, 1, 2] rfl rfl (by decide) (by decide) (by decide) rfl rfl (Nat.le_of_ble_eq_true rfl) ⟨Nat.le_of_ble_eq_true rfl, Nat.le_of_ble_eq_true rfl⟩ (fun r26 _ w27 => ?_)
      refine r_ws [(h2, .inl (gJ g, 32, .inr (.inl fm1))), (h0, .inr (6, [.ref h1, .ref h2, .int x1, .int x2])), (h1, .inl (gJ g, 48, .inr (.inl fm0)))] rfl ?_
      have p28 : 0 ≤ (Int64.toInt r26) := w27.1
      have p29 : (Int64.toInt r26) ≤ 65536 := w27.2.1
      have p30 : TRV (1 : Int) r26 := w27.2.2
      refine r_callVi 128 C dX7_reckonOne_128 [] [(h0, .inr (6, [.ref h1, .ref h2, .int x1, .int x2])), (h1, .inl (gJ g, 48, .inr (.inl fm0)))] [(h2, .inl (gJ g, 32, .inr (.inl fm1)))] (fun sz => c238_X7_replace l g h0 h1 1 r26 h2 x1 x2 fm0 i_x1 i_x2 sz) gX7_reckonOne_X7_replace rfl ⟨rfl, rfl⟩ 2 (by decide) ⟨Nat.le_of_ble_eq_true rfl, Nat.le_of_ble_eq_true rfl⟩ 1 rfl rfl [1, 2] [0] rfl rfl (by decide) (by decide) (by decide) rfl rfl (Nat.le_of_ble_eq_true rfl) ⟨Nat.le_of_ble_eq_true rfl, Nat.le_of_ble_eq_true rfl⟩ (fun r33 u35 w34 => ?_)
      obtain ⟨z31, f32⟩ := u35
      refine r_ws [(h2, .inl (gJ g, 32, .inr (.inl fm1))), (h0, .inr (6, [.ref h1, .ref h2, .int z31, .int x2])), (h1, .inl (gJ g, 48, .inr (.inl f32)))] rfl ?_
      have p36 : 0 ≤ (Int32.toInt r33) := w34.1
      have p37 : (Int32.toInt r33) ≤ 3 := w34.2.1
      have p38 : 0 ≤ (Int32.toInt z31) := w34.2.2.1
      have p39 : (Int32.toInt z31) ≤ 48 := w34.2.2.2.1
      have p40 : PEQ (PA f32 (Int32.toInt z31)) (Int32.toInt r33) (PSH (Int32.toInt x2) (DRP (PA fm0 (Int32.toInt x1)) (1 : Int)) r26) := w34.2.2.2.2.1
      have p41 : ((Int32.toInt r33) = 0 ∨ ((Int32.toInt r33) = 3 ∧ (((1 : Int) ≤ 0 ∧ (Int32.toInt z31) = (Int32.toInt x1)) ∨ (0 < (1 : Int) ∧ (1 : Int) < (Int32.toInt x1) ∧ (Int32.toInt z31) = (Int32.toInt x1) - (1 : Int)) ∨ (0 < (1 : Int) ∧ (Int32.toInt x1) ≤ (1 : Int) ∧ (Int32.toInt z31) = 0)))) := w34.2.2.2.2.2
      exact r_iret 131 Rt dX7_reckonOne_131 (z31, f32) (show 0 ≤ (Int32.toInt r33) ∧ (Int32.toInt r33) ≤ 9 ∧ 0 ≤ (Int32.toInt z31) ∧ (Int32.toInt z31) ≤ 48 ∧ REQ (PA f32 (Int32.toInt z31)) fm1 (Int32.toInt r33) (RK1 (Int32.toInt x2) (Int32.toInt x0) (PA fm0 (Int32.toInt x1)) fm1) from ⟨(iv_wide (c := 0) (d := 9) ⟨p36, p37⟩ (by decide) (by decide)).1, (iv_wide (c := 0) (d := 9) ⟨p36, p37⟩ (by decide) (by decide)).2, (show _ ∧ _ from ⟨p38, p39⟩).1, (show _ ∧ _ from ⟨p38, p39⟩).2, (by first | exact rk_5 (by omega) p3 (Or.inl ⟨l0 (by omega), trv_1 p30 (by first | rfl | omega)⟩) p40 | exact rk_5 (by omega) p3 (Or.inr ⟨n0 (by omega), trv_0 p30 (by first | rfl | omega)⟩) p40)⟩) [1, 2, 0] (by decide) rfl (Nat.le_of_ble_eq_true rfl) (Nat.le_of_ble_eq_true rfl)
  · skip
    have k42 : ¬ ((Int32.toInt x0) = 5) := fun h_9 => c4 ((fa_eq x0 5).mpr h_9)
    by_cases c43 : x0 = 6
    · skip
      have k44 : (Int32.toInt x0) = 6 := (fa_eq x0 6).mp c43
      refine r_tableIn 7 202 6 C dX7_reckonOne_7 c43 (by decide) (by decide) rfl (by decide) ?_
      refine r_aload_n 202 1 C dX7_reckonOne_202 rfl ?_
      refine r_aload_n 203 1 C dX7_reckonOne_203 rfl ?_
      refine r_iconst 204 0 C dX7_reckonOne_204 (by decide) ?_
      refine r_callVl 205 C dX7_reckonOne_205 [.ref h0] [(h0, .inr (6, [.ref h1, .ref h2, .int x1, .int x2])), (h1, .inl (gJ g, 48, .inr (.inl fm0)))] [(h2, .inl (gJ g, 32, .inr (.inl fm1)))] (fun sz => c234_X7_wholeBelow l g h0 h1 0 h2 x1 x2 fm0 (by decide) i_x1 i_x2 sz) gX7_reckonOne_X7_wholeBelow rfl ⟨rfl, rfl⟩ 1 (by decide) ⟨Nat.le_of_ble_eq_true rfl, Nat.le_of_ble_eq_true rfl⟩ 1 rfl rfl [1, 2] [0] rfl rfl (by decide) (by decide) (by decide) rfl rfl (Nat.le_of_ble_eq_true rfl) ⟨Nat.le_of_ble_eq_true rfl, Nat.le_of_ble_eq_true rfl⟩ (fun r45 _ w46 => ?_)
      refine r_ws [(h2, .inl (gJ g, 32, .inr (.inl fm1))), (h0, .inr (6, [.ref h1, .ref h2, .int x1, .int x2])), (h1, .inl (gJ g, 48, .inr (.inl fm0)))] rfl ?_
      have p47 : r45 = BEL (PA fm0 (Int32.toInt x1)) (0 : Int) >>> 16 := w46
      have gr45 := fb_rngL r45
      refine r_callVi 208 C dX7_reckonOne_208 [] [(h0, .inr (6, [.ref h1, .ref h2, .int x1, .int x2])), (h1, .inl (gJ g, 48, .inr (.inl fm0)))] [(h2, .inl (gJ g, 32, .inr (.inl fm1)))] (fun sz => c301_X7_pick l g h0 h1 r45 h2 x1 x2 fm0 i_x1 i_x2 sz) gX7_reckonOne_X7_pick rfl ⟨rfl, rfl⟩ 1 (by decide) ⟨Nat.le_of_ble_eq_true rfl, Nat.le_of_ble_eq_true rfl⟩ 1 rfl rfl [1, 2] [0] rfl rfl (by decide) (by decide) (by decide) rfl rfl (Nat.le_of_ble_eq_true rfl) ⟨Nat.le_of_ble_eq_true rfl, Nat.le_of_ble_eq_true rfl⟩ (fun r50 u52 w51 => ?_)
      obtain ⟨z48, f49⟩ := u52
      refine r_ws [(h2, .inl (gJ g, 32, .inr (.inl fm1))), (h0, .inr (6, [.ref h1, .ref h2, .int z48, .int x2])), (h1, .inl (gJ g, 48, .inr (.inl f49)))] rfl ?_
      have p53 : 0 ≤ (Int32.toInt r50) := w51.1
      have p54 : (Int32.toInt r50) ≤ 9 := w51.2.1
      have p55 : 0 ≤ (Int32.toInt z48) := w51.2.2.1
      have p56 : (Int32.toInt z48) ≤ 48 := w51.2.2.2.1
      have p57 : ∀ q_9 : Nat → Int64, REQ (PA f49 (Int32.toInt z48)) q_9 (Int32.toInt r50) (PCK (Int32.toInt x2) (PA fm0 (Int32.toInt x1)) q_9 (Int64.toInt r45)) := w51.2.2.2.2
      exact r_iret 211 Rt dX7_reckonOne_211 (z48, f49) (show 0 ≤ (Int32.toInt r50) ∧ (Int32.toInt r50) ≤ 9 ∧ 0 ≤ (Int32.toInt z48) ∧ (Int32.toInt z48) ≤ 48 ∧ REQ (PA f49 (Int32.toInt z48)) fm1 (Int32.toInt r50) (RK1 (Int32.toInt x2) (Int32.toInt x0) (PA fm0 (Int32.toInt x1)) fm1) from ⟨(show _ ∧ _ from ⟨p53, p54⟩).1, (show _ ∧ _ from ⟨p53, p54⟩).2, (show _ ∧ _ from ⟨p55, p56⟩).1, (show _ ∧ _ from ⟨p55, p56⟩).2, (by exact rk_29 (by omega) p47 rfl (p57 _))⟩) [1, 2, 0] (by decide) rfl (Nat.le_of_ble_eq_true rfl) (Nat.le_of_ble_eq_true rfl)
    · skip
      have k58 : ¬ ((Int32.toInt x0) = 6) := fun h_9 => c43 ((fa_eq x0 6).mpr h_9)
      by_cases c59 : x0 = 7
      · skip
        have k60 : (Int32.toInt x0) = 7 := (fa_eq x0 7).mp c59
        refine r_tableIn 7 202 7 C dX7_reckonOne_7 c59 (by decide) (by decide) rfl (by decide) ?_
        refine r_aload_n 202 1 C dX7_reckonOne_202 rfl ?_
        refine r_aload_n 203 1 C dX7_reckonOne_203 rfl ?_
        refine r_iconst 204 0 C dX7_reckonOne_204 (by decide) ?_
        refine r_callVl 205 C dX7_reckonOne_205 [.ref h0] [(h0, .inr (6, [.ref h1, .ref h2, .int x1, .int x2])), (h1, .inl (gJ g, 48, .inr (.inl fm0)))] [(h2, .inl (gJ g, 32, .inr (.inl fm1)))] (fun sz => c234_X7_wholeBelow l g h0 h1 0 h2 x1 x2 fm0 (by decide) i_x1 i_x2 sz) gX7_reckonOne_X7_wholeBelow rfl ⟨rfl, rfl⟩ 1 (by decide) ⟨Nat.le_of_ble_eq_true rfl, Nat.le_of_ble_eq_true rfl⟩ 1 rfl rfl [1, 2] [0] rfl rfl (by decide) (by decide) (by decide) rfl rfl (Nat.le_of_ble_eq_true rfl) ⟨Nat.le_of_ble_eq_true rfl, Nat.le_of_ble_eq_true rfl⟩ (fun r61 _ w62 => ?_)
        refine r_ws [(h2, .inl (gJ g, 32, .inr (.inl fm1))), (h0, .inr (6, [.ref h1, .ref h2, .int x1, .int x2])), (h1, .inl (gJ g, 48, .inr (.inl fm0)))] rfl ?_
        have p63 : r61 = BEL (PA fm0 (Int32.toInt x1)) (0 : Int) >>> 16 := w62
        have gr61 := fb_rngL r61
        refine r_callVi 208 C dX7_reckonOne_208 [] [(h0, .inr (6, [.ref h1, .ref h2, .int x1, .int x2])), (h1, .inl (gJ g, 48, .inr (.inl fm0)))] [(h2, .inl (gJ g, 32, .inr (.inl fm1)))] (fun sz => c301_X7_pick l g h0 h1 r61 h2 x1 x2 fm0 i_x1 i_x2 sz) gX7_reckonOne_X7_pick rfl ⟨rfl, rfl⟩ 1 (by decide) ⟨Nat.le_of_ble_eq_true rfl, Nat.le_of_ble_eq_true rfl⟩ 1 rfl rfl [1, 2] [0] rfl rfl (by decide) (by decide) (by decide) rfl rfl (Nat.le_of_ble_eq_true rfl) ⟨Nat.le_of_ble_eq_true rfl, Nat.le_of_ble_eq_true rfl⟩ (fun r66 u68 w67 => ?_)
        obtain ⟨z64, f65⟩ := u68
        refine r_ws [(h2, .inl (gJ g, 32, .inr (.inl fm1))), (h0, .inr (6, [.ref h1, .ref h2, .int z64, .int x2])), (h1, .inl (gJ g, 48, .inr (.inl f65)))] rfl ?_
        have p69 : 0 ≤ (Int32.toInt r66) := w67.1
        have p70 : (Int32.toInt r66) ≤ 9 := w67.2.1
        have p71 : 0 ≤ (Int32.toInt z64) := w67.2.2.1
        have p72 : (Int32.toInt z64) ≤ 48 := w67.2.2.2.1
        have p73 : ∀ q_9 : Nat → Int64, REQ (PA f65 (Int32.toInt z64)) q_9 (Int32.toInt r66) (PCK (Int32.toInt x2) (PA fm0 (Int32.toInt x1)) q_9 (Int64.toInt r61)) := w67.2.2.2.2
        exact r_iret 211 Rt dX7_reckonOne_211 (z64, f65) (show 0 ≤ (Int32.toInt r66) ∧ (Int32.toInt r66) ≤ 9 ∧ 0 ≤ (Int32.toInt z64) ∧ (Int32.toInt z64) ≤ 48 ∧ REQ (PA f65 (Int32.toInt z64)) fm1 (Int32.toInt r66) (RK1 (Int32.toInt x2) (Int32.toInt x0) (PA fm0 (Int32.toInt x1)) fm1) from ⟨(show _ ∧ _ from ⟨p69, p70⟩).1, (show _ ∧ _ from ⟨p69, p70⟩).2, (show _ ∧ _ from ⟨p71, p72⟩).1, (show _ ∧ _ from ⟨p71, p72⟩).2, (by exact rk_29 (by omega) p63 rfl (p73 _))⟩) [1, 2, 0] (by decide) rfl (Nat.le_of_ble_eq_true rfl) (Nat.le_of_ble_eq_true rfl)
      · skip
        have k74 : ¬ ((Int32.toInt x0) = 7) := fun h_9 => c59 ((fa_eq x0 7).mpr h_9)
        by_cases c75 : x0 = 8
        · skip
          have k76 : (Int32.toInt x0) = 8 := (fa_eq x0 8).mp c75
          refine r_tableIn 7 202 8 C dX7_reckonOne_7 c75 (by decide) (by decide) rfl (by decide) ?_
          refine r_aload_n 202 1 C dX7_reckonOne_202 rfl ?_
          refine r_aload_n 203 1 C dX7_reckonOne_203 rfl ?_
          refine r_iconst 204 0 C dX7_reckonOne_204 (by decide) ?_
          refine r_callVl 205 C dX7_reckonOne_205 [.ref h0] [(h0, .inr (6, [.ref h1, .ref h2, .int x1, .int x2])), (h1, .inl (gJ g, 48, .inr (.inl fm0)))] [(h2, .inl (gJ g, 32, .inr (.inl fm1)))] (fun sz => c234_X7_wholeBelow l g h0 h1 0 h2 x1 x2 fm0 (by decide) i_x1 i_x2 sz) gX7_reckonOne_X7_wholeBelow rfl ⟨rfl, rfl⟩ 1 (by decide) ⟨Nat.le_of_ble_eq_true rfl, Nat.le_of_ble_eq_true rfl⟩ 1 rfl rfl [1, 2] [0] rfl rfl (by decide) (by decide) (by decide) rfl rfl (Nat.le_of_ble_eq_true rfl) ⟨Nat.le_of_ble_eq_true rfl, Nat.le_of_ble_eq_true rfl⟩ (fun r77 _ w78 => ?_)
          refine r_ws [(h2, .inl (gJ g, 32, .inr (.inl fm1))), (h0, .inr (6, [.ref h1, .ref h2, .int x1, .int x2])), (h1, .inl (gJ g, 48, .inr (.inl fm0)))] rfl ?_
          have p79 : r77 = BEL (PA fm0 (Int32.toInt x1)) (0 : Int) >>> 16 := w78
          have gr77 := fb_rngL r77
          refine r_callVi 208 C dX7_reckonOne_208 [] [(h0, .inr (6, [.ref h1, .ref h2, .int x1, .int x2])), (h1, .inl (gJ g, 48, .inr (.inl fm0)))] [(h2, .inl (gJ g, 32, .inr (.inl fm1)))] (fun sz => c301_X7_pick l g h0 h1 r77 h2 x1 x2 fm0 i_x1 i_x2 sz) gX7_reckonOne_X7_pick rfl ⟨rfl, rfl⟩ 1 (by decide) ⟨Nat.le_of_ble_eq_true rfl, Nat.le_of_ble_eq_true rfl⟩ 1 rfl rfl [1, 2] [0] rfl rfl (by decide) (by decide) (by decide) rfl rfl (Nat.le_of_ble_eq_true rfl) ⟨Nat.le_of_ble_eq_true rfl, Nat.le_of_ble_eq_true rfl⟩ (fun r82 u84 w83 => ?_)
          obtain ⟨z80, f81⟩ := u84
          refine r_ws [(h2, .inl (gJ g, 32, .inr (.inl fm1))), (h0, .inr (6, [.ref h1, .ref h2, .int z80, .int x2])), (h1, .inl (gJ g, 48, .inr (.inl f81)))] rfl ?_
          have p85 : 0 ≤ (Int32.toInt r82) := w83.1
          have p86 : (Int32.toInt r82) ≤ 9 := w83.2.1
          have p87 : 0 ≤ (Int32.toInt z80) := w83.2.2.1
          have p88 : (Int32.toInt z80) ≤ 48 := w83.2.2.2.1
          have p89 : ∀ q_9 : Nat → Int64, REQ (PA f81 (Int32.toInt z80)) q_9 (Int32.toInt r82) (PCK (Int32.toInt x2) (PA fm0 (Int32.toInt x1)) q_9 (Int64.toInt r77)) := w83.2.2.2.2
          exact r_iret 211 Rt dX7_reckonOne_211 (z80, f81) (show 0 ≤ (Int32.toInt r82) ∧ (Int32.toInt r82) ≤ 9 ∧ 0 ≤ (Int32.toInt z80) ∧ (Int32.toInt z80) ≤ 48 ∧ REQ (PA f81 (Int32.toInt z80)) fm1 (Int32.toInt r82) (RK1 (Int32.toInt x2) (Int32.toInt x0) (PA fm0 (Int32.toInt x1)) fm1) from ⟨(show _ ∧ _ from ⟨p85, p86⟩).1, (show _ ∧ _ from ⟨p85, p86⟩).2, (show _ ∧ _ from ⟨p87, p88⟩).1, (show _ ∧ _ from ⟨p87, p88⟩).2, (by exact rk_29 (by omega) p79 rfl (p89 _))⟩) [1, 2, 0] (by decide) rfl (Nat.le_of_ble_eq_true rfl) (Nat.le_of_ble_eq_true rfl)
        · skip
          have k90 : ¬ ((Int32.toInt x0) = 8) := fun h_9 => c75 ((fa_eq x0 8).mpr h_9)
          by_cases c91 : x0 = 9
          · skip
            have k92 : (Int32.toInt x0) = 9 := (fa_eq x0 9).mp c91
            refine r_tableIn 7 132 9 C dX7_reckonOne_7 c91 (by decide) (by decide) rfl (by decide) ?_
            refine r_aload_n 132 1 C dX7_reckonOne_132 rfl ?_
            refine r_iconst 133 1 C dX7_reckonOne_133 (by decide) ?_
            refine r_lload_n 134 0 C dX7_reckonOne_134 rfl ?_
            obtain ⟨z93, ez93⟩ : ∃ z_9 : Int64, (if 0 < r1 then r1 else -r1) = z_9 := ⟨_, rfl⟩
            have gz93 := fb_rngL z93
            refine r_labs 135 z93 C dX7_reckonOne_135 (mg 1 rfl) (mg 2 rfl) (mg 3 rfl) (mg 4 rfl) (Nat.le_of_ble_eq_true rfl) (Nat.le_of_ble_eq_true rfl) (Nat.le_of_ble_eq_true rfl) (Nat.le_of_ble_eq_true rfl) ez93 ?_
            obtain ⟨z94, ez94⟩ : ∃ z_9, Int64.toInt32 z93 = z_9 := ⟨_, rfl⟩
            have gz94 := fb_rng z94
            refine r_l2i 138 z94 C dX7_reckonOne_138 ez94 ?_
            obtain ⟨z95, ez95⟩ : ∃ z_9, Int32.toInt64 z94 = z_9 := ⟨_, rfl⟩
            have tz95 : (Int64.toInt z95) = (Int32.toInt z94) := by rw [← ez95]; exact Int32.toInt_toInt64 _
            refine r_i2l 139 z95 C dX7_reckonOne_139 ez95 ?_
            refine r_callVi 140 C dX7_reckonOne_140 [] [(h0, .inr (6, [.ref h1, .ref h2, .int x1, .int x2])), (h1, .inl (gJ g, 48, .inr (.inl fm0)))] [(h2, .inl (gJ g, 32, .inr (.inl fm1)))] (fun sz => c238_X7_replace l g h0 h1 1 z95 h2 x1 x2 fm0 i_x1 i_x2 sz) gX7_reckonOne_X7_replace rfl ⟨rfl, rfl⟩ 2 (by decide) ⟨Nat.le_of_ble_eq_true rfl, Nat.le_of_ble_eq_true rfl⟩ 1 rfl rfl [1, 2] [0] rfl rfl (by decide) (by decide) (by decide) rfl rfl (Nat.le_of_ble_eq_true rfl) ⟨Nat.le_of_ble_eq_true rfl, Nat.le_of_ble_eq_true rfl⟩ (fun r98 u100 w99 => ?_)
            obtain ⟨z96, f97⟩ := u100
            refine r_ws [(h2, .inl (gJ g, 32, .inr (.inl fm1))), (h0, .inr (6, [.ref h1, .ref h2, .int z96, .int x2])), (h1, .inl (gJ g, 48, .inr (.inl f97)))] rfl ?_
            have p101 : 0 ≤ (Int32.toInt r98) := w99.1
            have p102 : (Int32.toInt r98) ≤ 3 := w99.2.1
            have p103 : 0 ≤ (Int32.toInt z96) := w99.2.2.1
            have p104 : (Int32.toInt z96) ≤ 48 := w99.2.2.2.1
            have p105 : PEQ (PA f97 (Int32.toInt z96)) (Int32.toInt r98) (PSH (Int32.toInt x2) (DRP (PA fm0 (Int32.toInt x1)) (1 : Int)) z95) := w99.2.2.2.2.1
            have p106 : ((Int32.toInt r98) = 0 ∨ ((Int32.toInt r98) = 3 ∧ (((1 : Int) ≤ 0 ∧ (Int32.toInt z96) = (Int32.toInt x1)) ∨ (0 < (1 : Int) ∧ (1 : Int) < (Int32.toInt x1) ∧ (Int32.toInt z96) = (Int32.toInt x1) - (1 : Int)) ∨ (0 < (1 : Int) ∧ (Int32.toInt x1) ≤ (1 : Int) ∧ (Int32.toInt z96) = 0)))) := w99.2.2.2.2.2
            exact r_iret 143 Rt dX7_reckonOne_143 (z96, f97) (show 0 ≤ (Int32.toInt r98) ∧ (Int32.toInt r98) ≤ 9 ∧ 0 ≤ (Int32.toInt z96) ∧ (Int32.toInt z96) ≤ 48 ∧ REQ (PA f97 (Int32.toInt z96)) fm1 (Int32.toInt r98) (RK1 (Int32.toInt x2) (Int32.toInt x0) (PA fm0 (Int32.toInt x1)) fm1) from ⟨(iv_wide (c := 0) (d := 9) ⟨p101, p102⟩ (by decide) (by decide)).1, (iv_wide (c := 0) (d := 9) ⟨p101, p102⟩ (by decide) (by decide)).2, (show _ ∧ _ from ⟨p103, p104⟩).1, (show _ ∧ _ from ⟨p103, p104⟩).2, (by first | exact rk_14 (by omega) p3 (by assumption) (by assumption) (by assumption) p105 | exact rk_9 (by omega) p3 (abl_pf (by assumption)) (by assumption) (by assumption) p105)⟩) [1, 2, 0] (by decide) rfl (Nat.le_of_ble_eq_true rfl) (Nat.le_of_ble_eq_true rfl)
          · skip
            have k107 : ¬ ((Int32.toInt x0) = 9) := fun h_9 => c91 ((fa_eq x0 9).mpr h_9)
            by_cases c108 : x0 = 10
            · skip
              have k109 : (Int32.toInt x0) = 10 := (fa_eq x0 10).mp c108
              refine r_tableIn 7 202 10 C dX7_reckonOne_7 c108 (by decide) (by decide) rfl (by decide) ?_
              refine r_aload_n 202 1 C dX7_reckonOne_202 rfl ?_
              refine r_aload_n 203 1 C dX7_reckonOne_203 rfl ?_
              refine r_iconst 204 0 C dX7_reckonOne_204 (by decide) ?_
              refine r_callVl 205 C dX7_reckonOne_205 [.ref h0] [(h0, .inr (6, [.ref h1, .ref h2, .int x1, .int x2])), (h1, .inl (gJ g, 48, .inr (.inl fm0)))] [(h2, .inl (gJ g, 32, .inr (.inl fm1)))] (fun sz => c234_X7_wholeBelow l g h0 h1 0 h2 x1 x2 fm0 (by decide) i_x1 i_x2 sz) gX7_reckonOne_X7_wholeBelow rfl ⟨rfl, rfl⟩ 1 (by decide) ⟨Nat.le_of_ble_eq_true rfl, Nat.le_of_ble_eq_true rfl⟩ 1 rfl rfl [1, 2] [0] rfl rfl (by decide) (by decide) (by decide) rfl rfl (Nat.le_of_ble_eq_true rfl) ⟨Nat.le_of_ble_eq_true rfl, Nat.le_of_ble_eq_true rfl⟩ (fun r110 _ w111 => ?_)
              refine r_ws [(h2, .inl (gJ g, 32, .inr (.inl fm1))), (h0, .inr (6, [.ref h1, .ref h2, .int x1, .int x2])), (h1, .inl (gJ g, 48, .inr (.inl fm0)))] rfl ?_
              have p112 : r110 = BEL (PA fm0 (Int32.toInt x1)) (0 : Int) >>> 16 := w111
              have gr110 := fb_rngL r110
              refine r_callVi 208 C dX7_reckonOne_208 [] [(h0, .inr (6, [.ref h1, .ref h2, .int x1, .int x2])), (h1, .inl (gJ g, 48, .inr (.inl fm0)))] [(h2, .inl (gJ g, 32, .inr (.inl fm1)))] (fun sz => c301_X7_pick l g h0 h1 r110 h2 x1 x2 fm0 i_x1 i_x2 sz) gX7_reckonOne_X7_pick rfl ⟨rfl, rfl⟩ 1 (by decide) ⟨Nat.le_of_ble_eq_true rfl, Nat.le_of_ble_eq_true rfl⟩ 1 rfl rfl [1, 2] [0] rfl rfl (by decide) (by decide) (by decide) rfl rfl (Nat.le_of_ble_eq_true rfl) ⟨Nat.le_of_ble_eq_true rfl, Nat.le_of_ble_eq_true rfl⟩ (fun r115 u117 w116 => ?_)
              obtain ⟨z113, f114⟩ := u117
              refine r_ws [(h2, .inl (gJ g, 32, .inr (.inl fm1))), (h0, .inr (6, [.ref h1, .ref h2, .int z113, .int x2])), (h1, .inl (gJ g, 48, .inr (.inl f114)))] rfl ?_
              have p118 : 0 ≤ (Int32.toInt r115) := w116.1
              have p119 : (Int32.toInt r115) ≤ 9 := w116.2.1
              have p120 : 0 ≤ (Int32.toInt z113) := w116.2.2.1
              have p121 : (Int32.toInt z113) ≤ 48 := w116.2.2.2.1
              have p122 : ∀ q_9 : Nat → Int64, REQ (PA f114 (Int32.toInt z113)) q_9 (Int32.toInt r115) (PCK (Int32.toInt x2) (PA fm0 (Int32.toInt x1)) q_9 (Int64.toInt r110)) := w116.2.2.2.2
              exact r_iret 211 Rt dX7_reckonOne_211 (z113, f114) (show 0 ≤ (Int32.toInt r115) ∧ (Int32.toInt r115) ≤ 9 ∧ 0 ≤ (Int32.toInt z113) ∧ (Int32.toInt z113) ≤ 48 ∧ REQ (PA f114 (Int32.toInt z113)) fm1 (Int32.toInt r115) (RK1 (Int32.toInt x2) (Int32.toInt x0) (PA fm0 (Int32.toInt x1)) fm1) from ⟨(show _ ∧ _ from ⟨p118, p119⟩).1, (show _ ∧ _ from ⟨p118, p119⟩).2, (show _ ∧ _ from ⟨p120, p121⟩).1, (show _ ∧ _ from ⟨p120, p121⟩).2, (by exact rk_29 (by omega) p112 rfl (p122 _))⟩) [1, 2, 0] (by decide) rfl (Nat.le_of_ble_eq_true rfl) (Nat.le_of_ble_eq_true rfl)
            · skip
              have k123 : ¬ ((Int32.toInt x0) = 10) := fun h_9 => c108 ((fa_eq x0 10).mpr h_9)
              by_cases c124 : x0 = 11
              · skip
                have k125 : (Int32.toInt x0) = 11 := (fa_eq x0 11).mp c124
                refine r_tableIn 7 202 11 C dX7_reckonOne_7 c124 (by decide) (by decide) rfl (by decide) ?_
                refine r_aload_n 202 1 C dX7_reckonOne_202 rfl ?_
                refine r_aload_n 203 1 C dX7_reckonOne_203 rfl ?_
                refine r_iconst 204 0 C dX7_reckonOne_204 (by decide) ?_
                refine r_callVl 205 C dX7_reckonOne_205 [.ref h0] [(h0, .inr (6, [.ref h1, .ref h2, .int x1, .int x2])), (h1, .inl (gJ g, 48, .inr (.inl fm0)))] [(h2, .inl (gJ g, 32, .inr (.inl fm1)))] (fun sz => c234_X7_wholeBelow l g h0 h1 0 h2 x1 x2 fm0 (by decide) i_x1 i_x2 sz) gX7_reckonOne_X7_wholeBelow rfl ⟨rfl, rfl⟩ 1 (by decide) ⟨Nat.le_of_ble_eq_true rfl, Nat.le_of_ble_eq_true rfl⟩ 1 rfl rfl [1, 2] [0] rfl rfl (by decide) (by decide) (by decide) rfl rfl (Nat.le_of_ble_eq_true rfl) ⟨Nat.le_of_ble_eq_true rfl, Nat.le_of_ble_eq_true rfl⟩ (fun r126 _ w127 => ?_)
                refine r_ws [(h2, .inl (gJ g, 32, .inr (.inl fm1))), (h0, .inr (6, [.ref h1, .ref h2, .int x1, .int x2])), (h1, .inl (gJ g, 48, .inr (.inl fm0)))] rfl ?_
                have p128 : r126 = BEL (PA fm0 (Int32.toInt x1)) (0 : Int) >>> 16 := w127
                have gr126 := fb_rngL r126
                refine r_callVi 208 C dX7_reckonOne_208 [] [(h0, .inr (6, [.ref h1, .ref h2, .int x1, .int x2])), (h1, .inl (gJ g, 48, .inr (.inl fm0)))] [(h2, .inl (gJ g, 32, .inr (.inl fm1)))] (fun sz => c301_X7_pick l g h0 h1 r126 h2 x1 x2 fm0 i_x1 i_x2 sz) gX7_reckonOne_X7_pick rfl ⟨rfl, rfl⟩ 1 (by decide) ⟨Nat.le_of_ble_eq_true rfl, Nat.le_of_ble_eq_true rfl⟩ 1 rfl rfl [1, 2] [0] rfl rfl (by decide) (by decide) (by decide) rfl rfl (Nat.le_of_ble_eq_true rfl) ⟨Nat.le_of_ble_eq_true rfl, Nat.le_of_ble_eq_true rfl⟩ (fun r131 u133 w132 => ?_)
                obtain ⟨z129, f130⟩ := u133
                refine r_ws [(h2, .inl (gJ g, 32, .inr (.inl fm1))), (h0, .inr (6, [.ref h1, .ref h2, .int z129, .int x2])), (h1, .inl (gJ g, 48, .inr (.inl f130)))] rfl ?_
                have p134 : 0 ≤ (Int32.toInt r131) := w132.1
                have p135 : (Int32.toInt r131) ≤ 9 := w132.2.1
                have p136 : 0 ≤ (Int32.toInt z129) := w132.2.2.1
                have p137 : (Int32.toInt z129) ≤ 48 := w132.2.2.2.1
                have p138 : ∀ q_9 : Nat → Int64, REQ (PA f130 (Int32.toInt z129)) q_9 (Int32.toInt r131) (PCK (Int32.toInt x2) (PA fm0 (Int32.toInt x1)) q_9 (Int64.toInt r126)) := w132.2.2.2.2
                exact r_iret 211 Rt dX7_reckonOne_211 (z129, f130) (show 0 ≤ (Int32.toInt r131) ∧ (Int32.toInt r131) ≤ 9 ∧ 0 ≤ (Int32.toInt z129) ∧ (Int32.toInt z129) ≤ 48 ∧ REQ (PA f130 (Int32.toInt z129)) fm1 (Int32.toInt r131) (RK1 (Int32.toInt x2) (Int32.toInt x0) (PA fm0 (Int32.toInt x1)) fm1) from ⟨(show _ ∧ _ from ⟨p134, p135⟩).1, (show _ ∧ _ from ⟨p134, p135⟩).2, (show _ ∧ _ from ⟨p136, p137⟩).1, (show _ ∧ _ from ⟨p136, p137⟩).2, (by exact rk_29 (by omega) p128 rfl (p138 _))⟩) [1, 2, 0] (by decide) rfl (Nat.le_of_ble_eq_true rfl) (Nat.le_of_ble_eq_true rfl)
              · skip
                have k139 : ¬ ((Int32.toInt x0) = 11) := fun h_9 => c124 ((fa_eq x0 11).mpr h_9)
                by_cases c140 : x0 = 12
                · skip
                  have k141 : (Int32.toInt x0) = 12 := (fa_eq x0 12).mp c140
                  refine r_tableIn 7 202 12 C dX7_reckonOne_7 c140 (by decide) (by decide) rfl (by decide) ?_
                  refine r_aload_n 202 1 C dX7_reckonOne_202 rfl ?_
                  refine r_aload_n 203 1 C dX7_reckonOne_203 rfl ?_
                  refine r_iconst 204 0 C dX7_reckonOne_204 (by decide) ?_
                  refine r_callVl 205 C dX7_reckonOne_205 [.ref h0] [(h0, .inr (6, [.ref h1, .ref h2, .int x1, .int x2])), (h1, .inl (gJ g, 48, .inr (.inl fm0)))] [(h2, .inl (gJ g, 32, .inr (.inl fm1)))] (fun sz => c234_X7_wholeBelow l g h0 h1 0 h2 x1 x2 fm0 (by decide) i_x1 i_x2 sz) gX7_reckonOne_X7_wholeBelow rfl ⟨rfl, rfl⟩ 1 (by decide) ⟨Nat.le_of_ble_eq_true rfl, Nat.le_of_ble_eq_true rfl⟩ 1 rfl rfl [1, 2] [0] rfl rfl (by decide) (by decide) (by decide) rfl rfl (Nat.le_of_ble_eq_true rfl) ⟨Nat.le_of_ble_eq_true rfl, Nat.le_of_ble_eq_true rfl⟩ (fun r142 _ w143 => ?_)
                  refine r_ws [(h2, .inl (gJ g, 32, .inr (.inl fm1))), (h0, .inr (6, [.ref h1, .ref h2, .int x1, .int x2])), (h1, .inl (gJ g, 48, .inr (.inl fm0)))] rfl ?_
                  have p144 : r142 = BEL (PA fm0 (Int32.toInt x1)) (0 : Int) >>> 16 := w143
                  have gr142 := fb_rngL r142
                  refine r_callVi 208 C dX7_reckonOne_208 [] [(h0, .inr (6, [.ref h1, .ref h2, .int x1, .int x2])), (h1, .inl (gJ g, 48, .inr (.inl fm0)))] [(h2, .inl (gJ g, 32, .inr (.inl fm1)))] (fun sz => c301_X7_pick l g h0 h1 r142 h2 x1 x2 fm0 i_x1 i_x2 sz) gX7_reckonOne_X7_pick rfl ⟨rfl, rfl⟩ 1 (by decide) ⟨Nat.le_of_ble_eq_true rfl, Nat.le_of_ble_eq_true rfl⟩ 1 rfl rfl [1, 2] [0] rfl rfl (by decide) (by decide) (by decide) rfl rfl (Nat.le_of_ble_eq_true rfl) ⟨Nat.le_of_ble_eq_true rfl, Nat.le_of_ble_eq_true rfl⟩ (fun r147 u149 w148 => ?_)
                  obtain ⟨z145, f146⟩ := u149
                  refine r_ws [(h2, .inl (gJ g, 32, .inr (.inl fm1))), (h0, .inr (6, [.ref h1, .ref h2, .int z145, .int x2])), (h1, .inl (gJ g, 48, .inr (.inl f146)))] rfl ?_
                  have p150 : 0 ≤ (Int32.toInt r147) := w148.1
                  have p151 : (Int32.toInt r147) ≤ 9 := w148.2.1
                  have p152 : 0 ≤ (Int32.toInt z145) := w148.2.2.1
                  have p153 : (Int32.toInt z145) ≤ 48 := w148.2.2.2.1
                  have p154 : ∀ q_9 : Nat → Int64, REQ (PA f146 (Int32.toInt z145)) q_9 (Int32.toInt r147) (PCK (Int32.toInt x2) (PA fm0 (Int32.toInt x1)) q_9 (Int64.toInt r142)) := w148.2.2.2.2
                  exact r_iret 211 Rt dX7_reckonOne_211 (z145, f146) (show 0 ≤ (Int32.toInt r147) ∧ (Int32.toInt r147) ≤ 9 ∧ 0 ≤ (Int32.toInt z145) ∧ (Int32.toInt z145) ≤ 48 ∧ REQ (PA f146 (Int32.toInt z145)) fm1 (Int32.toInt r147) (RK1 (Int32.toInt x2) (Int32.toInt x0) (PA fm0 (Int32.toInt x1)) fm1) from ⟨(show _ ∧ _ from ⟨p150, p151⟩).1, (show _ ∧ _ from ⟨p150, p151⟩).2, (show _ ∧ _ from ⟨p152, p153⟩).1, (show _ ∧ _ from ⟨p152, p153⟩).2, (by exact rk_29 (by omega) p144 rfl (p154 _))⟩) [1, 2, 0] (by decide) rfl (Nat.le_of_ble_eq_true rfl) (Nat.le_of_ble_eq_true rfl)
                · skip
                  have k155 : ¬ ((Int32.toInt x0) = 12) := fun h_9 => c140 ((fa_eq x0 12).mpr h_9)
                  by_cases c156 : x0 = 13
                  · skip
                    have k157 : (Int32.toInt x0) = 13 := (fa_eq x0 13).mp c156
                    refine r_tableIn 7 202 13 C dX7_reckonOne_7 c156 (by decide) (by decide) rfl (by decide) ?_
                    refine r_aload_n 202 1 C dX7_reckonOne_202 rfl ?_
                    refine r_aload_n 203 1 C dX7_reckonOne_203 rfl ?_
                    refine r_iconst 204 0 C dX7_reckonOne_204 (by decide) ?_
                    refine r_callVl 205 C dX7_reckonOne_205 [.ref h0] [(h0, .inr (6, [.ref h1, .ref h2, .int x1, .int x2])), (h1, .inl (gJ g, 48, .inr (.inl fm0)))] [(h2, .inl (gJ g, 32, .inr (.inl fm1)))] (fun sz => c234_X7_wholeBelow l g h0 h1 0 h2 x1 x2 fm0 (by decide) i_x1 i_x2 sz) gX7_reckonOne_X7_wholeBelow rfl ⟨rfl, rfl⟩ 1 (by decide) ⟨Nat.le_of_ble_eq_true rfl, Nat.le_of_ble_eq_true rfl⟩ 1 rfl rfl [1, 2] [0] rfl rfl (by decide) (by decide) (by decide) rfl rfl (Nat.le_of_ble_eq_true rfl) ⟨Nat.le_of_ble_eq_true rfl, Nat.le_of_ble_eq_true rfl⟩ (fun r158 _ w159 => ?_)
                    refine r_ws [(h2, .inl (gJ g, 32, .inr (.inl fm1))), (h0, .inr (6, [.ref h1, .ref h2, .int x1, .int x2])), (h1, .inl (gJ g, 48, .inr (.inl fm0)))] rfl ?_
                    have p160 : r158 = BEL (PA fm0 (Int32.toInt x1)) (0 : Int) >>> 16 := w159
                    have gr158 := fb_rngL r158
                    refine r_callVi 208 C dX7_reckonOne_208 [] [(h0, .inr (6, [.ref h1, .ref h2, .int x1, .int x2])), (h1, .inl (gJ g, 48, .inr (.inl fm0)))] [(h2, .inl (gJ g, 32, .inr (.inl fm1)))] (fun sz => c301_X7_pick l g h0 h1 r158 h2 x1 x2 fm0 i_x1 i_x2 sz) gX7_reckonOne_X7_pick rfl ⟨rfl, rfl⟩ 1 (by decide) ⟨Nat.le_of_ble_eq_true rfl, Nat.le_of_ble_eq_true rfl⟩ 1 rfl rfl [1, 2] [0] rfl rfl (by decide) (by decide) (by decide) rfl rfl (Nat.le_of_ble_eq_true rfl) ⟨Nat.le_of_ble_eq_true rfl, Nat.le_of_ble_eq_true rfl⟩ (fun r163 u165 w164 => ?_)
                    obtain ⟨z161, f162⟩ := u165
                    refine r_ws [(h2, .inl (gJ g, 32, .inr (.inl fm1))), (h0, .inr (6, [.ref h1, .ref h2, .int z161, .int x2])), (h1, .inl (gJ g, 48, .inr (.inl f162)))] rfl ?_
                    have p166 : 0 ≤ (Int32.toInt r163) := w164.1
                    have p167 : (Int32.toInt r163) ≤ 9 := w164.2.1
                    have p168 : 0 ≤ (Int32.toInt z161) := w164.2.2.1
                    have p169 : (Int32.toInt z161) ≤ 48 := w164.2.2.2.1
                    have p170 : ∀ q_9 : Nat → Int64, REQ (PA f162 (Int32.toInt z161)) q_9 (Int32.toInt r163) (PCK (Int32.toInt x2) (PA fm0 (Int32.toInt x1)) q_9 (Int64.toInt r158)) := w164.2.2.2.2
                    exact r_iret 211 Rt dX7_reckonOne_211 (z161, f162) (show 0 ≤ (Int32.toInt r163) ∧ (Int32.toInt r163) ≤ 9 ∧ 0 ≤ (Int32.toInt z161) ∧ (Int32.toInt z161) ≤ 48 ∧ REQ (PA f162 (Int32.toInt z161)) fm1 (Int32.toInt r163) (RK1 (Int32.toInt x2) (Int32.toInt x0) (PA fm0 (Int32.toInt x1)) fm1) from ⟨(show _ ∧ _ from ⟨p166, p167⟩).1, (show _ ∧ _ from ⟨p166, p167⟩).2, (show _ ∧ _ from ⟨p168, p169⟩).1, (show _ ∧ _ from ⟨p168, p169⟩).2, (by exact rk_29 (by omega) p160 rfl (p170 _))⟩) [1, 2, 0] (by decide) rfl (Nat.le_of_ble_eq_true rfl) (Nat.le_of_ble_eq_true rfl)
                  · skip
                    have k171 : ¬ ((Int32.toInt x0) = 13) := fun h_9 => c156 ((fa_eq x0 13).mpr h_9)
                    by_cases c172 : x0 = 14
                    · skip
                      have k173 : (Int32.toInt x0) = 14 := (fa_eq x0 14).mp c172
                      refine r_tableIn 7 144 14 C dX7_reckonOne_7 c172 (by decide) (by decide) rfl (by decide) ?_
                      refine r_aload_n 144 1 C dX7_reckonOne_144 rfl ?_
                      refine r_iconst 145 1 C dX7_reckonOne_145 (by decide) ?_
                      refine r_lload_n 146 0 C dX7_reckonOne_146 rfl ?_
                      obtain ⟨z174, ez174⟩ : ∃ z_9, -r1 = z_9 := ⟨_, rfl⟩
                      have gz174 := fb_rngL z174
                      refine r_lneg 147 z174 C dX7_reckonOne_147 ez174 ?_
                      obtain ⟨z175, ez175⟩ : ∃ z_9, Int64.toInt32 z174 = z_9 := ⟨_, rfl⟩
                      have gz175 := fb_rng z175
                      refine r_l2i 148 z175 C dX7_reckonOne_148 ez175 ?_
                      obtain ⟨z176, ez176⟩ : ∃ z_9, Int32.toInt64 z175 = z_9 := ⟨_, rfl⟩
                      have tz176 : (Int64.toInt z176) = (Int32.toInt z175) := by rw [← ez176]; exact Int32.toInt_toInt64 _
                      refine r_i2l 149 z176 C dX7_reckonOne_149 ez176 ?_
                      refine r_callVi 150 C dX7_reckonOne_150 [] [(h0, .inr (6, [.ref h1, .ref h2, .int x1, .int x2])), (h1, .inl (gJ g, 48, .inr (.inl fm0)))] [(h2, .inl (gJ g, 32, .inr (.inl fm1)))] (fun sz => c238_X7_replace l g h0 h1 1 z176 h2 x1 x2 fm0 i_x1 i_x2 sz) gX7_reckonOne_X7_replace rfl ⟨rfl, rfl⟩ 2 (by decide) ⟨Nat.le_of_ble_eq_true rfl, Nat.le_of_ble_eq_true rfl⟩ 1 rfl rfl [1, 2] [0] rfl rfl (by decide) (by decide) (by decide) rfl rfl (Nat.le_of_ble_eq_true rfl) ⟨Nat.le_of_ble_eq_true rfl, Nat.le_of_ble_eq_true rfl⟩ (fun r179 u181 w180 => ?_)
                      obtain ⟨z177, f178⟩ := u181
                      refine r_ws [(h2, .inl (gJ g, 32, .inr (.inl fm1))), (h0, .inr (6, [.ref h1, .ref h2, .int z177, .int x2])), (h1, .inl (gJ g, 48, .inr (.inl f178)))] rfl ?_
                      have p182 : 0 ≤ (Int32.toInt r179) := w180.1
                      have p183 : (Int32.toInt r179) ≤ 3 := w180.2.1
                      have p184 : 0 ≤ (Int32.toInt z177) := w180.2.2.1
                      have p185 : (Int32.toInt z177) ≤ 48 := w180.2.2.2.1
                      have p186 : PEQ (PA f178 (Int32.toInt z177)) (Int32.toInt r179) (PSH (Int32.toInt x2) (DRP (PA fm0 (Int32.toInt x1)) (1 : Int)) z176) := w180.2.2.2.2.1
                      have p187 : ((Int32.toInt r179) = 0 ∨ ((Int32.toInt r179) = 3 ∧ (((1 : Int) ≤ 0 ∧ (Int32.toInt z177) = (Int32.toInt x1)) ∨ (0 < (1 : Int) ∧ (1 : Int) < (Int32.toInt x1) ∧ (Int32.toInt z177) = (Int32.toInt x1) - (1 : Int)) ∨ (0 < (1 : Int) ∧ (Int32.toInt x1) ≤ (1 : Int) ∧ (Int32.toInt z177) = 0)))) := w180.2.2.2.2.2
                      exact r_iret 153 Rt dX7_reckonOne_153 (z177, f178) (show 0 ≤ (Int32.toInt r179) ∧ (Int32.toInt r179) ≤ 9 ∧ 0 ≤ (Int32.toInt z177) ∧ (Int32.toInt z177) ≤ 48 ∧ REQ (PA f178 (Int32.toInt z177)) fm1 (Int32.toInt r179) (RK1 (Int32.toInt x2) (Int32.toInt x0) (PA fm0 (Int32.toInt x1)) fm1) from ⟨(iv_wide (c := 0) (d := 9) ⟨p182, p183⟩ (by decide) (by decide)).1, (iv_wide (c := 0) (d := 9) ⟨p182, p183⟩ (by decide) (by decide)).2, (show _ ∧ _ from ⟨p184, p185⟩).1, (show _ ∧ _ from ⟨p184, p185⟩).2, (by first | exact rk_14 (by omega) p3 (by assumption) (by assumption) (by assumption) p186 | exact rk_9 (by omega) p3 (abl_pf (by assumption)) (by assumption) (by assumption) p186)⟩) [1, 2, 0] (by decide) rfl (Nat.le_of_ble_eq_true rfl) (Nat.le_of_ble_eq_true rfl)
                    · skip
                      have k188 : ¬ ((Int32.toInt x0) = 14) := fun h_9 => c172 ((fa_eq x0 14).mpr h_9)
                      by_cases c189 : x0 = 15
                      · skip
                        have k190 : (Int32.toInt x0) = 15 := (fa_eq x0 15).mp c189
                        refine r_tableIn 7 202 15 C dX7_reckonOne_7 c189 (by decide) (by decide) rfl (by decide) ?_
                        refine r_aload_n 202 1 C dX7_reckonOne_202 rfl ?_
                        refine r_aload_n 203 1 C dX7_reckonOne_203 rfl ?_
                        refine r_iconst 204 0 C dX7_reckonOne_204 (by decide) ?_
                        refine r_callVl 205 C dX7_reckonOne_205 [.ref h0] [(h0, .inr (6, [.ref h1, .ref h2, .int x1, .int x2])), (h1, .inl (gJ g, 48, .inr (.inl fm0)))] [(h2, .inl (gJ g, 32, .inr (.inl fm1)))] (fun sz => c234_X7_wholeBelow l g h0 h1 0 h2 x1 x2 fm0 (by decide) i_x1 i_x2 sz) gX7_reckonOne_X7_wholeBelow rfl ⟨rfl, rfl⟩ 1 (by decide) ⟨Nat.le_of_ble_eq_true rfl, Nat.le_of_ble_eq_true rfl⟩ 1 rfl rfl [1, 2] [0] rfl rfl (by decide) (by decide) (by decide) rfl rfl (Nat.le_of_ble_eq_true rfl) ⟨Nat.le_of_ble_eq_true rfl, Nat.le_of_ble_eq_true rfl⟩ (fun r191 _ w192 => ?_)
                        refine r_ws [(h2, .inl (gJ g, 32, .inr (.inl fm1))), (h0, .inr (6, [.ref h1, .ref h2, .int x1, .int x2])), (h1, .inl (gJ g, 48, .inr (.inl fm0)))] rfl ?_
                        have p193 : r191 = BEL (PA fm0 (Int32.toInt x1)) (0 : Int) >>> 16 := w192
                        have gr191 := fb_rngL r191
                        refine r_callVi 208 C dX7_reckonOne_208 [] [(h0, .inr (6, [.ref h1, .ref h2, .int x1, .int x2])), (h1, .inl (gJ g, 48, .inr (.inl fm0)))] [(h2, .inl (gJ g, 32, .inr (.inl fm1)))] (fun sz => c301_X7_pick l g h0 h1 r191 h2 x1 x2 fm0 i_x1 i_x2 sz) gX7_reckonOne_X7_pick rfl ⟨rfl, rfl⟩ 1 (by decide) ⟨Nat.le_of_ble_eq_true rfl, Nat.le_of_ble_eq_true rfl⟩ 1 rfl rfl [1, 2] [0] rfl rfl (by decide) (by decide) (by decide) rfl rfl (Nat.le_of_ble_eq_true rfl) ⟨Nat.le_of_ble_eq_true rfl, Nat.le_of_ble_eq_true rfl⟩ (fun r196 u198 w197 => ?_)
                        obtain ⟨z194, f195⟩ := u198
                        refine r_ws [(h2, .inl (gJ g, 32, .inr (.inl fm1))), (h0, .inr (6, [.ref h1, .ref h2, .int z194, .int x2])), (h1, .inl (gJ g, 48, .inr (.inl f195)))] rfl ?_
                        have p199 : 0 ≤ (Int32.toInt r196) := w197.1
                        have p200 : (Int32.toInt r196) ≤ 9 := w197.2.1
                        have p201 : 0 ≤ (Int32.toInt z194) := w197.2.2.1
                        have p202 : (Int32.toInt z194) ≤ 48 := w197.2.2.2.1
                        have p203 : ∀ q_9 : Nat → Int64, REQ (PA f195 (Int32.toInt z194)) q_9 (Int32.toInt r196) (PCK (Int32.toInt x2) (PA fm0 (Int32.toInt x1)) q_9 (Int64.toInt r191)) := w197.2.2.2.2
                        exact r_iret 211 Rt dX7_reckonOne_211 (z194, f195) (show 0 ≤ (Int32.toInt r196) ∧ (Int32.toInt r196) ≤ 9 ∧ 0 ≤ (Int32.toInt z194) ∧ (Int32.toInt z194) ≤ 48 ∧ REQ (PA f195 (Int32.toInt z194)) fm1 (Int32.toInt r196) (RK1 (Int32.toInt x2) (Int32.toInt x0) (PA fm0 (Int32.toInt x1)) fm1) from ⟨(show _ ∧ _ from ⟨p199, p200⟩).1, (show _ ∧ _ from ⟨p199, p200⟩).2, (show _ ∧ _ from ⟨p201, p202⟩).1, (show _ ∧ _ from ⟨p201, p202⟩).2, (by exact rk_29 (by omega) p193 rfl (p203 _))⟩) [1, 2, 0] (by decide) rfl (Nat.le_of_ble_eq_true rfl) (Nat.le_of_ble_eq_true rfl)
                      · skip
                        have k204 : ¬ ((Int32.toInt x0) = 15) := fun h_9 => c189 ((fa_eq x0 15).mpr h_9)
                        by_cases c205 : x0 = 16
                        · skip
                          have k206 : (Int32.toInt x0) = 16 := (fa_eq x0 16).mp c205
                          refine r_tableIn 7 202 16 C dX7_reckonOne_7 c205 (by decide) (by decide) rfl (by decide) ?_
                          refine r_aload_n 202 1 C dX7_reckonOne_202 rfl ?_
                          refine r_aload_n 203 1 C dX7_reckonOne_203 rfl ?_
                          refine r_iconst 204 0 C dX7_reckonOne_204 (by decide) ?_
                          refine r_callVl 205 C dX7_reckonOne_205 [.ref h0] [(h0, .inr (6, [.ref h1, .ref h2, .int x1, .int x2])), (h1, .inl (gJ g, 48, .inr (.inl fm0)))] [(h2, .inl (gJ g, 32, .inr (.inl fm1)))] (fun sz => c234_X7_wholeBelow l g h0 h1 0 h2 x1 x2 fm0 (by decide) i_x1 i_x2 sz) gX7_reckonOne_X7_wholeBelow rfl ⟨rfl, rfl⟩ 1 (by decide) ⟨Nat.le_of_ble_eq_true rfl, Nat.le_of_ble_eq_true rfl⟩ 1 rfl rfl [1, 2] [0] rfl rfl (by decide) (by decide) (by decide) rfl rfl (Nat.le_of_ble_eq_true rfl) ⟨Nat.le_of_ble_eq_true rfl, Nat.le_of_ble_eq_true rfl⟩ (fun r207 _ w208 => ?_)
                          refine r_ws [(h2, .inl (gJ g, 32, .inr (.inl fm1))), (h0, .inr (6, [.ref h1, .ref h2, .int x1, .int x2])), (h1, .inl (gJ g, 48, .inr (.inl fm0)))] rfl ?_
                          have p209 : r207 = BEL (PA fm0 (Int32.toInt x1)) (0 : Int) >>> 16 := w208
                          have gr207 := fb_rngL r207
                          refine r_callVi 208 C dX7_reckonOne_208 [] [(h0, .inr (6, [.ref h1, .ref h2, .int x1, .int x2])), (h1, .inl (gJ g, 48, .inr (.inl fm0)))] [(h2, .inl (gJ g, 32, .inr (.inl fm1)))] (fun sz => c301_X7_pick l g h0 h1 r207 h2 x1 x2 fm0 i_x1 i_x2 sz) gX7_reckonOne_X7_pick rfl ⟨rfl, rfl⟩ 1 (by decide) ⟨Nat.le_of_ble_eq_true rfl, Nat.le_of_ble_eq_true rfl⟩ 1 rfl rfl [1, 2] [0] rfl rfl (by decide) (by decide) (by decide) rfl rfl (Nat.le_of_ble_eq_true rfl) ⟨Nat.le_of_ble_eq_true rfl, Nat.le_of_ble_eq_true rfl⟩ (fun r212 u214 w213 => ?_)
                          obtain ⟨z210, f211⟩ := u214
                          refine r_ws [(h2, .inl (gJ g, 32, .inr (.inl fm1))), (h0, .inr (6, [.ref h1, .ref h2, .int z210, .int x2])), (h1, .inl (gJ g, 48, .inr (.inl f211)))] rfl ?_
                          have p215 : 0 ≤ (Int32.toInt r212) := w213.1
                          have p216 : (Int32.toInt r212) ≤ 9 := w213.2.1
                          have p217 : 0 ≤ (Int32.toInt z210) := w213.2.2.1
                          have p218 : (Int32.toInt z210) ≤ 48 := w213.2.2.2.1
                          have p219 : ∀ q_9 : Nat → Int64, REQ (PA f211 (Int32.toInt z210)) q_9 (Int32.toInt r212) (PCK (Int32.toInt x2) (PA fm0 (Int32.toInt x1)) q_9 (Int64.toInt r207)) := w213.2.2.2.2
                          exact r_iret 211 Rt dX7_reckonOne_211 (z210, f211) (show 0 ≤ (Int32.toInt r212) ∧ (Int32.toInt r212) ≤ 9 ∧ 0 ≤ (Int32.toInt z210) ∧ (Int32.toInt z210) ≤ 48 ∧ REQ (PA f211 (Int32.toInt z210)) fm1 (Int32.toInt r212) (RK1 (Int32.toInt x2) (Int32.toInt x0) (PA fm0 (Int32.toInt x1)) fm1) from ⟨(show _ ∧ _ from ⟨p215, p216⟩).1, (show _ ∧ _ from ⟨p215, p216⟩).2, (show _ ∧ _ from ⟨p217, p218⟩).1, (show _ ∧ _ from ⟨p217, p218⟩).2, (by exact rk_29 (by omega) p209 rfl (p219 _))⟩) [1, 2, 0] (by decide) rfl (Nat.le_of_ble_eq_true rfl) (Nat.le_of_ble_eq_true rfl)
                        · skip
                          have k220 : ¬ ((Int32.toInt x0) = 16) := fun h_9 => c205 ((fa_eq x0 16).mpr h_9)
                          by_cases c221 : x0 = 17
                          · skip
                            have k222 : (Int32.toInt x0) = 17 := (fa_eq x0 17).mp c221
                            refine r_tableIn 7 202 17 C dX7_reckonOne_7 c221 (by decide) (by decide) rfl (by decide) ?_
                            refine r_aload_n 202 1 C dX7_reckonOne_202 rfl ?_
                            refine r_aload_n 203 1 C dX7_reckonOne_203 rfl ?_
                            refine r_iconst 204 0 C dX7_reckonOne_204 (by decide) ?_
                            refine r_callVl 205 C dX7_reckonOne_205 [.ref h0] [(h0, .inr (6, [.ref h1, .ref h2, .int x1, .int x2])), (h1, .inl (gJ g, 48, .inr (.inl fm0)))] [(h2, .inl (gJ g, 32, .inr (.inl fm1)))] (fun sz => c234_X7_wholeBelow l g h0 h1 0 h2 x1 x2 fm0 (by decide) i_x1 i_x2 sz) gX7_reckonOne_X7_wholeBelow rfl ⟨rfl, rfl⟩ 1 (by decide) ⟨Nat.le_of_ble_eq_true rfl, Nat.le_of_ble_eq_true rfl⟩ 1 rfl rfl [1, 2] [0] rfl rfl (by decide) (by decide) (by decide) rfl rfl (Nat.le_of_ble_eq_true rfl) ⟨Nat.le_of_ble_eq_true rfl, Nat.le_of_ble_eq_true rfl⟩ (fun r223 _ w224 => ?_)
                            refine r_ws [(h2, .inl (gJ g, 32, .inr (.inl fm1))), (h0, .inr (6, [.ref h1, .ref h2, .int x1, .int x2])), (h1, .inl (gJ g, 48, .inr (.inl fm0)))] rfl ?_
                            have p225 : r223 = BEL (PA fm0 (Int32.toInt x1)) (0 : Int) >>> 16 := w224
                            have gr223 := fb_rngL r223
                            refine r_callVi 208 C dX7_reckonOne_208 [] [(h0, .inr (6, [.ref h1, .ref h2, .int x1, .int x2])), (h1, .inl (gJ g, 48, .inr (.inl fm0)))] [(h2, .inl (gJ g, 32, .inr (.inl fm1)))] (fun sz => c301_X7_pick l g h0 h1 r223 h2 x1 x2 fm0 i_x1 i_x2 sz) gX7_reckonOne_X7_pick rfl ⟨rfl, rfl⟩ 1 (by decide) ⟨Nat.le_of_ble_eq_true rfl, Nat.le_of_ble_eq_true rfl⟩ 1 rfl rfl [1, 2] [0] rfl rfl (by decide) (by decide) (by decide) rfl rfl (Nat.le_of_ble_eq_true rfl) ⟨Nat.le_of_ble_eq_true rfl, Nat.le_of_ble_eq_true rfl⟩ (fun r228 u230 w229 => ?_)
                            obtain ⟨z226, f227⟩ := u230
                            refine r_ws [(h2, .inl (gJ g, 32, .inr (.inl fm1))), (h0, .inr (6, [.ref h1, .ref h2, .int z226, .int x2])), (h1, .inl (gJ g, 48, .inr (.inl f227)))] rfl ?_
                            have p231 : 0 ≤ (Int32.toInt r228) := w229.1
                            have p232 : (Int32.toInt r228) ≤ 9 := w229.2.1
                            have p233 : 0 ≤ (Int32.toInt z226) := w229.2.2.1
                            have p234 : (Int32.toInt z226) ≤ 48 := w229.2.2.2.1
                            have p235 : ∀ q_9 : Nat → Int64, REQ (PA f227 (Int32.toInt z226)) q_9 (Int32.toInt r228) (PCK (Int32.toInt x2) (PA fm0 (Int32.toInt x1)) q_9 (Int64.toInt r223)) := w229.2.2.2.2
                            exact r_iret 211 Rt dX7_reckonOne_211 (z226, f227) (show 0 ≤ (Int32.toInt r228) ∧ (Int32.toInt r228) ≤ 9 ∧ 0 ≤ (Int32.toInt z226) ∧ (Int32.toInt z226) ≤ 48 ∧ REQ (PA f227 (Int32.toInt z226)) fm1 (Int32.toInt r228) (RK1 (Int32.toInt x2) (Int32.toInt x0) (PA fm0 (Int32.toInt x1)) fm1) from ⟨(show _ ∧ _ from ⟨p231, p232⟩).1, (show _ ∧ _ from ⟨p231, p232⟩).2, (show _ ∧ _ from ⟨p233, p234⟩).1, (show _ ∧ _ from ⟨p233, p234⟩).2, (by exact rk_29 (by omega) p225 rfl (p235 _))⟩) [1, 2, 0] (by decide) rfl (Nat.le_of_ble_eq_true rfl) (Nat.le_of_ble_eq_true rfl)
                          · skip
                            have k236 : ¬ ((Int32.toInt x0) = 17) := fun h_9 => c221 ((fa_eq x0 17).mpr h_9)
                            by_cases c237 : x0 = 18
                            · skip
                              have k238 : (Int32.toInt x0) = 18 := (fa_eq x0 18).mp c237
                              refine r_tableIn 7 154 18 C dX7_reckonOne_7 c237 (by decide) (by decide) rfl (by decide) ?_
                              refine r_aload_n 154 1 C dX7_reckonOne_154 rfl ?_
                              refine r_iconst 155 1 C dX7_reckonOne_155 (by decide) ?_
                              refine r_callVv 156 C dX7_reckonOne_156 [] [(h0, .inr (6, [.ref h1, .ref h2, .int x1, .int x2]))] [(h2, .inl (gJ g, 32, .inr (.inl fm1))), (h1, .inl (gJ g, 48, .inr (.inl fm0)))] (fun sz => c235_X7_drop l g h0 1 h1 h2 x1 x2 i_x1 i_x2 sz) gX7_reckonOne_X7_drop rfl ⟨rfl, rfl⟩ 1 (by decide) ⟨Nat.le_of_ble_eq_true rfl, Nat.le_of_ble_eq_true rfl⟩ 1 rfl rfl [1] [0, 2] rfl rfl (by decide) (by decide) (by decide) rfl rfl (Nat.le_of_ble_eq_true rfl) ⟨Nat.le_of_ble_eq_true rfl, Nat.le_of_ble_eq_true rfl⟩ (fun  z239 w240 => ?_)
                              refine r_ws [(h2, .inl (gJ g, 32, .inr (.inl fm1))), (h1, .inl (gJ g, 48, .inr (.inl fm0))), (h0, .inr (6, [.ref h1, .ref h2, .int z239, .int x2]))] rfl ?_
                              have p241 : 0 ≤ (Int32.toInt z239) := w240.1
                              have p242 : (Int32.toInt z239) ≤ 48 := w240.2.1
                              have p243 : (((1 : Int) ≤ 0 ∧ (Int32.toInt z239) = (Int32.toInt x1)) ∨ (0 < (1 : Int) ∧ (1 : Int) < (Int32.toInt x1) ∧ (Int32.toInt z239) = (Int32.toInt x1) - (1 : Int)) ∨ (0 < (1 : Int) ∧ (Int32.toInt x1) ≤ (1 : Int) ∧ (Int32.toInt z239) = 0)) := w240.2.2
                              refine r_iconst 159 0 C dX7_reckonOne_159 (by decide) ?_
                              exact r_iret 160 Rt dX7_reckonOne_160 (z239, fm0) (show 0 ≤ (Int32.toInt 0) ∧ (Int32.toInt 0) ≤ 9 ∧ 0 ≤ (Int32.toInt z239) ∧ (Int32.toInt z239) ≤ 48 ∧ REQ (PA fm0 (Int32.toInt z239)) fm1 0 (RK1 (Int32.toInt x2) (Int32.toInt x0) (PA fm0 (Int32.toInt x1)) fm1) from ⟨(by ((repeat' apply And.intro) <;> first | trivial | rfl | assumption | omega | decide | exact Or.inl rfl | exact Or.inr (Or.inl rfl) | exact Or.inr (Or.inr rfl))), (by ((repeat' apply And.intro) <;> first | trivial | rfl | assumption | omega | decide | exact Or.inl rfl | exact Or.inr (Or.inl rfl) | exact Or.inr (Or.inr rfl))), (show _ ∧ _ from ⟨p241, p242⟩).1, (show _ ∧ _ from ⟨p241, p242⟩).2, (by first | exact rk_26n (by omega) p3 (by omega) rfl | exact rk_18 (by omega) rfl (drp_pa (by omega) (by omega)))⟩) [2, 1, 0] (by decide) rfl (Nat.le_of_ble_eq_true rfl) (Nat.le_of_ble_eq_true rfl)
                            · skip
                              have k244 : ¬ ((Int32.toInt x0) = 18) := fun h_9 => c237 ((fa_eq x0 18).mpr h_9)
                              by_cases c245 : x0 = 19
                              · skip
                                have k246 : (Int32.toInt x0) = 19 := (fa_eq x0 19).mp c245
                                refine r_tableIn 7 202 19 C dX7_reckonOne_7 c245 (by decide) (by decide) rfl (by decide) ?_
                                refine r_aload_n 202 1 C dX7_reckonOne_202 rfl ?_
                                refine r_aload_n 203 1 C dX7_reckonOne_203 rfl ?_
                                refine r_iconst 204 0 C dX7_reckonOne_204 (by decide) ?_
                                refine r_callVl 205 C dX7_reckonOne_205 [.ref h0] [(h0, .inr (6, [.ref h1, .ref h2, .int x1, .int x2])), (h1, .inl (gJ g, 48, .inr (.inl fm0)))] [(h2, .inl (gJ g, 32, .inr (.inl fm1)))] (fun sz => c234_X7_wholeBelow l g h0 h1 0 h2 x1 x2 fm0 (by decide) i_x1 i_x2 sz) gX7_reckonOne_X7_wholeBelow rfl ⟨rfl, rfl⟩ 1 (by decide) ⟨Nat.le_of_ble_eq_true rfl, Nat.le_of_ble_eq_true rfl⟩ 1 rfl rfl [1, 2] [0] rfl rfl (by decide) (by decide) (by decide) rfl rfl (Nat.le_of_ble_eq_true rfl) ⟨Nat.le_of_ble_eq_true rfl, Nat.le_of_ble_eq_true rfl⟩ (fun r247 _ w248 => ?_)
                                refine r_ws [(h2, .inl (gJ g, 32, .inr (.inl fm1))), (h0, .inr (6, [.ref h1, .ref h2, .int x1, .int x2])), (h1, .inl (gJ g, 48, .inr (.inl fm0)))] rfl ?_
                                have p249 : r247 = BEL (PA fm0 (Int32.toInt x1)) (0 : Int) >>> 16 := w248
                                have gr247 := fb_rngL r247
                                refine r_callVi 208 C dX7_reckonOne_208 [] [(h0, .inr (6, [.ref h1, .ref h2, .int x1, .int x2])), (h1, .inl (gJ g, 48, .inr (.inl fm0)))] [(h2, .inl (gJ g, 32, .inr (.inl fm1)))] (fun sz => c301_X7_pick l g h0 h1 r247 h2 x1 x2 fm0 i_x1 i_x2 sz) gX7_reckonOne_X7_pick rfl ⟨rfl, rfl⟩ 1 (by decide) ⟨Nat.le_of_ble_eq_true rfl, Nat.le_of_ble_eq_true rfl⟩ 1 rfl rfl [1, 2] [0] rfl rfl (by decide) (by decide) (by decide) rfl rfl (Nat.le_of_ble_eq_true rfl) ⟨Nat.le_of_ble_eq_true rfl, Nat.le_of_ble_eq_true rfl⟩ (fun r252 u254 w253 => ?_)
                                obtain ⟨z250, f251⟩ := u254
                                refine r_ws [(h2, .inl (gJ g, 32, .inr (.inl fm1))), (h0, .inr (6, [.ref h1, .ref h2, .int z250, .int x2])), (h1, .inl (gJ g, 48, .inr (.inl f251)))] rfl ?_
                                have p255 : 0 ≤ (Int32.toInt r252) := w253.1
                                have p256 : (Int32.toInt r252) ≤ 9 := w253.2.1
                                have p257 : 0 ≤ (Int32.toInt z250) := w253.2.2.1
                                have p258 : (Int32.toInt z250) ≤ 48 := w253.2.2.2.1
                                have p259 : ∀ q_9 : Nat → Int64, REQ (PA f251 (Int32.toInt z250)) q_9 (Int32.toInt r252) (PCK (Int32.toInt x2) (PA fm0 (Int32.toInt x1)) q_9 (Int64.toInt r247)) := w253.2.2.2.2
                                exact r_iret 211 Rt dX7_reckonOne_211 (z250, f251) (show 0 ≤ (Int32.toInt r252) ∧ (Int32.toInt r252) ≤ 9 ∧ 0 ≤ (Int32.toInt z250) ∧ (Int32.toInt z250) ≤ 48 ∧ REQ (PA f251 (Int32.toInt z250)) fm1 (Int32.toInt r252) (RK1 (Int32.toInt x2) (Int32.toInt x0) (PA fm0 (Int32.toInt x1)) fm1) from ⟨(show _ ∧ _ from ⟨p255, p256⟩).1, (show _ ∧ _ from ⟨p255, p256⟩).2, (show _ ∧ _ from ⟨p257, p258⟩).1, (show _ ∧ _ from ⟨p257, p258⟩).2, (by exact rk_29 (by omega) p249 rfl (p259 _))⟩) [1, 2, 0] (by decide) rfl (Nat.le_of_ble_eq_true rfl) (Nat.le_of_ble_eq_true rfl)
                              · skip
                                have k260 : ¬ ((Int32.toInt x0) = 19) := fun h_9 => c245 ((fa_eq x0 19).mpr h_9)
                                by_cases c261 : x0 = 20
                                · skip
                                  have k262 : (Int32.toInt x0) = 20 := (fa_eq x0 20).mp c261
                                  refine r_tableIn 7 202 20 C dX7_reckonOne_7 c261 (by decide) (by decide) rfl (by decide) ?_
                                  refine r_aload_n 202 1 C dX7_reckonOne_202 rfl ?_
                                  refine r_aload_n 203 1 C dX7_reckonOne_203 rfl ?_
                                  refine r_iconst 204 0 C dX7_reckonOne_204 (by decide) ?_
                                  refine r_callVl 205 C dX7_reckonOne_205 [.ref h0] [(h0, .inr (6, [.ref h1, .ref h2, .int x1, .int x2])), (h1, .inl (gJ g, 48, .inr (.inl fm0)))] [(h2, .inl (gJ g, 32, .inr (.inl fm1)))] (fun sz => c234_X7_wholeBelow l g h0 h1 0 h2 x1 x2 fm0 (by decide) i_x1 i_x2 sz) gX7_reckonOne_X7_wholeBelow rfl ⟨rfl, rfl⟩ 1 (by decide) ⟨Nat.le_of_ble_eq_true rfl, Nat.le_of_ble_eq_true rfl⟩ 1 rfl rfl [1, 2] [0] rfl rfl (by decide) (by decide) (by decide) rfl rfl (Nat.le_of_ble_eq_true rfl) ⟨Nat.le_of_ble_eq_true rfl, Nat.le_of_ble_eq_true rfl⟩ (fun r263 _ w264 => ?_)
                                  refine r_ws [(h2, .inl (gJ g, 32, .inr (.inl fm1))), (h0, .inr (6, [.ref h1, .ref h2, .int x1, .int x2])), (h1, .inl (gJ g, 48, .inr (.inl fm0)))] rfl ?_
                                  have p265 : r263 = BEL (PA fm0 (Int32.toInt x1)) (0 : Int) >>> 16 := w264
                                  have gr263 := fb_rngL r263
                                  refine r_callVi 208 C dX7_reckonOne_208 [] [(h0, .inr (6, [.ref h1, .ref h2, .int x1, .int x2])), (h1, .inl (gJ g, 48, .inr (.inl fm0)))] [(h2, .inl (gJ g, 32, .inr (.inl fm1)))] (fun sz => c301_X7_pick l g h0 h1 r263 h2 x1 x2 fm0 i_x1 i_x2 sz) gX7_reckonOne_X7_pick rfl ⟨rfl, rfl⟩ 1 (by decide) ⟨Nat.le_of_ble_eq_true rfl, Nat.le_of_ble_eq_true rfl⟩ 1 rfl rfl [1, 2] [0] rfl rfl (by decide) (by decide) (by decide) rfl rfl (Nat.le_of_ble_eq_true rfl) ⟨Nat.le_of_ble_eq_true rfl, Nat.le_of_ble_eq_true rfl⟩ (fun r268 u270 w269 => ?_)
                                  obtain ⟨z266, f267⟩ := u270
                                  refine r_ws [(h2, .inl (gJ g, 32, .inr (.inl fm1))), (h0, .inr (6, [.ref h1, .ref h2, .int z266, .int x2])), (h1, .inl (gJ g, 48, .inr (.inl f267)))] rfl ?_
                                  have p271 : 0 ≤ (Int32.toInt r268) := w269.1
                                  have p272 : (Int32.toInt r268) ≤ 9 := w269.2.1
                                  have p273 : 0 ≤ (Int32.toInt z266) := w269.2.2.1
                                  have p274 : (Int32.toInt z266) ≤ 48 := w269.2.2.2.1
                                  have p275 : ∀ q_9 : Nat → Int64, REQ (PA f267 (Int32.toInt z266)) q_9 (Int32.toInt r268) (PCK (Int32.toInt x2) (PA fm0 (Int32.toInt x1)) q_9 (Int64.toInt r263)) := w269.2.2.2.2
                                  exact r_iret 211 Rt dX7_reckonOne_211 (z266, f267) (show 0 ≤ (Int32.toInt r268) ∧ (Int32.toInt r268) ≤ 9 ∧ 0 ≤ (Int32.toInt z266) ∧ (Int32.toInt z266) ≤ 48 ∧ REQ (PA f267 (Int32.toInt z266)) fm1 (Int32.toInt r268) (RK1 (Int32.toInt x2) (Int32.toInt x0) (PA fm0 (Int32.toInt x1)) fm1) from ⟨(show _ ∧ _ from ⟨p271, p272⟩).1, (show _ ∧ _ from ⟨p271, p272⟩).2, (show _ ∧ _ from ⟨p273, p274⟩).1, (show _ ∧ _ from ⟨p273, p274⟩).2, (by exact rk_29 (by omega) p265 rfl (p275 _))⟩) [1, 2, 0] (by decide) rfl (Nat.le_of_ble_eq_true rfl) (Nat.le_of_ble_eq_true rfl)
                                · skip
                                  have k276 : ¬ ((Int32.toInt x0) = 20) := fun h_9 => c261 ((fa_eq x0 20).mpr h_9)
                                  by_cases c277 : x0 = 21
                                  · skip
                                    have k278 : (Int32.toInt x0) = 21 := (fa_eq x0 21).mp c277
                                    refine r_tableIn 7 161 21 C dX7_reckonOne_7 c277 (by decide) (by decide) rfl (by decide) ?_
                                    refine r_aload_n 161 1 C dX7_reckonOne_161 rfl ?_
                                    refine r_aload_n 162 1 C dX7_reckonOne_162 rfl ?_
                                    refine r_iconst 163 0 C dX7_reckonOne_163 (by decide) ?_
                                    refine r_callVl 164 C dX7_reckonOne_164 [.ref h0] [(h0, .inr (6, [.ref h1, .ref h2, .int x1, .int x2])), (h1, .inl (gJ g, 48, .inr (.inl fm0)))] [(h2, .inl (gJ g, 32, .inr (.inl fm1)))] (fun sz => c234_X7_wholeBelow l g h0 h1 0 h2 x1 x2 fm0 (by decide) i_x1 i_x2 sz) gX7_reckonOne_X7_wholeBelow rfl ⟨rfl, rfl⟩ 1 (by decide) ⟨Nat.le_of_ble_eq_true rfl, Nat.le_of_ble_eq_true rfl⟩ 1 rfl rfl [1, 2] [0] rfl rfl (by decide) (by decide) (by decide) rfl rfl (Nat.le_of_ble_eq_true rfl) ⟨Nat.le_of_ble_eq_true rfl, Nat.le_of_ble_eq_true rfl⟩ (fun r279 _ w280 => ?_)
                                    refine r_ws [(h2, .inl (gJ g, 32, .inr (.inl fm1))), (h0, .inr (6, [.ref h1, .ref h2, .int x1, .int x2])), (h1, .inl (gJ g, 48, .inr (.inl fm0)))] rfl ?_
                                    have p281 : r279 = BEL (PA fm0 (Int32.toInt x1)) (0 : Int) >>> 16 := w280
                                    have gr279 := fb_rngL r279
                                    refine r_callVi 167 C dX7_reckonOne_167 [] [(h0, .inr (6, [.ref h1, .ref h2, .int x1, .int x2])), (h1, .inl (gJ g, 48, .inr (.inl fm0))), (h2, .inl (gJ g, 32, .inr (.inl fm1)))] [] (fun sz => c302_X7_fetch l g h0 h1 h2 r279 x1 x2 fm0 fm1 i_x1 i_x2 sz) gX7_reckonOne_X7_fetch rfl ⟨rfl, rfl⟩ 1 (by decide) ⟨Nat.le_of_ble_eq_true rfl, Nat.le_of_ble_eq_true rfl⟩ 1 rfl rfl [1, 2, 0] [] rfl rfl (by decide) (by decide) (by decide) rfl rfl (Nat.le_of_ble_eq_true rfl) ⟨Nat.le_of_ble_eq_true rfl, Nat.le_of_ble_eq_true rfl⟩ (fun r284 u286 w285 => ?_)
                                    obtain ⟨z282, f283⟩ := u286
                                    refine r_ws [(h0, .inr (6, [.ref h1, .ref h2, .int z282, .int x2])), (h1, .inl (gJ g, 48, .inr (.inl f283))), (h2, .inl (gJ g, 32, .inr (.inl fm1)))] rfl ?_
                                    have p287 : 0 ≤ (Int32.toInt r284) := w285.1
                                    have p288 : (Int32.toInt r284) ≤ 9 := w285.2.1
                                    have p289 : 0 ≤ (Int32.toInt z282) := w285.2.2.1
                                    have p290 : (Int32.toInt z282) ≤ 48 := w285.2.2.2.1
                                    have p291 : REQ (PA f283 (Int32.toInt z282)) fm1 (Int32.toInt r284) (FCH (Int32.toInt x2) (PA fm0 (Int32.toInt x1)) fm1 (Int64.toInt r279)) := w285.2.2.2.2
                                    exact r_iret 170 Rt dX7_reckonOne_170 (z282, f283) (show 0 ≤ (Int32.toInt r284) ∧ (Int32.toInt r284) ≤ 9 ∧ 0 ≤ (Int32.toInt z282) ∧ (Int32.toInt z282) ≤ 48 ∧ REQ (PA f283 (Int32.toInt z282)) fm1 (Int32.toInt r284) (RK1 (Int32.toInt x2) (Int32.toInt x0) (PA fm0 (Int32.toInt x1)) fm1) from ⟨(show _ ∧ _ from ⟨p287, p288⟩).1, (show _ ∧ _ from ⟨p287, p288⟩).2, (show _ ∧ _ from ⟨p289, p290⟩).1, (show _ ∧ _ from ⟨p289, p290⟩).2, (by exact rk_21 (by omega) p281 rfl p291)⟩) [0, 1, 2] (by decide) rfl (Nat.le_of_ble_eq_true rfl) (Nat.le_of_ble_eq_true rfl)
                                  · skip
                                    have k292 : ¬ ((Int32.toInt x0) = 21) := fun h_9 => c277 ((fa_eq x0 21).mpr h_9)
                                    by_cases c293 : x0 = 22
                                    · skip
                                      have k294 : (Int32.toInt x0) = 22 := (fa_eq x0 22).mp c293
                                      refine r_tableIn 7 202 22 C dX7_reckonOne_7 c293 (by decide) (by decide) rfl (by decide) ?_
                                      refine r_aload_n 202 1 C dX7_reckonOne_202 rfl ?_
                                      refine r_aload_n 203 1 C dX7_reckonOne_203 rfl ?_
                                      refine r_iconst 204 0 C dX7_reckonOne_204 (by decide) ?_
                                      refine r_callVl 205 C dX7_reckonOne_205 [.ref h0] [(h0, .inr (6, [.ref h1, .ref h2, .int x1, .int x2])), (h1, .inl (gJ g, 48, .inr (.inl fm0)))] [(h2, .inl (gJ g, 32, .inr (.inl fm1)))] (fun sz => c234_X7_wholeBelow l g h0 h1 0 h2 x1 x2 fm0 (by decide) i_x1 i_x2 sz) gX7_reckonOne_X7_wholeBelow rfl ⟨rfl, rfl⟩ 1 (by decide) ⟨Nat.le_of_ble_eq_true rfl, Nat.le_of_ble_eq_true rfl⟩ 1 rfl rfl [1, 2] [0] rfl rfl (by decide) (by decide) (by decide) rfl rfl (Nat.le_of_ble_eq_true rfl) ⟨Nat.le_of_ble_eq_true rfl, Nat.le_of_ble_eq_true rfl⟩ (fun r295 _ w296 => ?_)
                                      refine r_ws [(h2, .inl (gJ g, 32, .inr (.inl fm1))), (h0, .inr (6, [.ref h1, .ref h2, .int x1, .int x2])), (h1, .inl (gJ g, 48, .inr (.inl fm0)))] rfl ?_
                                      have p297 : r295 = BEL (PA fm0 (Int32.toInt x1)) (0 : Int) >>> 16 := w296
                                      have gr295 := fb_rngL r295
                                      refine r_callVi 208 C dX7_reckonOne_208 [] [(h0, .inr (6, [.ref h1, .ref h2, .int x1, .int x2])), (h1, .inl (gJ g, 48, .inr (.inl fm0)))] [(h2, .inl (gJ g, 32, .inr (.inl fm1)))] (fun sz => c301_X7_pick l g h0 h1 r295 h2 x1 x2 fm0 i_x1 i_x2 sz) gX7_reckonOne_X7_pick rfl ⟨rfl, rfl⟩ 1 (by decide) ⟨Nat.le_of_ble_eq_true rfl, Nat.le_of_ble_eq_true rfl⟩ 1 rfl rfl [1, 2] [0] rfl rfl (by decide) (by decide) (by decide) rfl rfl (Nat.le_of_ble_eq_true rfl) ⟨Nat.le_of_ble_eq_true rfl, Nat.le_of_ble_eq_true rfl⟩ (fun r300 u302 w301 => ?_)
                                      obtain ⟨z298, f299⟩ := u302
                                      refine r_ws [(h2, .inl (gJ g, 32, .inr (.inl fm1))), (h0, .inr (6, [.ref h1, .ref h2, .int z298, .int x2])), (h1, .inl (gJ g, 48, .inr (.inl f299)))] rfl ?_
                                      have p303 : 0 ≤ (Int32.toInt r300) := w301.1
                                      have p304 : (Int32.toInt r300) ≤ 9 := w301.2.1
                                      have p305 : 0 ≤ (Int32.toInt z298) := w301.2.2.1
                                      have p306 : (Int32.toInt z298) ≤ 48 := w301.2.2.2.1
                                      have p307 : ∀ q_9 : Nat → Int64, REQ (PA f299 (Int32.toInt z298)) q_9 (Int32.toInt r300) (PCK (Int32.toInt x2) (PA fm0 (Int32.toInt x1)) q_9 (Int64.toInt r295)) := w301.2.2.2.2
                                      exact r_iret 211 Rt dX7_reckonOne_211 (z298, f299) (show 0 ≤ (Int32.toInt r300) ∧ (Int32.toInt r300) ≤ 9 ∧ 0 ≤ (Int32.toInt z298) ∧ (Int32.toInt z298) ≤ 48 ∧ REQ (PA f299 (Int32.toInt z298)) fm1 (Int32.toInt r300) (RK1 (Int32.toInt x2) (Int32.toInt x0) (PA fm0 (Int32.toInt x1)) fm1) from ⟨(show _ ∧ _ from ⟨p303, p304⟩).1, (show _ ∧ _ from ⟨p303, p304⟩).2, (show _ ∧ _ from ⟨p305, p306⟩).1, (show _ ∧ _ from ⟨p305, p306⟩).2, (by exact rk_29 (by omega) p297 rfl (p307 _))⟩) [1, 2, 0] (by decide) rfl (Nat.le_of_ble_eq_true rfl) (Nat.le_of_ble_eq_true rfl)
                                    · skip
                                      have k308 : ¬ ((Int32.toInt x0) = 22) := fun h_9 => c293 ((fa_eq x0 22).mpr h_9)
                                      by_cases c309 : x0 = 23
                                      · skip
                                        have k310 : (Int32.toInt x0) = 23 := (fa_eq x0 23).mp c309
                                        refine r_tableIn 7 202 23 C dX7_reckonOne_7 c309 (by decide) (by decide) rfl (by decide) ?_
                                        refine r_aload_n 202 1 C dX7_reckonOne_202 rfl ?_
                                        refine r_aload_n 203 1 C dX7_reckonOne_203 rfl ?_
                                        refine r_iconst 204 0 C dX7_reckonOne_204 (by decide) ?_
                                        refine r_callVl 205 C dX7_reckonOne_205 [.ref h0] [(h0, .inr (6, [.ref h1, .ref h2, .int x1, .int x2])), (h1, .inl (gJ g, 48, .inr (.inl fm0)))] [(h2, .inl (gJ g, 32, .inr (.inl fm1)))] (fun sz => c234_X7_wholeBelow l g h0 h1 0 h2 x1 x2 fm0 (by decide) i_x1 i_x2 sz) gX7_reckonOne_X7_wholeBelow rfl ⟨rfl, rfl⟩ 1 (by decide) ⟨Nat.le_of_ble_eq_true rfl, Nat.le_of_ble_eq_true rfl⟩ 1 rfl rfl [1, 2] [0] rfl rfl (by decide) (by decide) (by decide) rfl rfl (Nat.le_of_ble_eq_true rfl) ⟨Nat.le_of_ble_eq_true rfl, Nat.le_of_ble_eq_true rfl⟩ (fun r311 _ w312 => ?_)
                                        refine r_ws [(h2, .inl (gJ g, 32, .inr (.inl fm1))), (h0, .inr (6, [.ref h1, .ref h2, .int x1, .int x2])), (h1, .inl (gJ g, 48, .inr (.inl fm0)))] rfl ?_
                                        have p313 : r311 = BEL (PA fm0 (Int32.toInt x1)) (0 : Int) >>> 16 := w312
                                        have gr311 := fb_rngL r311
                                        refine r_callVi 208 C dX7_reckonOne_208 [] [(h0, .inr (6, [.ref h1, .ref h2, .int x1, .int x2])), (h1, .inl (gJ g, 48, .inr (.inl fm0)))] [(h2, .inl (gJ g, 32, .inr (.inl fm1)))] (fun sz => c301_X7_pick l g h0 h1 r311 h2 x1 x2 fm0 i_x1 i_x2 sz) gX7_reckonOne_X7_pick rfl ⟨rfl, rfl⟩ 1 (by decide) ⟨Nat.le_of_ble_eq_true rfl, Nat.le_of_ble_eq_true rfl⟩ 1 rfl rfl [1, 2] [0] rfl rfl (by decide) (by decide) (by decide) rfl rfl (Nat.le_of_ble_eq_true rfl) ⟨Nat.le_of_ble_eq_true rfl, Nat.le_of_ble_eq_true rfl⟩ (fun r316 u318 w317 => ?_)
                                        obtain ⟨z314, f315⟩ := u318
                                        refine r_ws [(h2, .inl (gJ g, 32, .inr (.inl fm1))), (h0, .inr (6, [.ref h1, .ref h2, .int z314, .int x2])), (h1, .inl (gJ g, 48, .inr (.inl f315)))] rfl ?_
                                        have p319 : 0 ≤ (Int32.toInt r316) := w317.1
                                        have p320 : (Int32.toInt r316) ≤ 9 := w317.2.1
                                        have p321 : 0 ≤ (Int32.toInt z314) := w317.2.2.1
                                        have p322 : (Int32.toInt z314) ≤ 48 := w317.2.2.2.1
                                        have p323 : ∀ q_9 : Nat → Int64, REQ (PA f315 (Int32.toInt z314)) q_9 (Int32.toInt r316) (PCK (Int32.toInt x2) (PA fm0 (Int32.toInt x1)) q_9 (Int64.toInt r311)) := w317.2.2.2.2
                                        exact r_iret 211 Rt dX7_reckonOne_211 (z314, f315) (show 0 ≤ (Int32.toInt r316) ∧ (Int32.toInt r316) ≤ 9 ∧ 0 ≤ (Int32.toInt z314) ∧ (Int32.toInt z314) ≤ 48 ∧ REQ (PA f315 (Int32.toInt z314)) fm1 (Int32.toInt r316) (RK1 (Int32.toInt x2) (Int32.toInt x0) (PA fm0 (Int32.toInt x1)) fm1) from ⟨(show _ ∧ _ from ⟨p319, p320⟩).1, (show _ ∧ _ from ⟨p319, p320⟩).2, (show _ ∧ _ from ⟨p321, p322⟩).1, (show _ ∧ _ from ⟨p321, p322⟩).2, (by exact rk_29 (by omega) p313 rfl (p323 _))⟩) [1, 2, 0] (by decide) rfl (Nat.le_of_ble_eq_true rfl) (Nat.le_of_ble_eq_true rfl)
                                      · skip
                                        have k324 : ¬ ((Int32.toInt x0) = 23) := fun h_9 => c309 ((fa_eq x0 23).mpr h_9)
                                        by_cases c325 : x0 = 24
                                        · skip
                                          have k326 : (Int32.toInt x0) = 24 := (fa_eq x0 24).mp c325
                                          refine r_tableIn 7 202 24 C dX7_reckonOne_7 c325 (by decide) (by decide) rfl (by decide) ?_
                                          refine r_aload_n 202 1 C dX7_reckonOne_202 rfl ?_
                                          refine r_aload_n 203 1 C dX7_reckonOne_203 rfl ?_
                                          refine r_iconst 204 0 C dX7_reckonOne_204 (by decide) ?_
                                          refine r_callVl 205 C dX7_reckonOne_205 [.ref h0] [(h0, .inr (6, [.ref h1, .ref h2, .int x1, .int x2])), (h1, .inl (gJ g, 48, .inr (.inl fm0)))] [(h2, .inl (gJ g, 32, .inr (.inl fm1)))] (fun sz => c234_X7_wholeBelow l g h0 h1 0 h2 x1 x2 fm0 (by decide) i_x1 i_x2 sz) gX7_reckonOne_X7_wholeBelow rfl ⟨rfl, rfl⟩ 1 (by decide) ⟨Nat.le_of_ble_eq_true rfl, Nat.le_of_ble_eq_true rfl⟩ 1 rfl rfl [1, 2] [0] rfl rfl (by decide) (by decide) (by decide) rfl rfl (Nat.le_of_ble_eq_true rfl) ⟨Nat.le_of_ble_eq_true rfl, Nat.le_of_ble_eq_true rfl⟩ (fun r327 _ w328 => ?_)
                                          refine r_ws [(h2, .inl (gJ g, 32, .inr (.inl fm1))), (h0, .inr (6, [.ref h1, .ref h2, .int x1, .int x2])), (h1, .inl (gJ g, 48, .inr (.inl fm0)))] rfl ?_
                                          have p329 : r327 = BEL (PA fm0 (Int32.toInt x1)) (0 : Int) >>> 16 := w328
                                          have gr327 := fb_rngL r327
                                          refine r_callVi 208 C dX7_reckonOne_208 [] [(h0, .inr (6, [.ref h1, .ref h2, .int x1, .int x2])), (h1, .inl (gJ g, 48, .inr (.inl fm0)))] [(h2, .inl (gJ g, 32, .inr (.inl fm1)))] (fun sz => c301_X7_pick l g h0 h1 r327 h2 x1 x2 fm0 i_x1 i_x2 sz) gX7_reckonOne_X7_pick rfl ⟨rfl, rfl⟩ 1 (by decide) ⟨Nat.le_of_ble_eq_true rfl, Nat.le_of_ble_eq_true rfl⟩ 1 rfl rfl [1, 2] [0] rfl rfl (by decide) (by decide) (by decide) rfl rfl (Nat.le_of_ble_eq_true rfl) ⟨Nat.le_of_ble_eq_true rfl, Nat.le_of_ble_eq_true rfl⟩ (fun r332 u334 w333 => ?_)
                                          obtain ⟨z330, f331⟩ := u334
                                          refine r_ws [(h2, .inl (gJ g, 32, .inr (.inl fm1))), (h0, .inr (6, [.ref h1, .ref h2, .int z330, .int x2])), (h1, .inl (gJ g, 48, .inr (.inl f331)))] rfl ?_
                                          have p335 : 0 ≤ (Int32.toInt r332) := w333.1
                                          have p336 : (Int32.toInt r332) ≤ 9 := w333.2.1
                                          have p337 : 0 ≤ (Int32.toInt z330) := w333.2.2.1
                                          have p338 : (Int32.toInt z330) ≤ 48 := w333.2.2.2.1
                                          have p339 : ∀ q_9 : Nat → Int64, REQ (PA f331 (Int32.toInt z330)) q_9 (Int32.toInt r332) (PCK (Int32.toInt x2) (PA fm0 (Int32.toInt x1)) q_9 (Int64.toInt r327)) := w333.2.2.2.2
                                          exact r_iret 211 Rt dX7_reckonOne_211 (z330, f331) (show 0 ≤ (Int32.toInt r332) ∧ (Int32.toInt r332) ≤ 9 ∧ 0 ≤ (Int32.toInt z330) ∧ (Int32.toInt z330) ≤ 48 ∧ REQ (PA f331 (Int32.toInt z330)) fm1 (Int32.toInt r332) (RK1 (Int32.toInt x2) (Int32.toInt x0) (PA fm0 (Int32.toInt x1)) fm1) from ⟨(show _ ∧ _ from ⟨p335, p336⟩).1, (show _ ∧ _ from ⟨p335, p336⟩).2, (show _ ∧ _ from ⟨p337, p338⟩).1, (show _ ∧ _ from ⟨p337, p338⟩).2, (by exact rk_29 (by omega) p329 rfl (p339 _))⟩) [1, 2, 0] (by decide) rfl (Nat.le_of_ble_eq_true rfl) (Nat.le_of_ble_eq_true rfl)
                                        · skip
                                          have k340 : ¬ ((Int32.toInt x0) = 24) := fun h_9 => c325 ((fa_eq x0 24).mpr h_9)
                                          by_cases c341 : x0 = 25
                                          · skip
                                            have k342 : (Int32.toInt x0) = 25 := (fa_eq x0 25).mp c341
                                            refine r_tableIn 7 202 25 C dX7_reckonOne_7 c341 (by decide) (by decide) rfl (by decide) ?_
                                            refine r_aload_n 202 1 C dX7_reckonOne_202 rfl ?_
                                            refine r_aload_n 203 1 C dX7_reckonOne_203 rfl ?_
                                            refine r_iconst 204 0 C dX7_reckonOne_204 (by decide) ?_
                                            refine r_callVl 205 C dX7_reckonOne_205 [.ref h0] [(h0, .inr (6, [.ref h1, .ref h2, .int x1, .int x2])), (h1, .inl (gJ g, 48, .inr (.inl fm0)))] [(h2, .inl (gJ g, 32, .inr (.inl fm1)))] (fun sz => c234_X7_wholeBelow l g h0 h1 0 h2 x1 x2 fm0 (by decide) i_x1 i_x2 sz) gX7_reckonOne_X7_wholeBelow rfl ⟨rfl, rfl⟩ 1 (by decide) ⟨Nat.le_of_ble_eq_true rfl, Nat.le_of_ble_eq_true rfl⟩ 1 rfl rfl [1, 2] [0] rfl rfl (by decide) (by decide) (by decide) rfl rfl (Nat.le_of_ble_eq_true rfl) ⟨Nat.le_of_ble_eq_true rfl, Nat.le_of_ble_eq_true rfl⟩ (fun r343 _ w344 => ?_)
                                            refine r_ws [(h2, .inl (gJ g, 32, .inr (.inl fm1))), (h0, .inr (6, [.ref h1, .ref h2, .int x1, .int x2])), (h1, .inl (gJ g, 48, .inr (.inl fm0)))] rfl ?_
                                            have p345 : r343 = BEL (PA fm0 (Int32.toInt x1)) (0 : Int) >>> 16 := w344
                                            have gr343 := fb_rngL r343
                                            refine r_callVi 208 C dX7_reckonOne_208 [] [(h0, .inr (6, [.ref h1, .ref h2, .int x1, .int x2])), (h1, .inl (gJ g, 48, .inr (.inl fm0)))] [(h2, .inl (gJ g, 32, .inr (.inl fm1)))] (fun sz => c301_X7_pick l g h0 h1 r343 h2 x1 x2 fm0 i_x1 i_x2 sz) gX7_reckonOne_X7_pick rfl ⟨rfl, rfl⟩ 1 (by decide) ⟨Nat.le_of_ble_eq_true rfl, Nat.le_of_ble_eq_true rfl⟩ 1 rfl rfl [1, 2] [0] rfl rfl (by decide) (by decide) (by decide) rfl rfl (Nat.le_of_ble_eq_true rfl) ⟨Nat.le_of_ble_eq_true rfl, Nat.le_of_ble_eq_true rfl⟩ (fun r348 u350 w349 => ?_)
                                            obtain ⟨z346, f347⟩ := u350
                                            refine r_ws [(h2, .inl (gJ g, 32, .inr (.inl fm1))), (h0, .inr (6, [.ref h1, .ref h2, .int z346, .int x2])), (h1, .inl (gJ g, 48, .inr (.inl f347)))] rfl ?_
                                            have p351 : 0 ≤ (Int32.toInt r348) := w349.1
                                            have p352 : (Int32.toInt r348) ≤ 9 := w349.2.1
                                            have p353 : 0 ≤ (Int32.toInt z346) := w349.2.2.1
                                            have p354 : (Int32.toInt z346) ≤ 48 := w349.2.2.2.1
                                            have p355 : ∀ q_9 : Nat → Int64, REQ (PA f347 (Int32.toInt z346)) q_9 (Int32.toInt r348) (PCK (Int32.toInt x2) (PA fm0 (Int32.toInt x1)) q_9 (Int64.toInt r343)) := w349.2.2.2.2
                                            exact r_iret 211 Rt dX7_reckonOne_211 (z346, f347) (show 0 ≤ (Int32.toInt r348) ∧ (Int32.toInt r348) ≤ 9 ∧ 0 ≤ (Int32.toInt z346) ∧ (Int32.toInt z346) ≤ 48 ∧ REQ (PA f347 (Int32.toInt z346)) fm1 (Int32.toInt r348) (RK1 (Int32.toInt x2) (Int32.toInt x0) (PA fm0 (Int32.toInt x1)) fm1) from ⟨(show _ ∧ _ from ⟨p351, p352⟩).1, (show _ ∧ _ from ⟨p351, p352⟩).2, (show _ ∧ _ from ⟨p353, p354⟩).1, (show _ ∧ _ from ⟨p353, p354⟩).2, (by exact rk_29 (by omega) p345 rfl (p355 _))⟩) [1, 2, 0] (by decide) rfl (Nat.le_of_ble_eq_true rfl) (Nat.le_of_ble_eq_true rfl)
                                          · skip
                                            have k356 : ¬ ((Int32.toInt x0) = 25) := fun h_9 => c341 ((fa_eq x0 25).mpr h_9)
                                            by_cases c357 : x0 = 26
                                            · skip
                                              have k358 : (Int32.toInt x0) = 26 := (fa_eq x0 26).mp c357
                                              refine r_tableIn 7 171 26 C dX7_reckonOne_7 c357 (by decide) (by decide) rfl (by decide) ?_
                                              refine r_lload_n 171 0 C dX7_reckonOne_171 rfl ?_
                                              refine r_lconst 172 0 C dX7_reckonOne_172 (by decide) ?_
                                              obtain ⟨z359, ez359⟩ : ∃ z_9, lg_cmp r1 0 = z_9 := ⟨_, rfl⟩
                                              have l1z359 : (Int32.toInt z359) < 0 ↔ (Int64.toInt r1) < 0 := by rw [← ez359]; exact lgI1 r1 0
                                              have l2z359 : 0 < (Int32.toInt z359) ↔ 0 < (Int64.toInt r1) := by rw [← ez359]; exact lgI2 r1 0
                                              refine r_lcmp 173 z359 C dX7_reckonOne_173 ez359 ?_
                                              refine r_if_ge 174 182 C dX7_reckonOne_174 (by decide) (fun c360 => ?_) (fun c360 => ?_)
                                              · skip
                                                have k361 : 0 ≤ (Int32.toInt z359) := (fa_le 0 z359).mp c360
                                                refine r_aload_n 182 1 C dX7_reckonOne_182 rfl ?_
                                                refine r_iconst 183 1 C dX7_reckonOne_183 (by decide) ?_
                                                refine r_lload_n 184 0 C dX7_reckonOne_184 rfl ?_
                                                refine r_ldc2 185 65536 C dX7_reckonOne_185 (mg 5 rfl) ?_
                                                obtain ⟨z362, ez362⟩ : ∃ z_9, r1 * 65536 = z_9 := ⟨_, rfl⟩
                                                have gz362 := fb_rngL z362
                                                refine r_lmul 188 z362 C dX7_reckonOne_188 ez362 ?_
                                                refine r_callSl 189 C dX7_reckonOne_189 [.int 1, .ref h0] [] [(h2, .inl (gJ g, 32, .inr (.inl fm1))), (h0, .inr (6, [.ref h1, .ref h2, .int x1, .int x2])), (h1, .inl (gJ g, 48, .inr (.inl fm0)))] (fun sz => c303_X7_rootOf l g z362  sz) gX7_reckonOne_X7_rootOf rfl ⟨rfl, rfl⟩ 1 (by decide) ⟨Nat.le_of_ble_eq_true rfl, Nat.le_of_ble_eq_true rfl⟩ [] [0, 1, 2] rfl rfl (by decide) (by decide) (by decide) rfl rfl (Nat.le_of_ble_eq_true rfl) ⟨Nat.le_of_ble_eq_true rfl, Nat.le_of_ble_eq_true rfl⟩ (fun r363 _ w364 => ?_)
                                                refine r_ws [(h2, .inl (gJ g, 32, .inr (.inl fm1))), (h0, .inr (6, [.ref h1, .ref h2, .int x1, .int x2])), (h1, .inl (gJ g, 48, .inr (.inl fm0)))] rfl ?_
                                                have p365 : r363 = RTC z362 24 := w364
                                                have gr363 := fb_rngL r363
                                                refine r_callVi 192 C dX7_reckonOne_192 [] [(h0, .inr (6, [.ref h1, .ref h2, .int x1, .int x2])), (h1, .inl (gJ g, 48, .inr (.inl fm0)))] [(h2, .inl (gJ g, 32, .inr (.inl fm1)))] (fun sz => c238_X7_replace l g h0 h1 1 r363 h2 x1 x2 fm0 i_x1 i_x2 sz) gX7_reckonOne_X7_replace rfl ⟨rfl, rfl⟩ 2 (by decide) ⟨Nat.le_of_ble_eq_true rfl, Nat.le_of_ble_eq_true rfl⟩ 1 rfl rfl [1, 2] [0] rfl rfl (by decide) (by decide) (by decide) rfl rfl (Nat.le_of_ble_eq_true rfl) ⟨Nat.le_of_ble_eq_true rfl, Nat.le_of_ble_eq_true rfl⟩ (fun r368 u370 w369 => ?_)
                                                obtain ⟨z366, f367⟩ := u370
                                                refine r_ws [(h2, .inl (gJ g, 32, .inr (.inl fm1))), (h0, .inr (6, [.ref h1, .ref h2, .int z366, .int x2])), (h1, .inl (gJ g, 48, .inr (.inl f367)))] rfl ?_
                                                have p371 : 0 ≤ (Int32.toInt r368) := w369.1
                                                have p372 : (Int32.toInt r368) ≤ 3 := w369.2.1
                                                have p373 : 0 ≤ (Int32.toInt z366) := w369.2.2.1
                                                have p374 : (Int32.toInt z366) ≤ 48 := w369.2.2.2.1
                                                have p375 : PEQ (PA f367 (Int32.toInt z366)) (Int32.toInt r368) (PSH (Int32.toInt x2) (DRP (PA fm0 (Int32.toInt x1)) (1 : Int)) r363) := w369.2.2.2.2.1
                                                have p376 : ((Int32.toInt r368) = 0 ∨ ((Int32.toInt r368) = 3 ∧ (((1 : Int) ≤ 0 ∧ (Int32.toInt z366) = (Int32.toInt x1)) ∨ (0 < (1 : Int) ∧ (1 : Int) < (Int32.toInt x1) ∧ (Int32.toInt z366) = (Int32.toInt x1) - (1 : Int)) ∨ (0 < (1 : Int) ∧ (Int32.toInt x1) ≤ (1 : Int) ∧ (Int32.toInt z366) = 0)))) := w369.2.2.2.2.2
                                                exact r_iret 195 Rt dX7_reckonOne_195 (z366, f367) (show 0 ≤ (Int32.toInt r368) ∧ (Int32.toInt r368) ≤ 9 ∧ 0 ≤ (Int32.toInt z366) ∧ (Int32.toInt z366) ≤ 48 ∧ REQ (PA f367 (Int32.toInt z366)) fm1 (Int32.toInt r368) (RK1 (Int32.toInt x2) (Int32.toInt x0) (PA fm0 (Int32.toInt x1)) fm1) from ⟨(iv_wide (c := 0) (d := 9) ⟨p371, p372⟩ (by decide) (by decide)).1, (iv_wide (c := 0) (d := 9) ⟨p371, p372⟩ (by decide) (by decide)).2, (show _ ∧ _ from ⟨p373, p374⟩).1, (show _ ∧ _ from ⟨p373, p374⟩).2, (by exact rk_26y (by omega) p3 (by omega) (by assumption) p365 p375)⟩) [1, 2, 0] (by decide) rfl (Nat.le_of_ble_eq_true rfl) (Nat.le_of_ble_eq_true rfl)
                                              · skip
                                                have k377 : ¬ (0 ≤ (Int32.toInt z359)) := fun h_9 => c360 ((fa_le 0 z359).mpr h_9)
                                                refine r_bipush 177 9 C dX7_reckonOne_177 (by decide) ?_
                                                refine r_goto 179 195 C dX7_reckonOne_179 (by decide) ?_
                                                exact r_iret 195 Rt dX7_reckonOne_195 (x1, fm0) (show 0 ≤ (Int32.toInt 9) ∧ (Int32.toInt 9) ≤ 9 ∧ 0 ≤ (Int32.toInt x1) ∧ (Int32.toInt x1) ≤ 48 ∧ REQ (PA fm0 (Int32.toInt x1)) fm1 9 (RK1 (Int32.toInt x2) (Int32.toInt x0) (PA fm0 (Int32.toInt x1)) fm1) from ⟨(by ((repeat' apply And.intro) <;> first | trivial | rfl | assumption | omega | decide | exact Or.inl rfl | exact Or.inr (Or.inl rfl) | exact Or.inr (Or.inr rfl))), (by ((repeat' apply And.intro) <;> first | trivial | rfl | assumption | omega | decide | exact Or.inl rfl | exact Or.inr (Or.inl rfl) | exact Or.inr (Or.inr rfl))), i_x1.1, i_x1.2, (by first | exact rk_26n (by omega) p3 (by omega) rfl | exact rk_18 (by omega) rfl (drp_pa (by omega) (by omega)))⟩) [1, 2, 0] (by decide) rfl (Nat.le_of_ble_eq_true rfl) (Nat.le_of_ble_eq_true rfl)
                                            · skip
                                              have k378 : ¬ ((Int32.toInt x0) = 26) := fun h_9 => c357 ((fa_eq x0 26).mpr h_9)
                                              by_cases c379 : x0 = 27
                                              · skip
                                                have k380 : (Int32.toInt x0) = 27 := (fa_eq x0 27).mp c379
                                                refine r_tableIn 7 196 27 C dX7_reckonOne_7 c379 (by decide) (by decide) rfl (by decide) ?_
                                                refine r_aload_n 196 1 C dX7_reckonOne_196 rfl ?_
                                                refine r_lload_n 197 0 C dX7_reckonOne_197 rfl ?_
                                                refine r_callVi 198 C dX7_reckonOne_198 [] [(h0, .inr (6, [.ref h1, .ref h2, .int x1, .int x2])), (h1, .inl (gJ g, 48, .inr (.inl fm0)))] [(h2, .inl (gJ g, 32, .inr (.inl fm1)))] (fun sz => c227_X7_push l g h0 h1 r1 h2 x1 x2 fm0 i_x1 i_x2 sz) gX7_reckonOne_X7_push rfl ⟨rfl, rfl⟩ 1 (by decide) ⟨Nat.le_of_ble_eq_true rfl, Nat.le_of_ble_eq_true rfl⟩ 1 rfl rfl [1, 2] [0] rfl rfl (by decide) (by decide) (by decide) rfl rfl (Nat.le_of_ble_eq_true rfl) ⟨Nat.le_of_ble_eq_true rfl, Nat.le_of_ble_eq_true rfl⟩ (fun r383 u385 w384 => ?_)
                                                obtain ⟨z381, f382⟩ := u385
                                                refine r_ws [(h2, .inl (gJ g, 32, .inr (.inl fm1))), (h0, .inr (6, [.ref h1, .ref h2, .int z381, .int x2])), (h1, .inl (gJ g, 48, .inr (.inl f382)))] rfl ?_
                                                have p386 : 0 ≤ (Int32.toInt r383) := w384.1
                                                have p387 : (Int32.toInt r383) ≤ 3 := w384.2.1
                                                have p388 : 0 ≤ (Int32.toInt z381) := w384.2.2.1
                                                have p389 : (Int32.toInt z381) ≤ 48 := w384.2.2.2.1
                                                have p390 : PEQ (PA f382 (Int32.toInt z381)) (Int32.toInt r383) (PSH (Int32.toInt x2) (PA fm0 (Int32.toInt x1)) r1) := w384.2.2.2.2.1
                                                have p391 : (((Int32.toInt r383) = 0 ∧ (Int32.toInt z381) = (Int32.toInt x1) + 1) ∨ ((Int32.toInt r383) = 3 ∧ (Int32.toInt z381) = (Int32.toInt x1))) := w384.2.2.2.2.2
                                                exact r_iret 201 Rt dX7_reckonOne_201 (z381, f382) (show 0 ≤ (Int32.toInt r383) ∧ (Int32.toInt r383) ≤ 9 ∧ 0 ≤ (Int32.toInt z381) ∧ (Int32.toInt z381) ≤ 48 ∧ REQ (PA f382 (Int32.toInt z381)) fm1 (Int32.toInt r383) (RK1 (Int32.toInt x2) (Int32.toInt x0) (PA fm0 (Int32.toInt x1)) fm1) from ⟨(iv_wide (c := 0) (d := 9) ⟨p386, p387⟩ (by decide) (by decide)).1, (iv_wide (c := 0) (d := 9) ⟨p386, p387⟩ (by decide) (by decide)).2, (show _ ∧ _ from ⟨p388, p389⟩).1, (show _ ∧ _ from ⟨p388, p389⟩).2, (by exact rk_27 (by omega) p3 p390)⟩) [1, 2, 0] (by decide) rfl (Nat.le_of_ble_eq_true rfl) (Nat.le_of_ble_eq_true rfl)
                                              · skip
                                                have k392 : ¬ ((Int32.toInt x0) = 27) := fun h_9 => c379 ((fa_eq x0 27).mpr h_9)
                                                refine r_tableOut 7 202 C dX7_reckonOne_7 (by omega) (by decide) ?_
                                                refine r_aload_n 202 1 C dX7_reckonOne_202 rfl ?_
                                                refine r_aload_n 203 1 C dX7_reckonOne_203 rfl ?_
                                                refine r_iconst 204 0 C dX7_reckonOne_204 (by decide) ?_
                                                refine r_callVl 205 C dX7_reckonOne_205 [.ref h0] [(h0, .inr (6, [.ref h1, .ref h2, .int x1, .int x2])), (h1, .inl (gJ g, 48, .inr (.inl fm0)))] [(h2, .inl (gJ g, 32, .inr (.inl fm1)))] (fun sz => c234_X7_wholeBelow l g h0 h1 0 h2 x1 x2 fm0 (by decide) i_x1 i_x2 sz) gX7_reckonOne_X7_wholeBelow rfl ⟨rfl, rfl⟩ 1 (by decide) ⟨Nat.le_of_ble_eq_true rfl, Nat.le_of_ble_eq_true rfl⟩ 1 rfl rfl [1, 2] [0] rfl rfl (by decide) (by decide) (by decide) rfl rfl (Nat.le_of_ble_eq_true rfl) ⟨Nat.le_of_ble_eq_true rfl, Nat.le_of_ble_eq_true rfl⟩ (fun r393 _ w394 => ?_)
                                                refine r_ws [(h2, .inl (gJ g, 32, .inr (.inl fm1))), (h0, .inr (6, [.ref h1, .ref h2, .int x1, .int x2])), (h1, .inl (gJ g, 48, .inr (.inl fm0)))] rfl ?_
                                                have p395 : r393 = BEL (PA fm0 (Int32.toInt x1)) (0 : Int) >>> 16 := w394
                                                have gr393 := fb_rngL r393
                                                refine r_callVi 208 C dX7_reckonOne_208 [] [(h0, .inr (6, [.ref h1, .ref h2, .int x1, .int x2])), (h1, .inl (gJ g, 48, .inr (.inl fm0)))] [(h2, .inl (gJ g, 32, .inr (.inl fm1)))] (fun sz => c301_X7_pick l g h0 h1 r393 h2 x1 x2 fm0 i_x1 i_x2 sz) gX7_reckonOne_X7_pick rfl ⟨rfl, rfl⟩ 1 (by decide) ⟨Nat.le_of_ble_eq_true rfl, Nat.le_of_ble_eq_true rfl⟩ 1 rfl rfl [1, 2] [0] rfl rfl (by decide) (by decide) (by decide) rfl rfl (Nat.le_of_ble_eq_true rfl) ⟨Nat.le_of_ble_eq_true rfl, Nat.le_of_ble_eq_true rfl⟩ (fun r398 u400 w399 => ?_)
                                                obtain ⟨z396, f397⟩ := u400
                                                refine r_ws [(h2, .inl (gJ g, 32, .inr (.inl fm1))), (h0, .inr (6, [.ref h1, .ref h2, .int z396, .int x2])), (h1, .inl (gJ g, 48, .inr (.inl f397)))] rfl ?_
                                                have p401 : 0 ≤ (Int32.toInt r398) := w399.1
                                                have p402 : (Int32.toInt r398) ≤ 9 := w399.2.1
                                                have p403 : 0 ≤ (Int32.toInt z396) := w399.2.2.1
                                                have p404 : (Int32.toInt z396) ≤ 48 := w399.2.2.2.1
                                                have p405 : ∀ q_9 : Nat → Int64, REQ (PA f397 (Int32.toInt z396)) q_9 (Int32.toInt r398) (PCK (Int32.toInt x2) (PA fm0 (Int32.toInt x1)) q_9 (Int64.toInt r393)) := w399.2.2.2.2
                                                exact r_iret 211 Rt dX7_reckonOne_211 (z396, f397) (show 0 ≤ (Int32.toInt r398) ∧ (Int32.toInt r398) ≤ 9 ∧ 0 ≤ (Int32.toInt z396) ∧ (Int32.toInt z396) ≤ 48 ∧ REQ (PA f397 (Int32.toInt z396)) fm1 (Int32.toInt r398) (RK1 (Int32.toInt x2) (Int32.toInt x0) (PA fm0 (Int32.toInt x1)) fm1) from ⟨(show _ ∧ _ from ⟨p401, p402⟩).1, (show _ ∧ _ from ⟨p401, p402⟩).2, (show _ ∧ _ from ⟨p403, p404⟩).1, (show _ ∧ _ from ⟨p403, p404⟩).2, (by exact rk_29 (by omega) p395 rfl (p405 _))⟩) [1, 2, 0] (by decide) rfl (Nat.le_of_ble_eq_true rfl) (Nat.le_of_ble_eq_true rfl)
set_option maxHeartbeats 4000000 in
set_option maxRecDepth 100000 in
theorem c305_J9_floorMod_f86c9 (l : Launch) (g : GD) (y0 : Int64) (y1 : Int64) (i_y1 : (1 ≤ (Int64.toInt y1) ∧ (Int64.toInt y1) ≤ 9223372036854775807)) (sz : Nat) : Met l yJ9_floorMod_f86c9 wsJ9_floorMod_f86c9 ({ frames := 0, cells := 0, slots := 0, locals := 0 }) (va_Pc [.long y0, .long y1] (PW g [] sz)) (va_Ql (fun (r : Int64) (_ : Unit) => (Int64.toInt r) = (Int64.toInt y0) % (Int64.toInt y1) ∧ (0 ≤ (Int64.toInt r) ∧ (Int64.toInt r) < (Int64.toInt y1))) (BW g (va_A [] sz) (fun _ : Unit => [])) (va_A [] sz)) 0 0 (va_A [] sz) := by
  refine met_lF RJ9 (by decide +kernel) rfl rfl (Nat.le_of_ble_eq_true rfl) [(0, .long y0), (2, .long y1)] rfl ?_
  intro p e s m args below meth c A Q C hnm Rt
  have gy0 := fb_rngL y0
  refine r_lload_n 0 0 C dJ9_floorMod_f86c9_0 rfl ?_
  refine r_lload_n 1 1 C dJ9_floorMod_f86c9_1 rfl ?_
  obtain ⟨z1, ez1⟩ : ∃ z_9, y0 - y0 / y1 * y1 = z_9 := ⟨_, rfl⟩
  have gz1 := fb_rngL z1
  refine r_lrem 2 z1 C dJ9_floorMod_f86c9_2 (fun h_9 => by have h_8 : (Int64.toInt y1) = 0 := (fa_eq64 y1 0).mp h_9; omega) ez1 ?_
  refine r_lstore 3 C dJ9_floorMod_f86c9_3 [(4, .long z1), (0, .long y0), (2, .long y1)] (by decide) rfl ?_
  refine r_lload_n 5 1 C dJ9_floorMod_f86c9_5 rfl ?_
  refine r_lload_n 6 2 C dJ9_floorMod_f86c9_6 rfl ?_
  obtain ⟨z2, ez2⟩ : ∃ z_9, y0 ^^^ y1 = z_9 := ⟨_, rfl⟩
  have gz2 := fb_rngL z2
  refine r_lxor 7 z2 C dJ9_floorMod_f86c9_7 ez2 ?_
  refine r_lconst 8 0 C dJ9_floorMod_f86c9_8 (by decide) ?_
  obtain ⟨z3, ez3⟩ : ∃ z_9, lg_cmp z2 0 = z_9 := ⟨_, rfl⟩
  have l1z3 : (Int32.toInt z3) < 0 ↔ (Int64.toInt z2) < 0 := by rw [← ez3]; exact lgI1 z2 0
  have l2z3 : 0 < (Int32.toInt z3) ↔ 0 < (Int64.toInt z2) := by rw [← ez3]; exact lgI2 z2 0
  refine r_lcmp 9 z3 C dJ9_floorMod_f86c9_9 ez3 ?_
  refine r_if_ge 10 25 C dJ9_floorMod_f86c9_10 (by decide) (fun c4 => ?_) (fun c4 => ?_)
  · skip
    have k5 : 0 ≤ (Int32.toInt z3) := (fa_le 0 z3).mp c4
    refine r_lload 25 0 C dJ9_floorMod_f86c9_25 rfl ?_
    exact r_lret 27 Rt dJ9_floorMod_f86c9_27 () (show (Int64.toInt z1) = (Int64.toInt y0) % (Int64.toInt y1) ∧ (0 ≤ (Int64.toInt z1) ∧ (Int64.toInt z1) < (Int64.toInt y1)) from ⟨(by exact flm_pf (by omega) (by assumption) (by assumption) (by first | exact Or.inl ⟨by omega, rfl⟩ | exact Or.inr (Or.inl ⟨by omega, by omega, rfl⟩) | exact Or.inr (Or.inr ⟨by omega, by omega, by assumption⟩))), (by exact flm_r (by omega) (by assumption) (by assumption) (by first | exact Or.inl ⟨by omega, rfl⟩ | exact Or.inr (Or.inl ⟨by omega, by omega, rfl⟩) | exact Or.inr (Or.inr ⟨by omega, by omega, by assumption⟩)))⟩) [] (by decide) rfl (Nat.le_of_ble_eq_true rfl) (Nat.le_of_ble_eq_true rfl)
  · skip
    have k6 : ¬ (0 ≤ (Int32.toInt z3)) := fun h_9 => c4 ((fa_le 0 z3).mpr h_9)
    refine r_lload 13 0 C dJ9_floorMod_f86c9_13 rfl ?_
    refine r_lconst 15 0 C dJ9_floorMod_f86c9_15 (by decide) ?_
    obtain ⟨z7, ez7⟩ : ∃ z_9, lg_cmp z1 0 = z_9 := ⟨_, rfl⟩
    have l1z7 : (Int32.toInt z7) < 0 ↔ (Int64.toInt z1) < 0 := by rw [← ez7]; exact lgI1 z1 0
    have l2z7 : 0 < (Int32.toInt z7) ↔ 0 < (Int64.toInt z1) := by rw [← ez7]; exact lgI2 z1 0
    refine r_lcmp 16 z7 C dJ9_floorMod_f86c9_16 ez7 ?_
    refine r_if_eq 17 25 C dJ9_floorMod_f86c9_17 (by decide) (fun c8 => ?_) (fun c8 => ?_)
    · skip
      have k9 : (Int32.toInt z7) = 0 := (fa_eq z7 0).mp c8
      refine r_lload 25 0 C dJ9_floorMod_f86c9_25 rfl ?_
      exact r_lret 27 Rt dJ9_floorMod_f86c9_27 () (show (Int64.toInt z1) = (Int64.toInt y0) % (Int64.toInt y1) ∧ (0 ≤ (Int64.toInt z1) ∧ (Int64.toInt z1) < (Int64.toInt y1)) from ⟨(by exact flm_pf (by omega) (by assumption) (by assumption) (by first | exact Or.inl ⟨by omega, rfl⟩ | exact Or.inr (Or.inl ⟨by omega, by omega, rfl⟩) | exact Or.inr (Or.inr ⟨by omega, by omega, by assumption⟩))), (by exact flm_r (by omega) (by assumption) (by assumption) (by first | exact Or.inl ⟨by omega, rfl⟩ | exact Or.inr (Or.inl ⟨by omega, by omega, rfl⟩) | exact Or.inr (Or.inr ⟨by omega, by omega, by assumption⟩)))⟩) [] (by decide) rfl (Nat.le_of_ble_eq_true rfl) (Nat.le_of_ble_eq_true rfl)
    · skip
      have k10 : ¬ ((Int32.toInt z7) = 0) := fun h_9 => c8 ((fa_eq z7 0).mpr h_9)
      refine r_lload 20 0 C dJ9_floorMod_f86c9_20 rfl ?_
      refine r_lload_n 22 2 C dJ9_floorMod_f86c9_22 rfl ?_
      obtain ⟨z11, ez11⟩ : ∃ z_9, z1 + y1 = z_9 := ⟨_, rfl⟩
      have gz11 := fb_rngL z11
      refine r_ladd 23 z11 C dJ9_floorMod_f86c9_23 ez11 ?_
      exact r_lret 24 Rt dJ9_floorMod_f86c9_24 () (show (Int64.toInt z11) = (Int64.toInt y0) % (Int64.toInt y1) ∧ (0 ≤ (Int64.toInt z11) ∧ (Int64.toInt z11) < (Int64.toInt y1)) from ⟨(by exact flm_pf (by omega) (by assumption) (by assumption) (by first | exact Or.inl ⟨by omega, rfl⟩ | exact Or.inr (Or.inl ⟨by omega, by omega, rfl⟩) | exact Or.inr (Or.inr ⟨by omega, by omega, by assumption⟩))), (by exact flm_r (by omega) (by assumption) (by assumption) (by first | exact Or.inl ⟨by omega, rfl⟩ | exact Or.inr (Or.inl ⟨by omega, by omega, rfl⟩) | exact Or.inr (Or.inr ⟨by omega, by omega, by assumption⟩)))⟩) [] (by decide) rfl (Nat.le_of_ble_eq_true rfl) (Nat.le_of_ble_eq_true rfl)
