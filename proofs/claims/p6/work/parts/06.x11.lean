set_option maxHeartbeats 4000000 in
set_option maxRecDepth 100000 in
theorem c293_X4_finishAll (l : Launch) (g : GD) (h0 : Nat) (h1 : Nat) (h2 : Nat) (h3 : Nat) (x0 : Int32) (x1 : Int32) (y0 : Int64) (x2 : Int32) (x3 : Int32) (x4 : Int32) (x5 : Int32) (h4 : Nat) (h5 : Nat) (h6 : Nat) (x6 : Int32) (x7 : Int32) (i_x5 : (0 ≤ (Int32.toInt x5) ∧ (Int32.toInt x5) ≤ 1)) (i_x6 : (0 ≤ (Int32.toInt x6) ∧ (Int32.toInt x6) ≤ 10)) (i_x7 : (0 ≤ (Int32.toInt x7) ∧ (Int32.toInt x7) ≤ 1)) (sz : Nat) : Met l yX4_finishAll wsX4_finishAll ({ frames := 0, cells := 0, slots := 0, locals := 0 }) (va_Pc [.ref h0] (PW g [(h0, .inr (0, [.ref h1, .ref h2, .ref h3, .int x0, .int x1, .long y0, .int x2, .int x3, .int x4, .int x5, .ref h4, .ref h5, .ref h6, .int x6, .int x7]))] sz)) (va_Qv (fun (_ : Unit) => True) (BW g (va_A [(h0, .inr (0, [.ref h1, .ref h2, .ref h3, .int x0, .int x1, .long y0, .int x2, .int x3, .int x4, .int x5, .ref h4, .ref h5, .ref h6, .int x6, .int x7]))] sz) (fun _ : Unit => [(h0, .inr (0, [.ref h1, .ref h2, .ref h3, .int x0, .int x1, .long y0, .int x2, .int x3, .int x4, .int 1, .ref h4, .ref h5, .ref h6, .int x6, .int x7]))])) (va_A [(h0, .inr (0, [.ref h1, .ref h2, .ref h3, .int x0, .int x1, .long y0, .int x2, .int x3, .int x4, .int x5, .ref h4, .ref h5, .ref h6, .int x6, .int x7]))] sz)) 0 0 (va_A [(h0, .inr (0, [.ref h1, .ref h2, .ref h3, .int x0, .int x1, .long y0, .int x2, .int x3, .int x4, .int x5, .ref h4, .ref h5, .ref h6, .int x6, .int x7]))] sz) := by
  refine met_v RX4 (by decide) rfl rfl (Nat.le_of_ble_eq_true rfl) [(0, .ref h0)] rfl ?_
  intro p e s m args below meth c A Q C hnm Rt
  have hiX0 : ∀ w ∈ wsX00, w ∈ wsX4_finishAll := fun w h => List.mem_cons_of_mem _ (List.mem_append_left _ (List.mem_append_right _ (h)))
  refine r_aload_n 0 0 C dX4_finishAll_0 rfl ?_
  refine r_iconst 1 1 C dX4_finishAll_1 (by decide) ?_
  refine r_put 2 C dX4_finishAll_2 (k := 9) 0 rfl rfl hiX0 tyX0 tyX0_ok nmX0 (by decide) rfl (mg 1 rfl) (Or.inl rfl) rfl rfl rfl rfl (Nat.le_of_ble_eq_true rfl) [(h0, .inr (0, [.ref h1, .ref h2, .ref h3, .int x0, .int x1, .long y0, .int x2, .int x3, .int x4, .int 1, .ref h4, .ref h5, .ref h6, .int x6, .int x7]))] rfl ?_
  exact r_vret 5 Rt dX4_finishAll_5 () trivial [0] (by decide) rfl (Nat.le_of_ble_eq_true rfl) (Nat.le_of_ble_eq_true rfl)
set_option maxHeartbeats 4000000 in
set_option maxRecDepth 100000 in
theorem c294_X0_endLetter (l : Launch) (g : GD) (h0 : Nat) (h1 : Nat) (h2 : Nat) (h3 : Nat) (h4 : Nat) (h5 : Nat) (h6 : Nat) (x0 : Int32) (x1 : Int32) (y0 : Int64) (x2 : Int32) (x3 : Int32) (x4 : Int32) (x5 : Int32) (h7 : Nat) (h8 : Nat) (h9 : Nat) (x6 : Int32) (x7 : Int32) (h10 : Nat) (x8 : Int32) (x9 : Int32) (x10 : Int32) (x11 : Int32) (y1 : Int64) (y2 : Int64) (x12 : Int32) (h11 : Nat) (h12 : Nat) (h13 : Nat) (h14 : Nat) (x13 : Int32) (x14 : Int32) (x15 : Int32) (fm0 : Nat → Int64) (fn0 : Nat → Int32) (fm1 : Nat → Int64) (i_x5 : (0 ≤ (Int32.toInt x5) ∧ (Int32.toInt x5) ≤ 1)) (i_x6 : (0 ≤ (Int32.toInt x6) ∧ (Int32.toInt x6) ≤ 10)) (i_x7 : (0 ≤ (Int32.toInt x7) ∧ (Int32.toInt x7) ≤ 1)) (i_x8 : (0 ≤ (Int32.toInt x8) ∧ (Int32.toInt x8) ≤ 48)) (i_x9 : (0 ≤ (Int32.toInt x9) ∧ (Int32.toInt x9) ≤ 48)) (i_x10 : (0 ≤ (Int32.toInt x10) ∧ (Int32.toInt x10) ≤ 400)) (i_x11 : (0 ≤ (Int32.toInt x11) ∧ (Int32.toInt x11) ≤ 400)) (i_x12 : (0 ≤ (Int32.toInt x12) ∧ (Int32.toInt x12) ≤ 1)) (sz : Nat) : Met l yX0_endLetter wsX0_endLetter ({ frames := 3, cells := 0, slots := 0, locals := 61 }) (va_Pc [.ref h0] (PW g [(h0, .inr (0, [.ref h1, .ref h2, .ref h3, .int x0, .int x1, .long y0, .int x2, .int x3, .int x4, .int x5, .ref h7, .ref h8, .ref h9, .int x6, .int x7])), (h1, .inr (6, [.ref h4, .ref h10, .int x8, .int x9])), (h2, .inr (5, [.ref h5, .ref h6, .int x10, .int x11, .long y1, .long y2, .int x12])), (h3, .inr (3, [.ref h11, .ref h12, .ref h13, .ref h14, .int x13, .int x14, .int x15])), (h4, .inl (gJ g, 48, .inr (.inl fm0))), (h5, .inl (gB g, 400, .inl fn0)), (h6, .inl (gJ g, 2400, .inr (.inl fm1)))] sz)) (va_Qi (fun (r : Int32) (u : (Int64) × (Int32) × (Int32) × (Int32) × (Nat → Int32) × (Nat → Int64)) => 0 ≤ (Int32.toInt r) ∧ (Int32.toInt r) ≤ 6 ∧ 0 ≤ (Int32.toInt (u.2.1)) ∧ (Int32.toInt (u.2.1)) ≤ 1 ∧ 0 ≤ (Int32.toInt (u.2.2.1)) ∧ (Int32.toInt (u.2.2.1)) ≤ 1 ∧ 0 ≤ (Int32.toInt (u.2.2.2.1)) ∧ (Int32.toInt (u.2.2.2.1)) ≤ 400) (BW g (va_A [(h0, .inr (0, [.ref h1, .ref h2, .ref h3, .int x0, .int x1, .long y0, .int x2, .int x3, .int x4, .int x5, .ref h7, .ref h8, .ref h9, .int x6, .int x7])), (h1, .inr (6, [.ref h4, .ref h10, .int x8, .int x9])), (h2, .inr (5, [.ref h5, .ref h6, .int x10, .int x11, .long y1, .long y2, .int x12])), (h3, .inr (3, [.ref h11, .ref h12, .ref h13, .ref h14, .int x13, .int x14, .int x15])), (h4, .inl (gJ g, 48, .inr (.inl fm0))), (h5, .inl (gB g, 400, .inl fn0)), (h6, .inl (gJ g, 2400, .inr (.inl fm1)))] sz) (fun u : (Int64) × (Int32) × (Int32) × (Int32) × (Nat → Int32) × (Nat → Int64) => [(h0, .inr (0, [.ref h1, .ref h2, .ref h3, .int x0, .int x1, .long u.1, .int x2, .int x3, .int x4, .int u.2.1, .ref h7, .ref h8, .ref h9, .int x6, .int u.2.2.1])), (h1, .inr (6, [.ref h4, .ref h10, .int x8, .int x9])), (h2, .inr (5, [.ref h5, .ref h6, .int u.2.2.2.1, .int x11, .long y1, .long y2, .int x12])), (h3, .inr (3, [.ref h11, .ref h12, .ref h13, .ref h14, .int x13, .int x14, .int x15])), (h4, .inl (gJ g, 48, .inr (.inl fm0))), (h5, .inl (gB g, 400, .inl u.2.2.2.2.1)), (h6, .inl (gJ g, 2400, .inr (.inl u.2.2.2.2.2)))])) (va_A [(h0, .inr (0, [.ref h1, .ref h2, .ref h3, .int x0, .int x1, .long y0, .int x2, .int x3, .int x4, .int x5, .ref h7, .ref h8, .ref h9, .int x6, .int x7])), (h1, .inr (6, [.ref h4, .ref h10, .int x8, .int x9])), (h2, .inr (5, [.ref h5, .ref h6, .int x10, .int x11, .long y1, .long y2, .int x12])), (h3, .inr (3, [.ref h11, .ref h12, .ref h13, .ref h14, .int x13, .int x14, .int x15])), (h4, .inl (gJ g, 48, .inr (.inl fm0))), (h5, .inl (gB g, 400, .inl fn0)), (h6, .inl (gJ g, 2400, .inr (.inl fm1)))] sz)) 0 0 (va_A [(h0, .inr (0, [.ref h1, .ref h2, .ref h3, .int x0, .int x1, .long y0, .int x2, .int x3, .int x4, .int x5, .ref h7, .ref h8, .ref h9, .int x6, .int x7])), (h1, .inr (6, [.ref h4, .ref h10, .int x8, .int x9])), (h2, .inr (5, [.ref h5, .ref h6, .int x10, .int x11, .long y1, .long y2, .int x12])), (h3, .inr (3, [.ref h11, .ref h12, .ref h13, .ref h14, .int x13, .int x14, .int x15])), (h4, .inl (gJ g, 48, .inr (.inl fm0))), (h5, .inl (gB g, 400, .inl fn0)), (h6, .inl (gJ g, 2400, .inr (.inl fm1)))] sz) := by
  refine met_i RX0 (by decide) rfl rfl (Nat.le_of_ble_eq_true rfl) [(0, .ref h0)] rfl ?_
  intro p e s m args below meth c A Q C hnm Rt
  have hiX0 : ∀ w ∈ wsX00, w ∈ wsX0_endLetter := fun w h => List.mem_cons_of_mem _ (List.mem_append_left _ (List.mem_append_left _ (List.mem_append_left _ (List.mem_append_left _ (List.mem_append_right _ (h))))))
  refine r_aload_n 0 0 C dX0_endLetter_0 rfl ?_
  refine r_aload_n 1 0 C dX0_endLetter_1 rfl ?_
  refine r_get 2 C dX0_endLetter_2 (k := 0) 0 rfl rfl hiX0 (by decide) rfl (mg 1 rfl) (Or.inr (mg 2 rfl)) rfl ?_
  refine r_callVi 5 C dX0_endLetter_5 [.ref h0] [(h1, .inr (6, [.ref h4, .ref h10, .int x8, .int x9]))] [(h0, .inr (0, [.ref h1, .ref h2, .ref h3, .int x0, .int x1, .long y0, .int x2, .int x3, .int x4, .int x5, .ref h7, .ref h8, .ref h9, .int x6, .int x7])), (h2, .inr (5, [.ref h5, .ref h6, .int x10, .int x11, .long y1, .long y2, .int x12])), (h3, .inr (3, [.ref h11, .ref h12, .ref h13, .ref h14, .int x13, .int x14, .int x15])), (h4, .inl (gJ g, 48, .inr (.inl fm0))), (h5, .inl (gB g, 400, .inl fn0)), (h6, .inl (gJ g, 2400, .inr (.inl fm1)))] (fun sz => c231_X7_size l g h1 h4 h10 x8 x9 i_x8 i_x9 sz) gX0_endLetter_X7_size rfl ⟨rfl, rfl⟩ 0 (by decide) ⟨Nat.le_of_ble_eq_true rfl, Nat.le_of_ble_eq_true rfl⟩ 1 rfl rfl [1] [0, 2, 3, 4, 5, 6] rfl rfl (by decide) (by decide) (by decide) rfl rfl (Nat.le_of_ble_eq_true rfl) ⟨Nat.le_of_ble_eq_true rfl, Nat.le_of_ble_eq_true rfl⟩ (fun r1 _ w2 => ?_)
  refine r_ws [(h0, .inr (0, [.ref h1, .ref h2, .ref h3, .int x0, .int x1, .long y0, .int x2, .int x3, .int x4, .int x5, .ref h7, .ref h8, .ref h9, .int x6, .int x7])), (h2, .inr (5, [.ref h5, .ref h6, .int x10, .int x11, .long y1, .long y2, .int x12])), (h3, .inr (3, [.ref h11, .ref h12, .ref h13, .ref h14, .int x13, .int x14, .int x15])), (h4, .inl (gJ g, 48, .inr (.inl fm0))), (h5, .inl (gB g, 400, .inl fn0)), (h6, .inl (gJ g, 2400, .inr (.inl fm1))), (h1, .inr (6, [.ref h4, .ref h10, .int x8, .int x9]))] rfl ?_
  have p3 : x8 = r1 := (w2).symm
  subst p3
  refine r_iconst 8 1 C dX0_endLetter_8 (by decide) ?_
  refine r_icmp_ne 9 16 C dX0_endLetter_9 (by decide) (fun c4 => ?_) (fun c4 => ?_)
  · skip
    have k5 : ¬ ((Int32.toInt x8) = 1) := fun h_9 => c4 ((fa_eq x8 1).mpr h_9)
    refine r_iconst 16 0 C dX0_endLetter_16 (by decide) ?_
    refine r_callVi 17 C dX0_endLetter_17 [] [(h0, .inr (0, [.ref h1, .ref h2, .ref h3, .int x0, .int x1, .long y0, .int x2, .int x3, .int x4, .int x5, .ref h7, .ref h8, .ref h9, .int x6, .int x7]))] [(h2, .inr (5, [.ref h5, .ref h6, .int x10, .int x11, .long y1, .long y2, .int x12])), (h3, .inr (3, [.ref h11, .ref h12, .ref h13, .ref h14, .int x13, .int x14, .int x15])), (h4, .inl (gJ g, 48, .inr (.inl fm0))), (h5, .inl (gB g, 400, .inl fn0)), (h6, .inl (gJ g, 2400, .inr (.inl fm1))), (h1, .inr (6, [.ref h4, .ref h10, .int x8, .int x9]))] (fun sz => c288_X0_widthsShare l g h0 0 h1 h2 h3 x0 x1 y0 x2 x3 x4 x5 h7 h8 h9 x6 x7 (by decide) i_x5 i_x6 i_x7 sz) gX0_endLetter_X0_widthsShare rfl ⟨rfl, rfl⟩ 1 (by decide) ⟨Nat.le_of_ble_eq_true rfl, Nat.le_of_ble_eq_true rfl⟩ 0 rfl rfl [0] [1, 2, 3, 4, 5, 6] rfl rfl (by decide) (by decide) (by decide) rfl rfl (Nat.le_of_ble_eq_true rfl) ⟨Nat.le_of_ble_eq_true rfl, Nat.le_of_ble_eq_true rfl⟩ (fun r6 _ w7 => ?_)
    refine r_ws [(h2, .inr (5, [.ref h5, .ref h6, .int x10, .int x11, .long y1, .long y2, .int x12])), (h3, .inr (3, [.ref h11, .ref h12, .ref h13, .ref h14, .int x13, .int x14, .int x15])), (h4, .inl (gJ g, 48, .inr (.inl fm0))), (h5, .inl (gB g, 400, .inl fn0)), (h6, .inl (gJ g, 2400, .inr (.inl fm1))), (h1, .inr (6, [.ref h4, .ref h10, .int x8, .int x9])), (h0, .inr (0, [.ref h1, .ref h2, .ref h3, .int x0, .int x1, .long y0, .int x2, .int x3, .int x4, .int x5, .ref h7, .ref h8, .ref h9, .int x6, .int x7]))] rfl ?_
    have p8 : 0 ≤ (Int32.toInt r6) := w7.1
    have p9 : (Int32.toInt r6) ≤ 1 := w7.2
    refine r_istore_n 20 C dX0_endLetter_20 [(1, .int r6), (0, .ref h0)] (by decide) rfl ?_
    refine r_aload_n 21 1 C dX0_endLetter_21 rfl ?_
    refine r_get 22 C dX0_endLetter_22 (k := 0) 6 rfl rfl hiX0 (by decide) rfl (mg 1 rfl) (Or.inr (mg 2 rfl)) rfl ?_
    refine r_callVi 25 C dX0_endLetter_25 [] [(h1, .inr (6, [.ref h4, .ref h10, .int x8, .int x9]))] [(h2, .inr (5, [.ref h5, .ref h6, .int x10, .int x11, .long y1, .long y2, .int x12])), (h3, .inr (3, [.ref h11, .ref h12, .ref h13, .ref h14, .int x13, .int x14, .int x15])), (h4, .inl (gJ g, 48, .inr (.inl fm0))), (h5, .inl (gB g, 400, .inl fn0)), (h6, .inl (gJ g, 2400, .inr (.inl fm1))), (h0, .inr (0, [.ref h1, .ref h2, .ref h3, .int x0, .int x1, .long y0, .int x2, .int x3, .int x4, .int x5, .ref h7, .ref h8, .ref h9, .int x6, .int x7]))] (fun sz => c231_X7_size l g h1 h4 h10 x8 x9 i_x8 i_x9 sz) gX0_endLetter_X7_size rfl ⟨rfl, rfl⟩ 0 (by decide) ⟨Nat.le_of_ble_eq_true rfl, Nat.le_of_ble_eq_true rfl⟩ 5 rfl rfl [5] [0, 1, 2, 3, 4, 6] rfl rfl (by decide) (by decide) (by decide) rfl rfl (Nat.le_of_ble_eq_true rfl) ⟨Nat.le_of_ble_eq_true rfl, Nat.le_of_ble_eq_true rfl⟩ (fun r10 _ w11 => ?_)
    refine r_ws [(h2, .inr (5, [.ref h5, .ref h6, .int x10, .int x11, .long y1, .long y2, .int x12])), (h3, .inr (3, [.ref h11, .ref h12, .ref h13, .ref h14, .int x13, .int x14, .int x15])), (h4, .inl (gJ g, 48, .inr (.inl fm0))), (h5, .inl (gB g, 400, .inl fn0)), (h6, .inl (gJ g, 2400, .inr (.inl fm1))), (h0, .inr (0, [.ref h1, .ref h2, .ref h3, .int x0, .int x1, .long y0, .int x2, .int x3, .int x4, .int x5, .ref h7, .ref h8, .ref h9, .int x6, .int x7])), (h1, .inr (6, [.ref h4, .ref h10, .int x8, .int x9]))] rfl ?_
    have p12 : x8 = r10 := (w11).symm
    subst p12
    refine r_iload_n 28 0 C dX0_endLetter_28 rfl ?_
    refine r_icmp_eq 29 34 C dX0_endLetter_29 (by decide) (fun c13 => ?_) (fun c13 => ?_)
    · skip
      have k14 : (Int32.toInt x8) = (Int32.toInt r6) := (fa_eq x8 r6).mp c13
      refine r_aload_n 34 1 C dX0_endLetter_34 rfl ?_
      refine r_iload_n 35 0 C dX0_endLetter_35 rfl ?_
      refine r_callVv 36 C dX0_endLetter_36 [] [(h0, .inr (0, [.ref h1, .ref h2, .ref h3, .int x0, .int x1, .long y0, .int x2, .int x3, .int x4, .int x5, .ref h7, .ref h8, .ref h9, .int x6, .int x7])), (h1, .inr (6, [.ref h4, .ref h10, .int x8, .int x9])), (h3, .inr (3, [.ref h11, .ref h12, .ref h13, .ref h14, .int x13, .int x14, .int x15])), (h4, .inl (gJ g, 48, .inr (.inl fm0)))] [(h2, .inr (5, [.ref h5, .ref h6, .int x10, .int x11, .long y1, .long y2, .int x12])), (h5, .inl (gB g, 400, .inl fn0)), (h6, .inl (gJ g, 2400, .inr (.inl fm1)))] (fun sz => c289_X0_tellWidth l g h0 h1 h3 h4 r6 h2 x0 x1 y0 x2 x3 x4 x5 h7 h8 h9 x6 x7 h10 x8 x9 h11 h12 h13 h14 x13 x14 x15 fm0 i_x5 i_x6 i_x7 i_x8 i_x9 sz) gX0_endLetter_X0_tellWidth rfl ⟨rfl, rfl⟩ 1 (by decide) ⟨Nat.le_of_ble_eq_true rfl, Nat.le_of_ble_eq_true rfl⟩ 5 rfl rfl [5, 6, 1, 2] [0, 3, 4] rfl rfl (by decide) (by decide) (by decide) rfl rfl (Nat.le_of_ble_eq_true rfl) ⟨Nat.le_of_ble_eq_true rfl, Nat.le_of_ble_eq_true rfl⟩ (fun  u18 w17 => ?_)
      obtain ⟨z15, z16⟩ := u18
      refine r_ws [(h2, .inr (5, [.ref h5, .ref h6, .int x10, .int x11, .long y1, .long y2, .int x12])), (h5, .inl (gB g, 400, .inl fn0)), (h6, .inl (gJ g, 2400, .inr (.inl fm1))), (h0, .inr (0, [.ref h1, .ref h2, .ref h3, .int x0, .int x1, .long z15, .int x2, .int x3, .int x4, .int x5, .ref h7, .ref h8, .ref h9, .int x6, .int z16])), (h1, .inr (6, [.ref h4, .ref h10, .int x8, .int x9])), (h3, .inr (3, [.ref h11, .ref h12, .ref h13, .ref h14, .int x13, .int x14, .int x15])), (h4, .inl (gJ g, 48, .inr (.inl fm0)))] rfl ?_
      have gz15 := fb_rngL z15
      have p19 : 0 ≤ (Int32.toInt z16) := w17.1
      have p20 : (Int32.toInt z16) ≤ 1 := w17.2
      refine r_aload_n 39 1 C dX0_endLetter_39 rfl ?_
      refine r_get 40 C dX0_endLetter_40 (k := 1) 3 rfl rfl hiX0 (by decide) rfl (mg 3 rfl) (Or.inr (mg 4 rfl)) rfl ?_
      refine r_callVi 43 C dX0_endLetter_43 [] [(h2, .inr (5, [.ref h5, .ref h6, .int x10, .int x11, .long y1, .long y2, .int x12])), (h5, .inl (gB g, 400, .inl fn0)), (h6, .inl (gJ g, 2400, .inr (.inl fm1)))] [(h0, .inr (0, [.ref h1, .ref h2, .ref h3, .int x0, .int x1, .long z15, .int x2, .int x3, .int x4, .int x5, .ref h7, .ref h8, .ref h9, .int x6, .int z16])), (h1, .inr (6, [.ref h4, .ref h10, .int x8, .int x9])), (h3, .inr (3, [.ref h11, .ref h12, .ref h13, .ref h14, .int x13, .int x14, .int x15])), (h4, .inl (gJ g, 48, .inr (.inl fm0)))] (fun sz => c290_X6_closeIfOpen l g h2 h5 h6 x10 x11 y1 y2 x12 fn0 fm1 i_x10 i_x11 i_x12 sz) gX0_endLetter_X6_closeIfOpen rfl ⟨rfl, rfl⟩ 0 (by decide) ⟨Nat.le_of_ble_eq_true rfl, Nat.le_of_ble_eq_true rfl⟩ 0 rfl rfl [0, 1, 2] [3, 4, 5, 6] rfl rfl (by decide) (by decide) (by decide) rfl rfl (Nat.le_of_ble_eq_true rfl) ⟨Nat.le_of_ble_eq_true rfl, Nat.le_of_ble_eq_true rfl⟩ (fun r24 u26 w25 => ?_)
      obtain ⟨z21, f22, f23⟩ := u26
      refine r_ws [(h0, .inr (0, [.ref h1, .ref h2, .ref h3, .int x0, .int x1, .long z15, .int x2, .int x3, .int x4, .int x5, .ref h7, .ref h8, .ref h9, .int x6, .int z16])), (h1, .inr (6, [.ref h4, .ref h10, .int x8, .int x9])), (h3, .inr (3, [.ref h11, .ref h12, .ref h13, .ref h14, .int x13, .int x14, .int x15])), (h4, .inl (gJ g, 48, .inr (.inl fm0))), (h2, .inr (5, [.ref h5, .ref h6, .int z21, .int x11, .long y1, .long y2, .int x12])), (h5, .inl (gB g, 400, .inl f22)), (h6, .inl (gJ g, 2400, .inr (.inl f23)))] rfl ?_
      have p27 : 0 ≤ (Int32.toInt r24) := w25.1
      have p28 : (Int32.toInt r24) ≤ 6 := w25.2.1
      have p29 : 0 ≤ (Int32.toInt z21) := w25.2.2.1
      have p30 : (Int32.toInt z21) ≤ 400 := w25.2.2.2
      refine r_istore_n 46 C dX0_endLetter_46 [(2, .int r24), (1, .int r6), (0, .ref h0)] (by decide) rfl ?_
      refine r_iload_n 47 0 C dX0_endLetter_47 rfl ?_
      refine r_if_ne 48 55 C dX0_endLetter_48 (by decide) (fun c31 => ?_) (fun c31 => ?_)
      · skip
        have k32 : ¬ ((Int32.toInt r24) = 0) := fun h_9 => c31 ((fa_eq r24 0).mpr h_9)
        refine r_iload_n 55 0 C dX0_endLetter_55 rfl ?_
        exact r_iret 56 Rt dX0_endLetter_56 (z15, x5, z16, z21, f22, f23) (show 0 ≤ (Int32.toInt r24) ∧ (Int32.toInt r24) ≤ 6 ∧ 0 ≤ (Int32.toInt x5) ∧ (Int32.toInt x5) ≤ 1 ∧ 0 ≤ (Int32.toInt z16) ∧ (Int32.toInt z16) ≤ 1 ∧ 0 ≤ (Int32.toInt z21) ∧ (Int32.toInt z21) ≤ 400 from ⟨(show _ ∧ _ from ⟨p27, p28⟩).1, (show _ ∧ _ from ⟨p27, p28⟩).2, i_x5.1, i_x5.2, (show _ ∧ _ from ⟨p19, p20⟩).1, (show _ ∧ _ from ⟨p19, p20⟩).2, (show _ ∧ _ from ⟨p29, p30⟩).1, (show _ ∧ _ from ⟨p29, p30⟩).2⟩) [0, 1, 4, 2, 3, 5, 6] (by decide) rfl (Nat.le_of_ble_eq_true rfl) (Nat.le_of_ble_eq_true rfl)
      · skip
        have k33 : (Int32.toInt r24) = 0 := (fa_eq r24 0).mp c31
        refine r_aload_n 51 2 C dX0_endLetter_51 rfl ?_
        refine r_callUv 52 C dX0_endLetter_52 [] [(h0, .inr (0, [.ref h1, .ref h2, .ref h3, .int x0, .int x1, .long z15, .int x2, .int x3, .int x4, .int x5, .ref h7, .ref h8, .ref h9, .int x6, .int z16]))] [(h1, .inr (6, [.ref h4, .ref h10, .int x8, .int x9])), (h3, .inr (3, [.ref h11, .ref h12, .ref h13, .ref h14, .int x13, .int x14, .int x15])), (h4, .inl (gJ g, 48, .inr (.inl fm0))), (h2, .inr (5, [.ref h5, .ref h6, .int z21, .int x11, .long y1, .long y2, .int x12])), (h5, .inl (gB g, 400, .inl f22)), (h6, .inl (gJ g, 2400, .inr (.inl f23)))] (fun sz => c293_X4_finishAll l g h0 h1 h2 h3 x0 x1 z15 x2 x3 x4 x5 h7 h8 h9 x6 z16 i_x5 i_x6 ⟨p19, p20⟩ sz) gX0_endLetter_X4_finishAll_u162X0 rfl ⟨rfl, rfl⟩ 0 rfl (by decide) ⟨Nat.le_of_ble_eq_true rfl, Nat.le_of_ble_eq_true rfl⟩ 0 rfl rfl [0] [1, 2, 3, 4, 5, 6] rfl rfl (by decide) (by decide) (by decide) rfl rfl (Nat.le_of_ble_eq_true rfl) ⟨Nat.le_of_ble_eq_true rfl, Nat.le_of_ble_eq_true rfl⟩ (fun  _ w34 => ?_)
        refine r_ws [(h1, .inr (6, [.ref h4, .ref h10, .int x8, .int x9])), (h3, .inr (3, [.ref h11, .ref h12, .ref h13, .ref h14, .int x13, .int x14, .int x15])), (h4, .inl (gJ g, 48, .inr (.inl fm0))), (h2, .inr (5, [.ref h5, .ref h6, .int z21, .int x11, .long y1, .long y2, .int x12])), (h5, .inl (gB g, 400, .inl f22)), (h6, .inl (gJ g, 2400, .inr (.inl f23))), (h0, .inr (0, [.ref h1, .ref h2, .ref h3, .int x0, .int x1, .long z15, .int x2, .int x3, .int x4, .int 1, .ref h7, .ref h8, .ref h9, .int x6, .int z16]))] rfl ?_
        refine r_iload_n 55 0 C dX0_endLetter_55 rfl ?_
        exact r_iret 56 Rt dX0_endLetter_56 (z15, 1, z16, z21, f22, f23) (show 0 ≤ (Int32.toInt r24) ∧ (Int32.toInt r24) ≤ 6 ∧ 0 ≤ (Int32.toInt 1) ∧ (Int32.toInt 1) ≤ 1 ∧ 0 ≤ (Int32.toInt z16) ∧ (Int32.toInt z16) ≤ 1 ∧ 0 ≤ (Int32.toInt z21) ∧ (Int32.toInt z21) ≤ 400 from ⟨(show _ ∧ _ from ⟨p27, p28⟩).1, (show _ ∧ _ from ⟨p27, p28⟩).2, (by ((repeat' apply And.intro) <;> first | trivial | rfl | assumption | omega | decide | exact Or.inl rfl | exact Or.inr (Or.inl rfl) | exact Or.inr (Or.inr rfl))), (by ((repeat' apply And.intro) <;> first | trivial | rfl | assumption | omega | decide | exact Or.inl rfl | exact Or.inr (Or.inl rfl) | exact Or.inr (Or.inr rfl))), (show _ ∧ _ from ⟨p19, p20⟩).1, (show _ ∧ _ from ⟨p19, p20⟩).2, (show _ ∧ _ from ⟨p29, p30⟩).1, (show _ ∧ _ from ⟨p29, p30⟩).2⟩) [6, 0, 3, 1, 2, 4, 5] (by decide) rfl (Nat.le_of_ble_eq_true rfl) (Nat.le_of_ble_eq_true rfl)
    · skip
      have k35 : ¬ ((Int32.toInt x8) = (Int32.toInt r6)) := fun h_9 => c13 ((fa_eq x8 r6).mpr h_9)
      refine r_iconst 32 2 C dX0_endLetter_32 (by decide) ?_
      exact r_iret 33 Rt dX0_endLetter_33 (y0, x5, x7, x10, fn0, fm1) (show 0 ≤ (Int32.toInt 2) ∧ (Int32.toInt 2) ≤ 6 ∧ 0 ≤ (Int32.toInt x5) ∧ (Int32.toInt x5) ≤ 1 ∧ 0 ≤ (Int32.toInt x7) ∧ (Int32.toInt x7) ≤ 1 ∧ 0 ≤ (Int32.toInt x10) ∧ (Int32.toInt x10) ≤ 400 from ⟨(by ((repeat' apply And.intro) <;> first | trivial | rfl | assumption | omega | decide | exact Or.inl rfl | exact Or.inr (Or.inl rfl) | exact Or.inr (Or.inr rfl))), (by ((repeat' apply And.intro) <;> first | trivial | rfl | assumption | omega | decide | exact Or.inl rfl | exact Or.inr (Or.inl rfl) | exact Or.inr (Or.inr rfl))), i_x5.1, i_x5.2, i_x7.1, i_x7.2, i_x10.1, i_x10.2⟩) [5, 6, 0, 1, 2, 3, 4] (by decide) rfl (Nat.le_of_ble_eq_true rfl) (Nat.le_of_ble_eq_true rfl)
  · skip
    have k36 : (Int32.toInt x8) = 1 := (fa_eq x8 1).mp c4
    refine r_iconst 12 1 C dX0_endLetter_12 (by decide) ?_
    refine r_goto 13 17 C dX0_endLetter_13 (by decide) ?_
    refine r_callVi 17 C dX0_endLetter_17 [] [(h0, .inr (0, [.ref h1, .ref h2, .ref h3, .int x0, .int x1, .long y0, .int x2, .int x3, .int x4, .int x5, .ref h7, .ref h8, .ref h9, .int x6, .int x7]))] [(h2, .inr (5, [.ref h5, .ref h6, .int x10, .int x11, .long y1, .long y2, .int x12])), (h3, .inr (3, [.ref h11, .ref h12, .ref h13, .ref h14, .int x13, .int x14, .int x15])), (h4, .inl (gJ g, 48, .inr (.inl fm0))), (h5, .inl (gB g, 400, .inl fn0)), (h6, .inl (gJ g, 2400, .inr (.inl fm1))), (h1, .inr (6, [.ref h4, .ref h10, .int x8, .int x9]))] (fun sz => c288_X0_widthsShare l g h0 1 h1 h2 h3 x0 x1 y0 x2 x3 x4 x5 h7 h8 h9 x6 x7 (by decide) i_x5 i_x6 i_x7 sz) gX0_endLetter_X0_widthsShare rfl ⟨rfl, rfl⟩ 1 (by decide) ⟨Nat.le_of_ble_eq_true rfl, Nat.le_of_ble_eq_true rfl⟩ 0 rfl rfl [0] [1, 2, 3, 4, 5, 6] rfl rfl (by decide) (by decide) (by decide) rfl rfl (Nat.le_of_ble_eq_true rfl) ⟨Nat.le_of_ble_eq_true rfl, Nat.le_of_ble_eq_true rfl⟩ (fun r37 _ w38 => ?_)
    refine r_ws [(h2, .inr (5, [.ref h5, .ref h6, .int x10, .int x11, .long y1, .long y2, .int x12])), (h3, .inr (3, [.ref h11, .ref h12, .ref h13, .ref h14, .int x13, .int x14, .int x15])), (h4, .inl (gJ g, 48, .inr (.inl fm0))), (h5, .inl (gB g, 400, .inl fn0)), (h6, .inl (gJ g, 2400, .inr (.inl fm1))), (h1, .inr (6, [.ref h4, .ref h10, .int x8, .int x9])), (h0, .inr (0, [.ref h1, .ref h2, .ref h3, .int x0, .int x1, .long y0, .int x2, .int x3, .int x4, .int x5, .ref h7, .ref h8, .ref h9, .int x6, .int x7]))] rfl ?_
    have p39 : 0 ≤ (Int32.toInt r37) := w38.1
    have p40 : (Int32.toInt r37) ≤ 1 := w38.2
    refine r_istore_n 20 C dX0_endLetter_20 [(1, .int r37), (0, .ref h0)] (by decide) rfl ?_
    refine r_aload_n 21 1 C dX0_endLetter_21 rfl ?_
    refine r_get 22 C dX0_endLetter_22 (k := 0) 6 rfl rfl hiX0 (by decide) rfl (mg 1 rfl) (Or.inr (mg 2 rfl)) rfl ?_
    refine r_callVi 25 C dX0_endLetter_25 [] [(h1, .inr (6, [.ref h4, .ref h10, .int x8, .int x9]))] [(h2, .inr (5, [.ref h5, .ref h6, .int x10, .int x11, .long y1, .long y2, .int x12])), (h3, .inr (3, [.ref h11, .ref h12, .ref h13, .ref h14, .int x13, .int x14, .int x15])), (h4, .inl (gJ g, 48, .inr (.inl fm0))), (h5, .inl (gB g, 400, .inl fn0)), (h6, .inl (gJ g, 2400, .inr (.inl fm1))), (h0, .inr (0, [.ref h1, .ref h2, .ref h3, .int x0, .int x1, .long y0, .int x2, .int x3, .int x4, .int x5, .ref h7, .ref h8, .ref h9, .int x6, .int x7]))] (fun sz => c231_X7_size l g h1 h4 h10 x8 x9 i_x8 i_x9 sz) gX0_endLetter_X7_size rfl ⟨rfl, rfl⟩ 0 (by decide) ⟨Nat.le_of_ble_eq_true rfl, Nat.le_of_ble_eq_true rfl⟩ 5 rfl rfl [5] [0, 1, 2, 3, 4, 6] rfl rfl (by decide) (by decide) (by decide) rfl rfl (Nat.le_of_ble_eq_true rfl) ⟨Nat.le_of_ble_eq_true rfl, Nat.le_of_ble_eq_true rfl⟩ (fun r41 _ w42 => ?_)
    refine r_ws [(h2, .inr (5, [.ref h5, .ref h6, .int x10, .int x11, .long y1, .long y2, .int x12])), (h3, .inr (3, [.ref h11, .ref h12, .ref h13, .ref h14, .int x13, .int x14, .int x15])), (h4, .inl (gJ g, 48, .inr (.inl fm0))), (h5, .inl (gB g, 400, .inl fn0)), (h6, .inl (gJ g, 2400, .inr (.inl fm1))), (h0, .inr (0, [.ref h1, .ref h2, .ref h3, .int x0, .int x1, .long y0, .int x2, .int x3, .int x4, .int x5, .ref h7, .ref h8, .ref h9, .int x6, .int x7])), (h1, .inr (6, [.ref h4, .ref h10, .int x8, .int x9]))] rfl ?_
    have p43 : x8 = r41 := (w42).symm
    subst p43
    refine r_iload_n 28 0 C dX0_endLetter_28 rfl ?_
    refine r_icmp_eq 29 34 C dX0_endLetter_29 (by decide) (fun c44 => ?_) (fun c44 => ?_)
    · skip
      have k45 : (Int32.toInt x8) = (Int32.toInt r37) := (fa_eq x8 r37).mp c44
      refine r_aload_n 34 1 C dX0_endLetter_34 rfl ?_
      refine r_iload_n 35 0 C dX0_endLetter_35 rfl ?_
      refine r_callVv 36 C dX0_endLetter_36 [] [(h0, .inr (0, [.ref h1, .ref h2, .ref h3, .int x0, .int x1, .long y0, .int x2, .int x3, .int x4, .int x5, .ref h7, .ref h8, .ref h9, .int x6, .int x7])), (h1, .inr (6, [.ref h4, .ref h10, .int x8, .int x9])), (h3, .inr (3, [.ref h11, .ref h12, .ref h13, .ref h14, .int x13, .int x14, .int x15])), (h4, .inl (gJ g, 48, .inr (.inl fm0)))] [(h2, .inr (5, [.ref h5, .ref h6, .int x10, .int x11, .long y1, .long y2, .int x12])), (h5, .inl (gB g, 400, .inl fn0)), (h6, .inl (gJ g, 2400, .inr (.inl fm1)))] (fun sz => c289_X0_tellWidth l g h0 h1 h3 h4 r37 h2 x0 x1 y0 x2 x3 x4 x5 h7 h8 h9 x6 x7 h10 x8 x9 h11 h12 h13 h14 x13 x14 x15 fm0 i_x5 i_x6 i_x7 i_x8 i_x9 sz) gX0_endLetter_X0_tellWidth rfl ⟨rfl, rfl⟩ 1 (by decide) ⟨Nat.le_of_ble_eq_true rfl, Nat.le_of_ble_eq_true rfl⟩ 5 rfl rfl [5, 6, 1, 2] [0, 3, 4] rfl rfl (by decide) (by decide) (by decide) rfl rfl (Nat.le_of_ble_eq_true rfl) ⟨Nat.le_of_ble_eq_true rfl, Nat.le_of_ble_eq_true rfl⟩ (fun  u49 w48 => ?_)
      obtain ⟨z46, z47⟩ := u49
      refine r_ws [(h2, .inr (5, [.ref h5, .ref h6, .int x10, .int x11, .long y1, .long y2, .int x12])), (h5, .inl (gB g, 400, .inl fn0)), (h6, .inl (gJ g, 2400, .inr (.inl fm1))), (h0, .inr (0, [.ref h1, .ref h2, .ref h3, .int x0, .int x1, .long z46, .int x2, .int x3, .int x4, .int x5, .ref h7, .ref h8, .ref h9, .int x6, .int z47])), (h1, .inr (6, [.ref h4, .ref h10, .int x8, .int x9])), (h3, .inr (3, [.ref h11, .ref h12, .ref h13, .ref h14, .int x13, .int x14, .int x15])), (h4, .inl (gJ g, 48, .inr (.inl fm0)))] rfl ?_
      have gz46 := fb_rngL z46
      have p50 : 0 ≤ (Int32.toInt z47) := w48.1
      have p51 : (Int32.toInt z47) ≤ 1 := w48.2
      refine r_aload_n 39 1 C dX0_endLetter_39 rfl ?_
      refine r_get 40 C dX0_endLetter_40 (k := 1) 3 rfl rfl hiX0 (by decide) rfl (mg 3 rfl) (Or.inr (mg 4 rfl)) rfl ?_
      refine r_callVi 43 C dX0_endLetter_43 [] [(h2, .inr (5, [.ref h5, .ref h6, .int x10, .int x11, .long y1, .long y2, .int x12])), (h5, .inl (gB g, 400, .inl fn0)), (h6, .inl (gJ g, 2400, .inr (.inl fm1)))] [(h0, .inr (0, [.ref h1, .ref h2, .ref h3, .int x0, .int x1, .long z46, .int x2, .int x3, .int x4, .int x5, .ref h7, .ref h8, .ref h9, .int x6, .int z47])), (h1, .inr (6, [.ref h4, .ref h10, .int x8, .int x9])), (h3, .inr (3, [.ref h11, .ref h12, .ref h13, .ref h14, .int x13, .int x14, .int x15])), (h4, .inl (gJ g, 48, .inr (.inl fm0)))] (fun sz => c290_X6_closeIfOpen l g h2 h5 h6 x10 x11 y1 y2 x12 fn0 fm1 i_x10 i_x11 i_x12 sz) gX0_endLetter_X6_closeIfOpen rfl ⟨rfl, rfl⟩ 0 (by decide) ⟨Nat.le_of_ble_eq_true rfl, Nat.le_of_ble_eq_true rfl⟩ 0 rfl rfl [0, 1, 2] [3, 4, 5, 6] rfl rfl (by decide) (by decide) (by decide) rfl rfl (Nat.le_of_ble_eq_true rfl) ⟨Nat.le_of_ble_eq_true rfl, Nat.le_of_ble_eq_true rfl⟩ (fun r55 u57 w56 => ?_)
      obtain ⟨z52, f53, f54⟩ := u57
      refine r_ws [(h0, .inr (0, [.ref h1, .ref h2, .ref h3, .int x0, .int x1, .long z46, .int x2, .int x3, .int x4, .int x5, .ref h7, .ref h8, .ref h9, .int x6, .int z47])), (h1, .inr (6, [.ref h4, .ref h10, .int x8, .int x9])), (h3, .inr (3, [.ref h11, .ref h12, .ref h13, .ref h14, .int x13, .int x14, .int x15])), (h4, .inl (gJ g, 48, .inr (.inl fm0))), (h2, .inr (5, [.ref h5, .ref h6, .int z52, .int x11, .long y1, .long y2, .int x12])), (h5, .inl (gB g, 400, .inl f53)), (h6, .inl (gJ g, 2400, .inr (.inl f54)))] rfl ?_
      have p58 : 0 ≤ (Int32.toInt r55) := w56.1
      have p59 : (Int32.toInt r55) ≤ 6 := w56.2.1
      have p60 : 0 ≤ (Int32.toInt z52) := w56.2.2.1
      have p61 : (Int32.toInt z52) ≤ 400 := w56.2.2.2
      refine r_istore_n 46 C dX0_endLetter_46 [(2, .int r55), (1, .int r37), (0, .ref h0)] (by decide) rfl ?_
      refine r_iload_n 47 0 C dX0_endLetter_47 rfl ?_
      refine r_if_ne 48 55 C dX0_endLetter_48 (by decide) (fun c62 => ?_) (fun c62 => ?_)
      · skip
        have k63 : ¬ ((Int32.toInt r55) = 0) := fun h_9 => c62 ((fa_eq r55 0).mpr h_9)
        refine r_iload_n 55 0 C dX0_endLetter_55 rfl ?_
        exact r_iret 56 Rt dX0_endLetter_56 (z46, x5, z47, z52, f53, f54) (show 0 ≤ (Int32.toInt r55) ∧ (Int32.toInt r55) ≤ 6 ∧ 0 ≤ (Int32.toInt x5) ∧ (Int32.toInt x5) ≤ 1 ∧ 0 ≤ (Int32.toInt z47) ∧ (Int32.toInt z47) ≤ 1 ∧ 0 ≤ (Int32.toInt z52) ∧ (Int32.toInt z52) ≤ 400 from ⟨(show _ ∧ _ from ⟨p58, p59⟩).1, (show _ ∧ _ from ⟨p58, p59⟩).2, i_x5.1, i_x5.2, (show _ ∧ _ from ⟨p50, p51⟩).1, (show _ ∧ _ from ⟨p50, p51⟩).2, (show _ ∧ _ from ⟨p60, p61⟩).1, (show _ ∧ _ from ⟨p60, p61⟩).2⟩) [0, 1, 4, 2, 3, 5, 6] (by decide) rfl (Nat.le_of_ble_eq_true rfl) (Nat.le_of_ble_eq_true rfl)
      · skip
        have k64 : (Int32.toInt r55) = 0 := (fa_eq r55 0).mp c62
        refine r_aload_n 51 2 C dX0_endLetter_51 rfl ?_
        refine r_callUv 52 C dX0_endLetter_52 [] [(h0, .inr (0, [.ref h1, .ref h2, .ref h3, .int x0, .int x1, .long z46, .int x2, .int x3, .int x4, .int x5, .ref h7, .ref h8, .ref h9, .int x6, .int z47]))] [(h1, .inr (6, [.ref h4, .ref h10, .int x8, .int x9])), (h3, .inr (3, [.ref h11, .ref h12, .ref h13, .ref h14, .int x13, .int x14, .int x15])), (h4, .inl (gJ g, 48, .inr (.inl fm0))), (h2, .inr (5, [.ref h5, .ref h6, .int z52, .int x11, .long y1, .long y2, .int x12])), (h5, .inl (gB g, 400, .inl f53)), (h6, .inl (gJ g, 2400, .inr (.inl f54)))] (fun sz => c293_X4_finishAll l g h0 h1 h2 h3 x0 x1 z46 x2 x3 x4 x5 h7 h8 h9 x6 z47 i_x5 i_x6 ⟨p50, p51⟩ sz) gX0_endLetter_X4_finishAll_u162X0 rfl ⟨rfl, rfl⟩ 0 rfl (by decide) ⟨Nat.le_of_ble_eq_true rfl, Nat.le_of_ble_eq_true rfl⟩ 0 rfl rfl [0] [1, 2, 3, 4, 5, 6] rfl rfl (by decide) (by decide) (by decide) rfl rfl (Nat.le_of_ble_eq_true rfl) ⟨Nat.le_of_ble_eq_true rfl, Nat.le_of_ble_eq_true rfl⟩ (fun  _ w65 => ?_)
        refine r_ws [(h1, .inr (6, [.ref h4, .ref h10, .int x8, .int x9])), (h3, .inr (3, [.ref h11, .ref h12, .ref h13, .ref h14, .int x13, .int x14, .int x15])), (h4, .inl (gJ g, 48, .inr (.inl fm0))), (h2, .inr (5, [.ref h5, .ref h6, .int z52, .int x11, .long y1, .long y2, .int x12])), (h5, .inl (gB g, 400, .inl f53)), (h6, .inl (gJ g, 2400, .inr (.inl f54))), (h0, .inr (0, [.ref h1, .ref h2, .ref h3, .int x0, .int x1, .long z46, .int x2, .int x3, .int x4, .int 1, .ref h7, .ref h8, .ref h9, .int x6, .int z47]))] rfl ?_
        refine r_iload_n 55 0 C dX0_endLetter_55 rfl ?_
        exact r_iret 56 Rt dX0_endLetter_56 (z46, 1, z47, z52, f53, f54) (show 0 ≤ (Int32.toInt r55) ∧ (Int32.toInt r55) ≤ 6 ∧ 0 ≤ (Int32.toInt 1) ∧ (Int32.toInt 1) ≤ 1 ∧ 0 ≤ (Int32.toInt z47) ∧ (Int32.toInt z47) ≤ 1 ∧ 0 ≤ (Int32.toInt z52) ∧ (Int32.toInt z52) ≤ 400 from ⟨(show _ ∧ _ from ⟨p58, p59⟩).1, (show _ ∧ _ from ⟨p58, p59⟩).2, (by ((repeat' apply And.intro) <;> first | trivial | rfl | assumption | omega | decide | exact Or.inl rfl | exact Or.inr (Or.inl rfl) | exact Or.inr (Or.inr rfl))), (by ((repeat' apply And.intro) <;> first | trivial | rfl | assumption | omega | decide | exact Or.inl rfl | exact Or.inr (Or.inl rfl) | exact Or.inr (Or.inr rfl))), (show _ ∧ _ from ⟨p50, p51⟩).1, (show _ ∧ _ from ⟨p50, p51⟩).2, (show _ ∧ _ from ⟨p60, p61⟩).1, (show _ ∧ _ from ⟨p60, p61⟩).2⟩) [6, 0, 3, 1, 2, 4, 5] (by decide) rfl (Nat.le_of_ble_eq_true rfl) (Nat.le_of_ble_eq_true rfl)
    · skip
      have k66 : ¬ ((Int32.toInt x8) = (Int32.toInt r37)) := fun h_9 => c44 ((fa_eq x8 r37).mpr h_9)
      refine r_iconst 32 2 C dX0_endLetter_32 (by decide) ?_
      exact r_iret 33 Rt dX0_endLetter_33 (y0, x5, x7, x10, fn0, fm1) (show 0 ≤ (Int32.toInt 2) ∧ (Int32.toInt 2) ≤ 6 ∧ 0 ≤ (Int32.toInt x5) ∧ (Int32.toInt x5) ≤ 1 ∧ 0 ≤ (Int32.toInt x7) ∧ (Int32.toInt x7) ≤ 1 ∧ 0 ≤ (Int32.toInt x10) ∧ (Int32.toInt x10) ≤ 400 from ⟨(by ((repeat' apply And.intro) <;> first | trivial | rfl | assumption | omega | decide | exact Or.inl rfl | exact Or.inr (Or.inl rfl) | exact Or.inr (Or.inr rfl))), (by ((repeat' apply And.intro) <;> first | trivial | rfl | assumption | omega | decide | exact Or.inl rfl | exact Or.inr (Or.inl rfl) | exact Or.inr (Or.inr rfl))), i_x5.1, i_x5.2, i_x7.1, i_x7.2, i_x10.1, i_x10.2⟩) [5, 6, 0, 1, 2, 3, 4] (by decide) rfl (Nat.le_of_ble_eq_true rfl) (Nat.le_of_ble_eq_true rfl)
set_option maxHeartbeats 4000000 in
set_option maxRecDepth 100000 in
theorem c295_X4_skipBytes (l : Launch) (g : GD) (h0 : Nat) (x0 : Int32) (h1 : Nat) (h2 : Nat) (h3 : Nat) (x1 : Int32) (x2 : Int32) (y0 : Int64) (x3 : Int32) (x4 : Int32) (x5 : Int32) (x6 : Int32) (h4 : Nat) (h5 : Nat) (h6 : Nat) (x7 : Int32) (x8 : Int32) (i_x6 : (0 ≤ (Int32.toInt x6) ∧ (Int32.toInt x6) ≤ 1)) (i_x7 : (0 ≤ (Int32.toInt x7) ∧ (Int32.toInt x7) ≤ 10)) (i_x8 : (0 ≤ (Int32.toInt x8) ∧ (Int32.toInt x8) ≤ 1)) (sz : Nat) : Met l yX4_skipBytes wsX4_skipBytes ({ frames := 1, cells := 0, slots := 0, locals := 15 }) (va_Pc [.ref h0, .int x0] (PW g [(h0, .inr (0, [.ref h1, .ref h2, .ref h3, .int x1, .int x2, .long y0, .int x3, .int x4, .int x5, .int x6, .ref h4, .ref h5, .ref h6, .int x7, .int x8]))] sz)) (va_Qi (fun (r : Int32) (u : (Int32)) => 0 ≤ (Int32.toInt r) ∧ (Int32.toInt r) ≤ 1) (BW g (va_A [(h0, .inr (0, [.ref h1, .ref h2, .ref h3, .int x1, .int x2, .long y0, .int x3, .int x4, .int x5, .int x6, .ref h4, .ref h5, .ref h6, .int x7, .int x8]))] sz) (fun u : (Int32) => [(h0, .inr (0, [.ref h1, .ref h2, .ref h3, .int x1, .int x2, .long y0, .int x3, .int x4, .int u, .int x6, .ref h4, .ref h5, .ref h6, .int x7, .int x8]))])) (va_A [(h0, .inr (0, [.ref h1, .ref h2, .ref h3, .int x1, .int x2, .long y0, .int x3, .int x4, .int x5, .int x6, .ref h4, .ref h5, .ref h6, .int x7, .int x8]))] sz)) 0 0 (va_A [(h0, .inr (0, [.ref h1, .ref h2, .ref h3, .int x1, .int x2, .long y0, .int x3, .int x4, .int x5, .int x6, .ref h4, .ref h5, .ref h6, .int x7, .int x8]))] sz) := by
  refine met_z RX4 (by decide) rfl rfl (Nat.le_of_ble_eq_true rfl) [(0, .ref h0), (1, .int x0)] rfl ?_
  intro p e s m args below meth c A Q C hnm Rt
  have gx0 := fb_rng x0
  have hiX0 : ∀ w ∈ wsX00, w ∈ wsX4_skipBytes := fun w h => List.mem_cons_of_mem _ (List.mem_append_left _ (List.mem_append_right _ (h)))
  refine r_aload_n 0 0 C dX4_skipBytes_0 rfl ?_
  refine r_get 1 C dX4_skipBytes_1 (k := 7) 0 rfl rfl hiX0 (by decide) rfl (mg 1 rfl) (Or.inl rfl) rfl ?_
  refine r_aload_n 4 0 C dX4_skipBytes_4 rfl ?_
  refine r_get 5 C dX4_skipBytes_5 (k := 8) 0 rfl rfl hiX0 (by decide) rfl (mg 2 rfl) (Or.inl rfl) rfl ?_
  obtain ⟨z1, ez1⟩ : ∃ z_9, x4 - x5 = z_9 := ⟨_, rfl⟩
  have gz1 := fb_rng z1
  refine r_isub 8 z1 C dX4_skipBytes_8 ez1 ?_
  refine r_istore_n 9 C dX4_skipBytes_9 [(2, .int z1), (0, .ref h0), (1, .int x0)] (by decide) rfl ?_
  refine r_aload_n 10 1 C dX4_skipBytes_10 rfl ?_
  refine r_dup 11 C dX4_skipBytes_11 rfl ?_
  refine r_get 12 C dX4_skipBytes_12 (k := 8) 0 rfl rfl hiX0 (by decide) rfl (mg 2 rfl) (Or.inl rfl) rfl ?_
  refine r_iload_n 15 2 C dX4_skipBytes_15 rfl ?_
  refine r_iload_n 16 0 C dX4_skipBytes_16 rfl ?_
  obtain ⟨z2, ez2⟩ : ∃ z_9, (if z1 < x0 then z1 else x0) = z_9 := ⟨_, rfl⟩
  have tz2 : ((Int32.toInt z1) < (Int32.toInt x0) ∧ (Int32.toInt z2) = (Int32.toInt z1)) ∨ (¬ ((Int32.toInt z1) < (Int32.toInt x0)) ∧ (Int32.toInt z2) = (Int32.toInt x0)) := by rw [← ez2]; exact mx_or z1 x0 z1 x0
  refine r_mmin 17 z2 C dX4_skipBytes_17 (mg 3 rfl) (mg 4 rfl) (mg 5 rfl) (mg 6 rfl) (Nat.le_of_ble_eq_true rfl) (Nat.le_of_ble_eq_true rfl) (Nat.le_of_ble_eq_true rfl) (Nat.le_of_ble_eq_true rfl) ez2 ?_
  obtain ⟨z3, ez3⟩ : ∃ z_9, x5 + z2 = z_9 := ⟨_, rfl⟩
  have gz3 := fb_rng z3
  refine r_iadd 20 z3 C dX4_skipBytes_20 ez3 ?_
  refine r_put 21 C dX4_skipBytes_21 (k := 8) 0 rfl rfl hiX0 tyX0 tyX0_ok nmX0 (by decide) rfl (mg 2 rfl) (Or.inl rfl) rfl rfl rfl rfl (Nat.le_of_ble_eq_true rfl) [(h0, .inr (0, [.ref h1, .ref h2, .ref h3, .int x1, .int x2, .long y0, .int x3, .int x4, .int z3, .int x6, .ref h4, .ref h5, .ref h6, .int x7, .int x8]))] rfl ?_
  refine r_iload_n 24 2 C dX4_skipBytes_24 rfl ?_
  refine r_iload_n 25 0 C dX4_skipBytes_25 rfl ?_
  refine r_icmp_gt 26 33 C dX4_skipBytes_26 (by decide) (fun c4 => ?_) (fun c4 => ?_)
  · skip
    have k5 : (Int32.toInt z1) < (Int32.toInt x0) := (fa_lt z1 x0).mp c4
    refine r_iconst 33 0 C dX4_skipBytes_33 (by decide) ?_
    exact r_zret 34 Rt dX4_skipBytes_34 (by decide) z3 (show 0 ≤ (Int32.toInt 0) ∧ (Int32.toInt 0) ≤ 1 from ⟨(by ((repeat' apply And.intro) <;> first | trivial | rfl | assumption | omega | decide | exact Or.inl rfl | exact Or.inr (Or.inl rfl) | exact Or.inr (Or.inr rfl))), (by ((repeat' apply And.intro) <;> first | trivial | rfl | assumption | omega | decide | exact Or.inl rfl | exact Or.inr (Or.inl rfl) | exact Or.inr (Or.inr rfl)))⟩) [0] (by decide) rfl (Nat.le_of_ble_eq_true rfl) (Nat.le_of_ble_eq_true rfl)
  · skip
    have k6 : ¬ ((Int32.toInt z1) < (Int32.toInt x0)) := fun h_9 => c4 ((fa_lt z1 x0).mpr h_9)
    refine r_iconst 29 1 C dX4_skipBytes_29 (by decide) ?_
    refine r_goto 30 34 C dX4_skipBytes_30 (by decide) ?_
    exact r_zret 34 Rt dX4_skipBytes_34 (by decide) z3 (show 0 ≤ (Int32.toInt 1) ∧ (Int32.toInt 1) ≤ 1 from ⟨(by ((repeat' apply And.intro) <;> first | trivial | rfl | assumption | omega | decide | exact Or.inl rfl | exact Or.inr (Or.inl rfl) | exact Or.inr (Or.inr rfl))), (by ((repeat' apply And.intro) <;> first | trivial | rfl | assumption | omega | decide | exact Or.inl rfl | exact Or.inr (Or.inl rfl) | exact Or.inr (Or.inr rfl)))⟩) [0] (by decide) rfl (Nat.le_of_ble_eq_true rfl) (Nat.le_of_ble_eq_true rfl)
set_option maxHeartbeats 4000000 in
set_option maxRecDepth 100000 in
theorem c296_X0_mask (l : Launch) (g : GD) (h0 : Nat) (h1 : Nat) (h2 : Nat) (h3 : Nat) (h4 : Nat) (x0 : Int32) (x1 : Int32) (y0 : Int64) (x2 : Int32) (x3 : Int32) (x4 : Int32) (x5 : Int32) (h5 : Nat) (h6 : Nat) (h7 : Nat) (x6 : Int32) (x7 : Int32) (h8 : Nat) (x8 : Int32) (x9 : Int32) (h9 : Nat) (h10 : Nat) (h11 : Nat) (h12 : Nat) (x10 : Int32) (x11 : Int32) (x12 : Int32) (fm0 : Nat → Int64) (i_x5 : (0 ≤ (Int32.toInt x5) ∧ (Int32.toInt x5) ≤ 1)) (i_x6 : (0 ≤ (Int32.toInt x6) ∧ (Int32.toInt x6) ≤ 10)) (i_x7 : (0 ≤ (Int32.toInt x7) ∧ (Int32.toInt x7) ≤ 1)) (i_x8 : (0 ≤ (Int32.toInt x8) ∧ (Int32.toInt x8) ≤ 48)) (i_x9 : (0 ≤ (Int32.toInt x9) ∧ (Int32.toInt x9) ≤ 48)) (sz : Nat) : Met l yX0_mask wsX0_mask ({ frames := 2, cells := 0, slots := 0, locals := 42 }) (va_Pc [.ref h0] (PW g [(h0, .inr (0, [.ref h1, .ref h4, .ref h2, .int x0, .int x1, .long y0, .int x2, .int x3, .int x4, .int x5, .ref h5, .ref h6, .ref h7, .int x6, .int x7])), (h1, .inr (6, [.ref h3, .ref h8, .int x8, .int x9])), (h2, .inr (3, [.ref h9, .ref h10, .ref h11, .ref h12, .int x10, .int x11, .int x12])), (h3, .inl (gJ g, 48, .inr (.inl fm0)))] sz)) (va_Qi (fun (r : Int32) (u : (Int32) × (Int64) × (Int32) × (Int32)) => 0 ≤ (Int32.toInt r) ∧ (Int32.toInt r) ≤ 7 ∧ 0 ≤ (Int32.toInt (u.2.2.2)) ∧ (Int32.toInt (u.2.2.2)) ≤ 1) (BW g (va_A [(h0, .inr (0, [.ref h1, .ref h4, .ref h2, .int x0, .int x1, .long y0, .int x2, .int x3, .int x4, .int x5, .ref h5, .ref h6, .ref h7, .int x6, .int x7])), (h1, .inr (6, [.ref h3, .ref h8, .int x8, .int x9])), (h2, .inr (3, [.ref h9, .ref h10, .ref h11, .ref h12, .int x10, .int x11, .int x12])), (h3, .inl (gJ g, 48, .inr (.inl fm0)))] sz) (fun u : (Int32) × (Int64) × (Int32) × (Int32) => [(h0, .inr (0, [.ref h1, .ref h4, .ref h2, .int x0, .int u.1, .long u.2.1, .int x2, .int x3, .int u.2.2.1, .int x5, .ref h5, .ref h6, .ref h7, .int x6, .int u.2.2.2])), (h1, .inr (6, [.ref h3, .ref h8, .int x8, .int x9])), (h2, .inr (3, [.ref h9, .ref h10, .ref h11, .ref h12, .int x10, .int x11, .int x12])), (h3, .inl (gJ g, 48, .inr (.inl fm0)))])) (va_A [(h0, .inr (0, [.ref h1, .ref h4, .ref h2, .int x0, .int x1, .long y0, .int x2, .int x3, .int x4, .int x5, .ref h5, .ref h6, .ref h7, .int x6, .int x7])), (h1, .inr (6, [.ref h3, .ref h8, .int x8, .int x9])), (h2, .inr (3, [.ref h9, .ref h10, .ref h11, .ref h12, .int x10, .int x11, .int x12])), (h3, .inl (gJ g, 48, .inr (.inl fm0)))] sz)) 0 0 (va_A [(h0, .inr (0, [.ref h1, .ref h4, .ref h2, .int x0, .int x1, .long y0, .int x2, .int x3, .int x4, .int x5, .ref h5, .ref h6, .ref h7, .int x6, .int x7])), (h1, .inr (6, [.ref h3, .ref h8, .int x8, .int x9])), (h2, .inr (3, [.ref h9, .ref h10, .ref h11, .ref h12, .int x10, .int x11, .int x12])), (h3, .inl (gJ g, 48, .inr (.inl fm0)))] sz) := by
  refine met_i RX0 (by decide) rfl rfl (Nat.le_of_ble_eq_true rfl) [(0, .ref h0)] rfl ?_
  intro p e s m args below meth c A Q C hnm Rt
  have hiX0 : ∀ w ∈ wsX00, w ∈ wsX0_mask := fun w h => List.mem_cons_of_mem _ (List.mem_append_left _ (List.mem_append_left _ (List.mem_append_left _ (List.mem_append_right _ (h)))))
  refine r_aload_n 0 0 C dX0_mask_0 rfl ?_
  refine r_get 1 C dX0_mask_1 (k := 0) 0 rfl rfl hiX0 (by decide) rfl (mg 1 rfl) (Or.inr (mg 2 rfl)) rfl ?_
  refine r_callVi 4 C dX0_mask_4 [] [(h1, .inr (6, [.ref h3, .ref h8, .int x8, .int x9]))] [(h0, .inr (0, [.ref h1, .ref h4, .ref h2, .int x0, .int x1, .long y0, .int x2, .int x3, .int x4, .int x5, .ref h5, .ref h6, .ref h7, .int x6, .int x7])), (h2, .inr (3, [.ref h9, .ref h10, .ref h11, .ref h12, .int x10, .int x11, .int x12])), (h3, .inl (gJ g, 48, .inr (.inl fm0)))] (fun sz => c231_X7_size l g h1 h3 h8 x8 x9 i_x8 i_x9 sz) gX0_mask_X7_size rfl ⟨rfl, rfl⟩ 0 (by decide) ⟨Nat.le_of_ble_eq_true rfl, Nat.le_of_ble_eq_true rfl⟩ 1 rfl rfl [1] [0, 2, 3] rfl rfl (by decide) (by decide) (by decide) rfl rfl (Nat.le_of_ble_eq_true rfl) ⟨Nat.le_of_ble_eq_true rfl, Nat.le_of_ble_eq_true rfl⟩ (fun r1 _ w2 => ?_)
  refine r_ws [(h0, .inr (0, [.ref h1, .ref h4, .ref h2, .int x0, .int x1, .long y0, .int x2, .int x3, .int x4, .int x5, .ref h5, .ref h6, .ref h7, .int x6, .int x7])), (h2, .inr (3, [.ref h9, .ref h10, .ref h11, .ref h12, .int x10, .int x11, .int x12])), (h3, .inl (gJ g, 48, .inr (.inl fm0))), (h1, .inr (6, [.ref h3, .ref h8, .int x8, .int x9]))] rfl ?_
  have p3 : x8 = r1 := (w2).symm
  subst p3
  refine r_istore_n 7 C dX0_mask_7 [(1, .int x8), (0, .ref h0)] (by decide) rfl ?_
  refine r_aload_n 8 1 C dX0_mask_8 rfl ?_
  refine r_iload_n 9 0 C dX0_mask_9 rfl ?_
  refine r_iconst 10 2 C dX0_mask_10 (by decide) ?_
  obtain ⟨z4, ez4⟩ : ∃ z_9, x8 - x8 / 2 * 2 = z_9 := ⟨_, rfl⟩
  have tz4 : (Int32.toInt z4) = (Int32.toInt x8) % 2 := by rw [← ez4]; exact rem_nn (by omega) (n := 2) (by decide) (by decide)
  refine r_irem 11 z4 C dX0_mask_11 (by decide) ez4 ?_
  refine r_iconst 12 1 C dX0_mask_12 (by decide) ?_
  refine r_icmp_ne 13 20 C dX0_mask_13 (by decide) (fun c5 => ?_) (fun c5 => ?_)
  · skip
    have k6 : ¬ ((Int32.toInt z4) = 1) := fun h_9 => c5 ((fa_eq z4 1).mpr h_9)
    refine r_iconst 20 0 C dX0_mask_20 (by decide) ?_
    refine r_callVi 21 C dX0_mask_21 [] [(h0, .inr (0, [.ref h1, .ref h4, .ref h2, .int x0, .int x1, .long y0, .int x2, .int x3, .int x4, .int x5, .ref h5, .ref h6, .ref h7, .int x6, .int x7]))] [(h2, .inr (3, [.ref h9, .ref h10, .ref h11, .ref h12, .int x10, .int x11, .int x12])), (h3, .inl (gJ g, 48, .inr (.inl fm0))), (h1, .inr (6, [.ref h3, .ref h8, .int x8, .int x9]))] (fun sz => c288_X0_widthsShare l g h0 0 h1 h4 h2 x0 x1 y0 x2 x3 x4 x5 h5 h6 h7 x6 x7 (by decide) i_x5 i_x6 i_x7 sz) gX0_mask_X0_widthsShare rfl ⟨rfl, rfl⟩ 1 (by decide) ⟨Nat.le_of_ble_eq_true rfl, Nat.le_of_ble_eq_true rfl⟩ 0 rfl rfl [0] [1, 2, 3] rfl rfl (by decide) (by decide) (by decide) rfl rfl (Nat.le_of_ble_eq_true rfl) ⟨Nat.le_of_ble_eq_true rfl, Nat.le_of_ble_eq_true rfl⟩ (fun r7 _ w8 => ?_)
    refine r_ws [(h2, .inr (3, [.ref h9, .ref h10, .ref h11, .ref h12, .int x10, .int x11, .int x12])), (h3, .inl (gJ g, 48, .inr (.inl fm0))), (h1, .inr (6, [.ref h3, .ref h8, .int x8, .int x9])), (h0, .inr (0, [.ref h1, .ref h4, .ref h2, .int x0, .int x1, .long y0, .int x2, .int x3, .int x4, .int x5, .ref h5, .ref h6, .ref h7, .int x6, .int x7]))] rfl ?_
    have p9 : 0 ≤ (Int32.toInt r7) := w8.1
    have p10 : (Int32.toInt r7) ≤ 1 := w8.2
    refine r_istore_n 24 C dX0_mask_24 [(2, .int r7), (1, .int x8), (0, .ref h0)] (by decide) rfl ?_
    refine r_iload_n 25 1 C dX0_mask_25 rfl ?_
    refine r_iload_n 26 0 C dX0_mask_26 rfl ?_
    obtain ⟨z11, ez11⟩ : ∃ z_9, x8 - r7 = z_9 := ⟨_, rfl⟩
    have tz11 : (Int32.toInt z11) = (Int32.toInt x8) - (Int32.toInt r7) := by rw [← ez11]; exact fb_subIv (a := 0) (b := 48) (c := 0) (d := 1) i_x8 ⟨p9, p10⟩ (by decide) (by decide)
    refine r_isub 27 z11 C dX0_mask_27 ez11 ?_
    refine r_istore_n 28 C dX0_mask_28 [(3, .int z11), (2, .int r7), (1, .int x8), (0, .ref h0)] (by decide) rfl ?_
    refine r_iload_n 29 0 C dX0_mask_29 rfl ?_
    refine r_iconst 30 2 C dX0_mask_30 (by decide) ?_
    obtain ⟨z12, ez12⟩ : ∃ z_9, z11 - z11 / 2 * 2 = z_9 := ⟨_, rfl⟩
    have gz12 := fb_rng z12
    refine r_irem 31 z12 C dX0_mask_31 (by decide) ez12 ?_
    refine r_iconst 32 1 C dX0_mask_32 (by decide) ?_
    refine r_icmp_ne 33 38 C dX0_mask_33 (by decide) (fun c13 => ?_) (fun c13 => ?_)
    · skip
      have k14 : ¬ ((Int32.toInt z12) = 1) := fun h_9 => c13 ((fa_eq z12 1).mpr h_9)
      refine r_aload_n 38 3 C dX0_mask_38 rfl ?_
      refine r_iload_n 39 1 C dX0_mask_39 rfl ?_
      refine r_callVv 40 C dX0_mask_40 [] [(h0, .inr (0, [.ref h1, .ref h4, .ref h2, .int x0, .int x1, .long y0, .int x2, .int x3, .int x4, .int x5, .ref h5, .ref h6, .ref h7, .int x6, .int x7])), (h1, .inr (6, [.ref h3, .ref h8, .int x8, .int x9])), (h2, .inr (3, [.ref h9, .ref h10, .ref h11, .ref h12, .int x10, .int x11, .int x12])), (h3, .inl (gJ g, 48, .inr (.inl fm0)))] [] (fun sz => c289_X0_tellWidth l g h0 h1 h2 h3 r7 h4 x0 x1 y0 x2 x3 x4 x5 h5 h6 h7 x6 x7 h8 x8 x9 h9 h10 h11 h12 x10 x11 x12 fm0 i_x5 i_x6 i_x7 i_x8 i_x9 sz) gX0_mask_X0_tellWidth rfl ⟨rfl, rfl⟩ 1 (by decide) ⟨Nat.le_of_ble_eq_true rfl, Nat.le_of_ble_eq_true rfl⟩ 3 rfl rfl [3, 2, 0, 1] [] rfl rfl (by decide) (by decide) (by decide) rfl rfl (Nat.le_of_ble_eq_true rfl) ⟨Nat.le_of_ble_eq_true rfl, Nat.le_of_ble_eq_true rfl⟩ (fun  u18 w17 => ?_)
      obtain ⟨z15, z16⟩ := u18
      refine r_ws [(h0, .inr (0, [.ref h1, .ref h4, .ref h2, .int x0, .int x1, .long z15, .int x2, .int x3, .int x4, .int x5, .ref h5, .ref h6, .ref h7, .int x6, .int z16])), (h1, .inr (6, [.ref h3, .ref h8, .int x8, .int x9])), (h2, .inr (3, [.ref h9, .ref h10, .ref h11, .ref h12, .int x10, .int x11, .int x12])), (h3, .inl (gJ g, 48, .inr (.inl fm0)))] rfl ?_
      have gz15 := fb_rngL z15
      have p19 : 0 ≤ (Int32.toInt z16) := w17.1
      have p20 : (Int32.toInt z16) ≤ 1 := w17.2
      refine r_aload_n 43 3 C dX0_mask_43 rfl ?_
      refine r_dup 44 C dX0_mask_44 rfl ?_
      refine r_get 45 C dX0_mask_45 (k := 4) 0 rfl rfl hiX0 (by decide) rfl (mg 3 rfl) (Or.inr (mg 4 rfl)) rfl ?_
      refine r_iload_n 48 0 C dX0_mask_48 rfl ?_
      refine r_iconst 49 2 C dX0_mask_49 (by decide) ?_
      obtain ⟨z21, ez21⟩ : ∃ z_9, z11 / 2 = z_9 := ⟨_, rfl⟩
      have gz21 := fb_rng z21
      refine r_idiv 50 z21 C dX0_mask_50 (by decide) ez21 ?_
      obtain ⟨z22, ez22⟩ : ∃ z_9, x1 + z21 = z_9 := ⟨_, rfl⟩
      have gz22 := fb_rng z22
      refine r_iadd 51 z22 C dX0_mask_51 ez22 ?_
      refine r_put 52 C dX0_mask_52 (k := 4) 0 rfl rfl hiX0 tyX0 tyX0_ok nmX0 (by decide) rfl (mg 3 rfl) (Or.inr (mg 4 rfl)) rfl rfl rfl rfl (Nat.le_of_ble_eq_true rfl) [(h0, .inr (0, [.ref h1, .ref h4, .ref h2, .int x0, .int z22, .long z15, .int x2, .int x3, .int x4, .int x5, .ref h5, .ref h6, .ref h7, .int x6, .int z16])), (h1, .inr (6, [.ref h3, .ref h8, .int x8, .int x9])), (h2, .inr (3, [.ref h9, .ref h10, .ref h11, .ref h12, .int x10, .int x11, .int x12])), (h3, .inl (gJ g, 48, .inr (.inl fm0)))] rfl ?_
      refine r_aload_n 55 3 C dX0_mask_55 rfl ?_
      refine r_aload_n 56 3 C dX0_mask_56 rfl ?_
      refine r_get 57 C dX0_mask_57 (k := 4) 0 rfl rfl hiX0 (by decide) rfl (mg 3 rfl) (Or.inr (mg 4 rfl)) rfl ?_
      refine r_bipush 60 7 C dX0_mask_60 (by decide) ?_
      obtain ⟨z23, ez23⟩ : ∃ z_9, z22 + 7 = z_9 := ⟨_, rfl⟩
      have gz23 := fb_rng z23
      refine r_iadd 62 z23 C dX0_mask_62 ez23 ?_
      refine r_bipush 63 8 C dX0_mask_63 (by decide) ?_
      obtain ⟨z24, ez24⟩ : ∃ z_9, z23 / 8 = z_9 := ⟨_, rfl⟩
      have gz24 := fb_rng z24
      refine r_idiv 65 z24 C dX0_mask_65 (by decide) ez24 ?_
      refine r_callUi 66 C dX0_mask_66 [] [(h0, .inr (0, [.ref h1, .ref h4, .ref h2, .int x0, .int z22, .long z15, .int x2, .int x3, .int x4, .int x5, .ref h5, .ref h6, .ref h7, .int x6, .int z16]))] [(h1, .inr (6, [.ref h3, .ref h8, .int x8, .int x9])), (h2, .inr (3, [.ref h9, .ref h10, .ref h11, .ref h12, .int x10, .int x11, .int x12])), (h3, .inl (gJ g, 48, .inr (.inl fm0)))] (fun sz => c295_X4_skipBytes l g h0 z24 h1 h4 h2 x0 z22 z15 x2 x3 x4 x5 h5 h6 h7 x6 z16 i_x5 i_x6 ⟨p19, p20⟩ sz) gX0_mask_X4_skipBytes_u146X0 rfl ⟨rfl, rfl⟩ 1 rfl (by decide) ⟨Nat.le_of_ble_eq_true rfl, Nat.le_of_ble_eq_true rfl⟩ 0 rfl rfl [0] [1, 2, 3] rfl rfl (by decide) (by decide) (by decide) rfl rfl (Nat.le_of_ble_eq_true rfl) ⟨Nat.le_of_ble_eq_true rfl, Nat.le_of_ble_eq_true rfl⟩ (fun r26 z25 w27 => ?_)
      refine r_ws [(h1, .inr (6, [.ref h3, .ref h8, .int x8, .int x9])), (h2, .inr (3, [.ref h9, .ref h10, .ref h11, .ref h12, .int x10, .int x11, .int x12])), (h3, .inl (gJ g, 48, .inr (.inl fm0))), (h0, .inr (0, [.ref h1, .ref h4, .ref h2, .int x0, .int z22, .long z15, .int x2, .int x3, .int z25, .int x5, .ref h5, .ref h6, .ref h7, .int x6, .int z16]))] rfl ?_
      have gz25 := fb_rng z25
      have p28 : 0 ≤ (Int32.toInt r26) := w27.1
      have p29 : (Int32.toInt r26) ≤ 1 := w27.2
      refine r_if_eq 69 76 C dX0_mask_69 (by decide) (fun c30 => ?_) (fun c30 => ?_)
      · skip
        have k31 : (Int32.toInt r26) = 0 := (fa_eq r26 0).mp c30
        refine r_bipush 76 7 C dX0_mask_76 (by decide) ?_
        exact r_iret 78 Rt dX0_mask_78 (z22, z15, z25, z16) (show 0 ≤ (Int32.toInt 7) ∧ (Int32.toInt 7) ≤ 7 ∧ 0 ≤ (Int32.toInt z16) ∧ (Int32.toInt z16) ≤ 1 from ⟨(by ((repeat' apply And.intro) <;> first | trivial | rfl | assumption | omega | decide | exact Or.inl rfl | exact Or.inr (Or.inl rfl) | exact Or.inr (Or.inr rfl))), (by ((repeat' apply And.intro) <;> first | trivial | rfl | assumption | omega | decide | exact Or.inl rfl | exact Or.inr (Or.inl rfl) | exact Or.inr (Or.inr rfl))), (show _ ∧ _ from ⟨p19, p20⟩).1, (show _ ∧ _ from ⟨p19, p20⟩).2⟩) [3, 0, 1, 2] (by decide) rfl (Nat.le_of_ble_eq_true rfl) (Nat.le_of_ble_eq_true rfl)
      · skip
        have k32 : ¬ ((Int32.toInt r26) = 0) := fun h_9 => c30 ((fa_eq r26 0).mpr h_9)
        refine r_iconst 72 0 C dX0_mask_72 (by decide) ?_
        refine r_goto 73 78 C dX0_mask_73 (by decide) ?_
        exact r_iret 78 Rt dX0_mask_78 (z22, z15, z25, z16) (show 0 ≤ (Int32.toInt 0) ∧ (Int32.toInt 0) ≤ 7 ∧ 0 ≤ (Int32.toInt z16) ∧ (Int32.toInt z16) ≤ 1 from ⟨(by ((repeat' apply And.intro) <;> first | trivial | rfl | assumption | omega | decide | exact Or.inl rfl | exact Or.inr (Or.inl rfl) | exact Or.inr (Or.inr rfl))), (by ((repeat' apply And.intro) <;> first | trivial | rfl | assumption | omega | decide | exact Or.inl rfl | exact Or.inr (Or.inl rfl) | exact Or.inr (Or.inr rfl))), (show _ ∧ _ from ⟨p19, p20⟩).1, (show _ ∧ _ from ⟨p19, p20⟩).2⟩) [3, 0, 1, 2] (by decide) rfl (Nat.le_of_ble_eq_true rfl) (Nat.le_of_ble_eq_true rfl)
    · skip
      have k33 : (Int32.toInt z12) = 1 := (fa_eq z12 1).mp c13
      refine r_iconst 36 2 C dX0_mask_36 (by decide) ?_
      exact r_iret 37 Rt dX0_mask_37 (x1, y0, x4, x7) (show 0 ≤ (Int32.toInt 2) ∧ (Int32.toInt 2) ≤ 7 ∧ 0 ≤ (Int32.toInt x7) ∧ (Int32.toInt x7) ≤ 1 from ⟨(by ((repeat' apply And.intro) <;> first | trivial | rfl | assumption | omega | decide | exact Or.inl rfl | exact Or.inr (Or.inl rfl) | exact Or.inr (Or.inr rfl))), (by ((repeat' apply And.intro) <;> first | trivial | rfl | assumption | omega | decide | exact Or.inl rfl | exact Or.inr (Or.inl rfl) | exact Or.inr (Or.inr rfl))), i_x7.1, i_x7.2⟩) [3, 2, 0, 1] (by decide) rfl (Nat.le_of_ble_eq_true rfl) (Nat.le_of_ble_eq_true rfl)
  · skip
    have k34 : (Int32.toInt z4) = 1 := (fa_eq z4 1).mp c5
    refine r_iconst 16 1 C dX0_mask_16 (by decide) ?_
    refine r_goto 17 21 C dX0_mask_17 (by decide) ?_
    refine r_callVi 21 C dX0_mask_21 [] [(h0, .inr (0, [.ref h1, .ref h4, .ref h2, .int x0, .int x1, .long y0, .int x2, .int x3, .int x4, .int x5, .ref h5, .ref h6, .ref h7, .int x6, .int x7]))] [(h2, .inr (3, [.ref h9, .ref h10, .ref h11, .ref h12, .int x10, .int x11, .int x12])), (h3, .inl (gJ g, 48, .inr (.inl fm0))), (h1, .inr (6, [.ref h3, .ref h8, .int x8, .int x9]))] (fun sz => c288_X0_widthsShare l g h0 1 h1 h4 h2 x0 x1 y0 x2 x3 x4 x5 h5 h6 h7 x6 x7 (by decide) i_x5 i_x6 i_x7 sz) gX0_mask_X0_widthsShare rfl ⟨rfl, rfl⟩ 1 (by decide) ⟨Nat.le_of_ble_eq_true rfl, Nat.le_of_ble_eq_true rfl⟩ 0 rfl rfl [0] [1, 2, 3] rfl rfl (by decide) (by decide) (by decide) rfl rfl (Nat.le_of_ble_eq_true rfl) ⟨Nat.le_of_ble_eq_true rfl, Nat.le_of_ble_eq_true rfl⟩ (fun r35 _ w36 => ?_)
    refine r_ws [(h2, .inr (3, [.ref h9, .ref h10, .ref h11, .ref h12, .int x10, .int x11, .int x12])), (h3, .inl (gJ g, 48, .inr (.inl fm0))), (h1, .inr (6, [.ref h3, .ref h8, .int x8, .int x9])), (h0, .inr (0, [.ref h1, .ref h4, .ref h2, .int x0, .int x1, .long y0, .int x2, .int x3, .int x4, .int x5, .ref h5, .ref h6, .ref h7, .int x6, .int x7]))] rfl ?_
    have p37 : 0 ≤ (Int32.toInt r35) := w36.1
    have p38 : (Int32.toInt r35) ≤ 1 := w36.2
    refine r_istore_n 24 C dX0_mask_24 [(2, .int r35), (1, .int x8), (0, .ref h0)] (by decide) rfl ?_
    refine r_iload_n 25 1 C dX0_mask_25 rfl ?_
    refine r_iload_n 26 0 C dX0_mask_26 rfl ?_
    obtain ⟨z39, ez39⟩ : ∃ z_9, x8 - r35 = z_9 := ⟨_, rfl⟩
    have tz39 : (Int32.toInt z39) = (Int32.toInt x8) - (Int32.toInt r35) := by rw [← ez39]; exact fb_subIv (a := 0) (b := 48) (c := 0) (d := 1) i_x8 ⟨p37, p38⟩ (by decide) (by decide)
    refine r_isub 27 z39 C dX0_mask_27 ez39 ?_
    refine r_istore_n 28 C dX0_mask_28 [(3, .int z39), (2, .int r35), (1, .int x8), (0, .ref h0)] (by decide) rfl ?_
    refine r_iload_n 29 0 C dX0_mask_29 rfl ?_
    refine r_iconst 30 2 C dX0_mask_30 (by decide) ?_
    obtain ⟨z40, ez40⟩ : ∃ z_9, z39 - z39 / 2 * 2 = z_9 := ⟨_, rfl⟩
    have gz40 := fb_rng z40
    refine r_irem 31 z40 C dX0_mask_31 (by decide) ez40 ?_
    refine r_iconst 32 1 C dX0_mask_32 (by decide) ?_
    refine r_icmp_ne 33 38 C dX0_mask_33 (by decide) (fun c41 => ?_) (fun c41 => ?_)
    · skip
      have k42 : ¬ ((Int32.toInt z40) = 1) := fun h_9 => c41 ((fa_eq z40 1).mpr h_9)
      refine r_aload_n 38 3 C dX0_mask_38 rfl ?_
      refine r_iload_n 39 1 C dX0_mask_39 rfl ?_
      refine r_callVv 40 C dX0_mask_40 [] [(h0, .inr (0, [.ref h1, .ref h4, .ref h2, .int x0, .int x1, .long y0, .int x2, .int x3, .int x4, .int x5, .ref h5, .ref h6, .ref h7, .int x6, .int x7])), (h1, .inr (6, [.ref h3, .ref h8, .int x8, .int x9])), (h2, .inr (3, [.ref h9, .ref h10, .ref h11, .ref h12, .int x10, .int x11, .int x12])), (h3, .inl (gJ g, 48, .inr (.inl fm0)))] [] (fun sz => c289_X0_tellWidth l g h0 h1 h2 h3 r35 h4 x0 x1 y0 x2 x3 x4 x5 h5 h6 h7 x6 x7 h8 x8 x9 h9 h10 h11 h12 x10 x11 x12 fm0 i_x5 i_x6 i_x7 i_x8 i_x9 sz) gX0_mask_X0_tellWidth rfl ⟨rfl, rfl⟩ 1 (by decide) ⟨Nat.le_of_ble_eq_true rfl, Nat.le_of_ble_eq_true rfl⟩ 3 rfl rfl [3, 2, 0, 1] [] rfl rfl (by decide) (by decide) (by decide) rfl rfl (Nat.le_of_ble_eq_true rfl) ⟨Nat.le_of_ble_eq_true rfl, Nat.le_of_ble_eq_true rfl⟩ (fun  u46 w45 => ?_)
      obtain ⟨z43, z44⟩ := u46
      refine r_ws [(h0, .inr (0, [.ref h1, .ref h4, .ref h2, .int x0, .int x1, .long z43, .int x2, .int x3, .int x4, .int x5, .ref h5, .ref h6, .ref h7, .int x6, .int z44])), (h1, .inr (6, [.ref h3, .ref h8, .int x8, .int x9])), (h2, .inr (3, [.ref h9, .ref h10, .ref h11, .ref h12, .int x10, .int x11, .int x12])), (h3, .inl (gJ g, 48, .inr (.inl fm0)))] rfl ?_
      have gz43 := fb_rngL z43
      have p47 : 0 ≤ (Int32.toInt z44) := w45.1
      have p48 : (Int32.toInt z44) ≤ 1 := w45.2
      refine r_aload_n 43 3 C dX0_mask_43 rfl ?_
      refine r_dup 44 C dX0_mask_44 rfl ?_
      refine r_get 45 C dX0_mask_45 (k := 4) 0 rfl rfl hiX0 (by decide) rfl (mg 3 rfl) (Or.inr (mg 4 rfl)) rfl ?_
      refine r_iload_n 48 0 C dX0_mask_48 rfl ?_
      refine r_iconst 49 2 C dX0_mask_49 (by decide) ?_
      obtain ⟨z49, ez49⟩ : ∃ z_9, z39 / 2 = z_9 := ⟨_, rfl⟩
      have gz49 := fb_rng z49
      refine r_idiv 50 z49 C dX0_mask_50 (by decide) ez49 ?_
      obtain ⟨z50, ez50⟩ : ∃ z_9, x1 + z49 = z_9 := ⟨_, rfl⟩
      have gz50 := fb_rng z50
      refine r_iadd 51 z50 C dX0_mask_51 ez50 ?_
      refine r_put 52 C dX0_mask_52 (k := 4) 0 rfl rfl hiX0 tyX0 tyX0_ok nmX0 (by decide) rfl (mg 3 rfl) (Or.inr (mg 4 rfl)) rfl rfl rfl rfl (Nat.le_of_ble_eq_true rfl) [(h0, .inr (0, [.ref h1, .ref h4, .ref h2, .int x0, .int z50, .long z43, .int x2, .int x3, .int x4, .int x5, .ref h5, .ref h6, .ref h7, .int x6, .int z44])), (h1, .inr (6, [.ref h3, .ref h8, .int x8, .int x9])), (h2, .inr (3, [.ref h9, .ref h10, .ref h11, .ref h12, .int x10, .int x11, .int x12])), (h3, .inl (gJ g, 48, .inr (.inl fm0)))] rfl ?_
      refine r_aload_n 55 3 C dX0_mask_55 rfl ?_
      refine r_aload_n 56 3 C dX0_mask_56 rfl ?_
      refine r_get 57 C dX0_mask_57 (k := 4) 0 rfl rfl hiX0 (by decide) rfl (mg 3 rfl) (Or.inr (mg 4 rfl)) rfl ?_
      refine r_bipush 60 7 C dX0_mask_60 (by decide) ?_
      obtain ⟨z51, ez51⟩ : ∃ z_9, z50 + 7 = z_9 := ⟨_, rfl⟩
      have gz51 := fb_rng z51
      refine r_iadd 62 z51 C dX0_mask_62 ez51 ?_
      refine r_bipush 63 8 C dX0_mask_63 (by decide) ?_
      obtain ⟨z52, ez52⟩ : ∃ z_9, z51 / 8 = z_9 := ⟨_, rfl⟩
      have gz52 := fb_rng z52
      refine r_idiv 65 z52 C dX0_mask_65 (by decide) ez52 ?_
      refine r_callUi 66 C dX0_mask_66 [] [(h0, .inr (0, [.ref h1, .ref h4, .ref h2, .int x0, .int z50, .long z43, .int x2, .int x3, .int x4, .int x5, .ref h5, .ref h6, .ref h7, .int x6, .int z44]))] [(h1, .inr (6, [.ref h3, .ref h8, .int x8, .int x9])), (h2, .inr (3, [.ref h9, .ref h10, .ref h11, .ref h12, .int x10, .int x11, .int x12])), (h3, .inl (gJ g, 48, .inr (.inl fm0)))] (fun sz => c295_X4_skipBytes l g h0 z52 h1 h4 h2 x0 z50 z43 x2 x3 x4 x5 h5 h6 h7 x6 z44 i_x5 i_x6 ⟨p47, p48⟩ sz) gX0_mask_X4_skipBytes_u146X0 rfl ⟨rfl, rfl⟩ 1 rfl (by decide) ⟨Nat.le_of_ble_eq_true rfl, Nat.le_of_ble_eq_true rfl⟩ 0 rfl rfl [0] [1, 2, 3] rfl rfl (by decide) (by decide) (by decide) rfl rfl (Nat.le_of_ble_eq_true rfl) ⟨Nat.le_of_ble_eq_true rfl, Nat.le_of_ble_eq_true rfl⟩ (fun r54 z53 w55 => ?_)
      refine r_ws [(h1, .inr (6, [.ref h3, .ref h8, .int x8, .int x9])), (h2, .inr (3, [.ref h9, .ref h10, .ref h11, .ref h12, .int x10, .int x11, .int x12])), (h3, .inl (gJ g, 48, .inr (.inl fm0))), (h0, .inr (0, [.ref h1, .ref h4, .ref h2, .int x0, .int z50, .long z43, .int x2, .int x3, .int z53, .int x5, .ref h5, .ref h6, .ref h7, .int x6, .int z44]))] rfl ?_
      have gz53 := fb_rng z53
      have p56 : 0 ≤ (Int32.toInt r54) := w55.1
      have p57 : (Int32.toInt r54) ≤ 1 := w55.2
      refine r_if_eq 69 76 C dX0_mask_69 (by decide) (fun c58 => ?_) (fun c58 => ?_)
      · skip
        have k59 : (Int32.toInt r54) = 0 := (fa_eq r54 0).mp c58
        refine r_bipush 76 7 C dX0_mask_76 (by decide) ?_
        exact r_iret 78 Rt dX0_mask_78 (z50, z43, z53, z44) (show 0 ≤ (Int32.toInt 7) ∧ (Int32.toInt 7) ≤ 7 ∧ 0 ≤ (Int32.toInt z44) ∧ (Int32.toInt z44) ≤ 1 from ⟨(by ((repeat' apply And.intro) <;> first | trivial | rfl | assumption | omega | decide | exact Or.inl rfl | exact Or.inr (Or.inl rfl) | exact Or.inr (Or.inr rfl))), (by ((repeat' apply And.intro) <;> first | trivial | rfl | assumption | omega | decide | exact Or.inl rfl | exact Or.inr (Or.inl rfl) | exact Or.inr (Or.inr rfl))), (show _ ∧ _ from ⟨p47, p48⟩).1, (show _ ∧ _ from ⟨p47, p48⟩).2⟩) [3, 0, 1, 2] (by decide) rfl (Nat.le_of_ble_eq_true rfl) (Nat.le_of_ble_eq_true rfl)
      · skip
        have k60 : ¬ ((Int32.toInt r54) = 0) := fun h_9 => c58 ((fa_eq r54 0).mpr h_9)
        refine r_iconst 72 0 C dX0_mask_72 (by decide) ?_
        refine r_goto 73 78 C dX0_mask_73 (by decide) ?_
        exact r_iret 78 Rt dX0_mask_78 (z50, z43, z53, z44) (show 0 ≤ (Int32.toInt 0) ∧ (Int32.toInt 0) ≤ 7 ∧ 0 ≤ (Int32.toInt z44) ∧ (Int32.toInt z44) ≤ 1 from ⟨(by ((repeat' apply And.intro) <;> first | trivial | rfl | assumption | omega | decide | exact Or.inl rfl | exact Or.inr (Or.inl rfl) | exact Or.inr (Or.inr rfl))), (by ((repeat' apply And.intro) <;> first | trivial | rfl | assumption | omega | decide | exact Or.inl rfl | exact Or.inr (Or.inl rfl) | exact Or.inr (Or.inr rfl))), (show _ ∧ _ from ⟨p47, p48⟩).1, (show _ ∧ _ from ⟨p47, p48⟩).2⟩) [3, 0, 1, 2] (by decide) rfl (Nat.le_of_ble_eq_true rfl) (Nat.le_of_ble_eq_true rfl)
    · skip
      have k61 : (Int32.toInt z40) = 1 := (fa_eq z40 1).mp c41
      refine r_iconst 36 2 C dX0_mask_36 (by decide) ?_
      exact r_iret 37 Rt dX0_mask_37 (x1, y0, x4, x7) (show 0 ≤ (Int32.toInt 2) ∧ (Int32.toInt 2) ≤ 7 ∧ 0 ≤ (Int32.toInt x7) ∧ (Int32.toInt x7) ≤ 1 from ⟨(by ((repeat' apply And.intro) <;> first | trivial | rfl | assumption | omega | decide | exact Or.inl rfl | exact Or.inr (Or.inl rfl) | exact Or.inr (Or.inr rfl))), (by ((repeat' apply And.intro) <;> first | trivial | rfl | assumption | omega | decide | exact Or.inl rfl | exact Or.inr (Or.inl rfl) | exact Or.inr (Or.inr rfl))), i_x7.1, i_x7.2⟩) [3, 2, 0, 1] (by decide) rfl (Nat.le_of_ble_eq_true rfl) (Nat.le_of_ble_eq_true rfl)
set_option maxHeartbeats 4000000 in
set_option maxRecDepth 100000 in
theorem c297_X0_hintOrMove (l : Launch) (g : GD) (h0 : Nat) (h1 : Nat) (h2 : Nat) (h3 : Nat) (h4 : Nat) (h5 : Nat) (h6 : Nat) (x0 : Int32) (x1 : Int32) (x2 : Int32) (y0 : Int64) (x3 : Int32) (x4 : Int32) (x5 : Int32) (x6 : Int32) (h7 : Nat) (h8 : Nat) (h9 : Nat) (x7 : Int32) (x8 : Int32) (h10 : Nat) (x9 : Int32) (x10 : Int32) (x11 : Int32) (x12 : Int32) (y1 : Int64) (y2 : Int64) (x13 : Int32) (h11 : Nat) (h12 : Nat) (h13 : Nat) (h14 : Nat) (x14 : Int32) (x15 : Int32) (x16 : Int32) (fm0 : Nat → Int64) (fn0 : Nat → Int32) (fm1 : Nat → Int64) (i_x6 : (0 ≤ (Int32.toInt x6) ∧ (Int32.toInt x6) ≤ 1)) (i_x7 : (0 ≤ (Int32.toInt x7) ∧ (Int32.toInt x7) ≤ 10)) (i_x8 : (0 ≤ (Int32.toInt x8) ∧ (Int32.toInt x8) ≤ 1)) (i_x9 : (0 ≤ (Int32.toInt x9) ∧ (Int32.toInt x9) ≤ 48)) (i_x10 : (0 ≤ (Int32.toInt x10) ∧ (Int32.toInt x10) ≤ 48)) (i_x11 : (0 ≤ (Int32.toInt x11) ∧ (Int32.toInt x11) ≤ 400)) (i_x12 : (0 ≤ (Int32.toInt x12) ∧ (Int32.toInt x12) ≤ 400)) (i_x13 : (0 ≤ (Int32.toInt x13) ∧ (Int32.toInt x13) ≤ 1)) (sz : Nat) : Met l yX0_hintOrMove wsX0_hintOrMove ({ frames := 4, cells := 0, slots := 0, locals := 87 }) (va_Pc [.ref h0, .int x0] (PW g [(h0, .inr (0, [.ref h1, .ref h2, .ref h3, .int x1, .int x2, .long y0, .int x3, .int x4, .int x5, .int x6, .ref h7, .ref h8, .ref h9, .int x7, .int x8])), (h1, .inr (6, [.ref h4, .ref h10, .int x9, .int x10])), (h2, .inr (5, [.ref h5, .ref h6, .int x11, .int x12, .long y1, .long y2, .int x13])), (h3, .inr (3, [.ref h11, .ref h12, .ref h13, .ref h14, .int x14, .int x15, .int x16])), (h4, .inl (gJ g, 48, .inr (.inl fm0))), (h5, .inl (gB g, 400, .inl fn0)), (h6, .inl (gJ g, 2400, .inr (.inl fm1)))] sz)) (va_Qi (fun (r : Int32) (u : (Int32) × (Int64) × (Int32) × (Int32) × (Int32) × (Int32) × (Int64) × (Int64) × (Int32) × (Nat → Int32) × (Nat → Int64)) => 0 ≤ (Int32.toInt r) ∧ (Int32.toInt r) ≤ 7 ∧ 0 ≤ (Int32.toInt (u.2.2.2.1)) ∧ (Int32.toInt (u.2.2.2.1)) ≤ 1 ∧ 0 ≤ (Int32.toInt (u.2.2.2.2.1)) ∧ (Int32.toInt (u.2.2.2.2.1)) ≤ 1 ∧ 0 ≤ (Int32.toInt (u.2.2.2.2.2.1)) ∧ (Int32.toInt (u.2.2.2.2.2.1)) ≤ 400 ∧ 0 ≤ (Int32.toInt (u.2.2.2.2.2.2.2.2.1)) ∧ (Int32.toInt (u.2.2.2.2.2.2.2.2.1)) ≤ 1) (BW g (va_A [(h0, .inr (0, [.ref h1, .ref h2, .ref h3, .int x1, .int x2, .long y0, .int x3, .int x4, .int x5, .int x6, .ref h7, .ref h8, .ref h9, .int x7, .int x8])), (h1, .inr (6, [.ref h4, .ref h10, .int x9, .int x10])), (h2, .inr (5, [.ref h5, .ref h6, .int x11, .int x12, .long y1, .long y2, .int x13])), (h3, .inr (3, [.ref h11, .ref h12, .ref h13, .ref h14, .int x14, .int x15, .int x16])), (h4, .inl (gJ g, 48, .inr (.inl fm0))), (h5, .inl (gB g, 400, .inl fn0)), (h6, .inl (gJ g, 2400, .inr (.inl fm1)))] sz) (fun u : (Int32) × (Int64) × (Int32) × (Int32) × (Int32) × (Int32) × (Int64) × (Int64) × (Int32) × (Nat → Int32) × (Nat → Int64) => [(h0, .inr (0, [.ref h1, .ref h2, .ref h3, .int x1, .int u.1, .long u.2.1, .int x3, .int x4, .int u.2.2.1, .int u.2.2.2.1, .ref h7, .ref h8, .ref h9, .int x7, .int u.2.2.2.2.1])), (h1, .inr (6, [.ref h4, .ref h10, .int x9, .int x10])), (h2, .inr (5, [.ref h5, .ref h6, .int u.2.2.2.2.2.1, .int x12, .long u.2.2.2.2.2.2.1, .long u.2.2.2.2.2.2.2.1, .int u.2.2.2.2.2.2.2.2.1])), (h3, .inr (3, [.ref h11, .ref h12, .ref h13, .ref h14, .int x14, .int x15, .int x16])), (h4, .inl (gJ g, 48, .inr (.inl fm0))), (h5, .inl (gB g, 400, .inl u.2.2.2.2.2.2.2.2.2.1)), (h6, .inl (gJ g, 2400, .inr (.inl u.2.2.2.2.2.2.2.2.2.2)))])) (va_A [(h0, .inr (0, [.ref h1, .ref h2, .ref h3, .int x1, .int x2, .long y0, .int x3, .int x4, .int x5, .int x6, .ref h7, .ref h8, .ref h9, .int x7, .int x8])), (h1, .inr (6, [.ref h4, .ref h10, .int x9, .int x10])), (h2, .inr (5, [.ref h5, .ref h6, .int x11, .int x12, .long y1, .long y2, .int x13])), (h3, .inr (3, [.ref h11, .ref h12, .ref h13, .ref h14, .int x14, .int x15, .int x16])), (h4, .inl (gJ g, 48, .inr (.inl fm0))), (h5, .inl (gB g, 400, .inl fn0)), (h6, .inl (gJ g, 2400, .inr (.inl fm1)))] sz)) 0 0 (va_A [(h0, .inr (0, [.ref h1, .ref h2, .ref h3, .int x1, .int x2, .long y0, .int x3, .int x4, .int x5, .int x6, .ref h7, .ref h8, .ref h9, .int x7, .int x8])), (h1, .inr (6, [.ref h4, .ref h10, .int x9, .int x10])), (h2, .inr (5, [.ref h5, .ref h6, .int x11, .int x12, .long y1, .long y2, .int x13])), (h3, .inr (3, [.ref h11, .ref h12, .ref h13, .ref h14, .int x14, .int x15, .int x16])), (h4, .inl (gJ g, 48, .inr (.inl fm0))), (h5, .inl (gB g, 400, .inl fn0)), (h6, .inl (gJ g, 2400, .inr (.inl fm1)))] sz) := by
  refine met_i RX0 (by decide) rfl rfl (Nat.le_of_ble_eq_true rfl) [(0, .ref h0), (1, .int x0)] rfl ?_
  intro p e s m args below meth c A Q C hnm Rt
  have gx0 := fb_rng x0
  refine r_iload_n 0 1 C dX0_hintOrMove_0 rfl ?_
  by_cases c1 : x0 = 4
  · skip
    have k2 : (Int32.toInt x0) = 4 := (fa_eq x0 4).mp c1
    refine r_tableIn 1 97 4 C dX0_hintOrMove_1 c1 (by decide) (by decide) rfl (by decide) ?_
    refine r_aload_n 97 0 C dX0_hintOrMove_97 rfl ?_
    refine r_iload_n 98 1 C dX0_hintOrMove_98 rfl ?_
    refine r_callVi 99 C dX0_hintOrMove_99 [] [(h0, .inr (0, [.ref h1, .ref h2, .ref h3, .int x1, .int x2, .long y0, .int x3, .int x4, .int x5, .int x6, .ref h7, .ref h8, .ref h9, .int x7, .int x8])), (h1, .inr (6, [.ref h4, .ref h10, .int x9, .int x10])), (h2, .inr (5, [.ref h5, .ref h6, .int x11, .int x12, .long y1, .long y2, .int x13])), (h3, .inr (3, [.ref h11, .ref h12, .ref h13, .ref h14, .int x14, .int x15, .int x16])), (h4, .inl (gJ g, 48, .inr (.inl fm0))), (h5, .inl (gB g, 400, .inl fn0)), (h6, .inl (gJ g, 2400, .inr (.inl fm1)))] [] (fun sz => c291_X0_move l g h0 h1 h2 h3 h4 h5 h6 x0 x1 x2 y0 x3 x4 x5 x6 h7 h8 h9 x7 x8 h10 x9 x10 x11 x12 y1 y2 x13 h11 h12 h13 h14 x14 x15 x16 fm0 fn0 fm1 i_x6 i_x7 i_x8 i_x9 i_x10 i_x11 i_x12 i_x13 sz) gX0_hintOrMove_X0_move rfl ⟨rfl, rfl⟩ 1 (by decide) ⟨Nat.le_of_ble_eq_true rfl, Nat.le_of_ble_eq_true rfl⟩ 0 rfl rfl [0, 1, 2, 3, 4, 5, 6] [] rfl rfl (by decide) (by decide) (by decide) rfl rfl (Nat.le_of_ble_eq_true rfl) ⟨Nat.le_of_ble_eq_true rfl, Nat.le_of_ble_eq_true rfl⟩ (fun r11 u13 w12 => ?_)
    obtain ⟨z3, z4, z5, z6, z7, z8, f9, f10⟩ := u13
    refine r_ws [(h0, .inr (0, [.ref h1, .ref h2, .ref h3, .int x1, .int x2, .long z3, .int x3, .int x4, .int x5, .int x6, .ref h7, .ref h8, .ref h9, .int x7, .int z4])), (h1, .inr (6, [.ref h4, .ref h10, .int x9, .int x10])), (h2, .inr (5, [.ref h5, .ref h6, .int z5, .int x12, .long z6, .long z7, .int z8])), (h3, .inr (3, [.ref h11, .ref h12, .ref h13, .ref h14, .int x14, .int x15, .int x16])), (h4, .inl (gJ g, 48, .inr (.inl fm0))), (h5, .inl (gB g, 400, .inl f9)), (h6, .inl (gJ g, 2400, .inr (.inl f10)))] rfl ?_
    have gz3 := fb_rngL z3
    have gz6 := fb_rngL z6
    have gz7 := fb_rngL z7
    have p14 : 0 ≤ (Int32.toInt r11) := w12.1
    have p15 : (Int32.toInt r11) ≤ 6 := w12.2.1
    have p16 : 0 ≤ (Int32.toInt z4) := w12.2.2.1
    have p17 : (Int32.toInt z4) ≤ 1 := w12.2.2.2.1
    have p18 : 0 ≤ (Int32.toInt z5) := w12.2.2.2.2.1
    have p19 : (Int32.toInt z5) ≤ 400 := w12.2.2.2.2.2.1
    have p20 : 0 ≤ (Int32.toInt z8) := w12.2.2.2.2.2.2.1
    have p21 : (Int32.toInt z8) ≤ 1 := w12.2.2.2.2.2.2.2
    exact r_iret 102 Rt dX0_hintOrMove_102 (x2, z3, x5, x6, z4, z5, z6, z7, z8, f9, f10) (show 0 ≤ (Int32.toInt r11) ∧ (Int32.toInt r11) ≤ 7 ∧ 0 ≤ (Int32.toInt x6) ∧ (Int32.toInt x6) ≤ 1 ∧ 0 ≤ (Int32.toInt z4) ∧ (Int32.toInt z4) ≤ 1 ∧ 0 ≤ (Int32.toInt z5) ∧ (Int32.toInt z5) ≤ 400 ∧ 0 ≤ (Int32.toInt z8) ∧ (Int32.toInt z8) ≤ 1 from ⟨(iv_wide (c := 0) (d := 7) ⟨p14, p15⟩ (by decide) (by decide)).1, (iv_wide (c := 0) (d := 7) ⟨p14, p15⟩ (by decide) (by decide)).2, i_x6.1, i_x6.2, (show _ ∧ _ from ⟨p16, p17⟩).1, (show _ ∧ _ from ⟨p16, p17⟩).2, (show _ ∧ _ from ⟨p18, p19⟩).1, (show _ ∧ _ from ⟨p18, p19⟩).2, (show _ ∧ _ from ⟨p20, p21⟩).1, (show _ ∧ _ from ⟨p20, p21⟩).2⟩) [0, 1, 2, 3, 4, 5, 6] (by decide) rfl (Nat.le_of_ble_eq_true rfl) (Nat.le_of_ble_eq_true rfl)
  · skip
    have k22 : ¬ ((Int32.toInt x0) = 4) := fun h_9 => c1 ((fa_eq x0 4).mpr h_9)
    by_cases c23 : x0 = 5
    · skip
      have k24 : (Int32.toInt x0) = 5 := (fa_eq x0 5).mp c23
      refine r_tableIn 1 108 5 C dX0_hintOrMove_1 c23 (by decide) (by decide) rfl (by decide) ?_
      refine r_aload_n 108 0 C dX0_hintOrMove_108 rfl ?_
      refine r_callVi 109 C dX0_hintOrMove_109 [] [(h0, .inr (0, [.ref h1, .ref h2, .ref h3, .int x1, .int x2, .long y0, .int x3, .int x4, .int x5, .int x6, .ref h7, .ref h8, .ref h9, .int x7, .int x8])), (h1, .inr (6, [.ref h4, .ref h10, .int x9, .int x10])), (h3, .inr (3, [.ref h11, .ref h12, .ref h13, .ref h14, .int x14, .int x15, .int x16])), (h4, .inl (gJ g, 48, .inr (.inl fm0)))] [(h2, .inr (5, [.ref h5, .ref h6, .int x11, .int x12, .long y1, .long y2, .int x13])), (h5, .inl (gB g, 400, .inl fn0)), (h6, .inl (gJ g, 2400, .inr (.inl fm1)))] (fun sz => c292_X0_stems l g h0 h1 h3 h4 h2 x1 x2 y0 x3 x4 x5 x6 h7 h8 h9 x7 x8 h10 x9 x10 h11 h12 h13 h14 x14 x15 x16 fm0 i_x6 i_x7 i_x8 i_x9 i_x10 sz) gX0_hintOrMove_X0_stems rfl ⟨rfl, rfl⟩ 0 (by decide) ⟨Nat.le_of_ble_eq_true rfl, Nat.le_of_ble_eq_true rfl⟩ 0 rfl rfl [0, 1, 3, 4] [2, 5, 6] rfl rfl (by decide) (by decide) (by decide) rfl rfl (Nat.le_of_ble_eq_true rfl) ⟨Nat.le_of_ble_eq_true rfl, Nat.le_of_ble_eq_true rfl⟩ (fun r28 u30 w29 => ?_)
      obtain ⟨z25, z26, z27⟩ := u30
      refine r_ws [(h2, .inr (5, [.ref h5, .ref h6, .int x11, .int x12, .long y1, .long y2, .int x13])), (h5, .inl (gB g, 400, .inl fn0)), (h6, .inl (gJ g, 2400, .inr (.inl fm1))), (h0, .inr (0, [.ref h1, .ref h2, .ref h3, .int x1, .int z25, .long z26, .int x3, .int x4, .int x5, .int x6, .ref h7, .ref h8, .ref h9, .int x7, .int z27])), (h1, .inr (6, [.ref h4, .ref h10, .int x9, .int x10])), (h3, .inr (3, [.ref h11, .ref h12, .ref h13, .ref h14, .int x14, .int x15, .int x16])), (h4, .inl (gJ g, 48, .inr (.inl fm0)))] rfl ?_
      have gz25 := fb_rng z25
      have gz26 := fb_rngL z26
      have p31 : 0 ≤ (Int32.toInt r28) := w29.1
      have p32 : (Int32.toInt r28) ≤ 2 := w29.2.1
      have p33 : 0 ≤ (Int32.toInt z27) := w29.2.2.1
      have p34 : (Int32.toInt z27) ≤ 1 := w29.2.2.2
      exact r_iret 112 Rt dX0_hintOrMove_112 (z25, z26, x5, x6, z27, x11, y1, y2, x13, fn0, fm1) (show 0 ≤ (Int32.toInt r28) ∧ (Int32.toInt r28) ≤ 7 ∧ 0 ≤ (Int32.toInt x6) ∧ (Int32.toInt x6) ≤ 1 ∧ 0 ≤ (Int32.toInt z27) ∧ (Int32.toInt z27) ≤ 1 ∧ 0 ≤ (Int32.toInt x11) ∧ (Int32.toInt x11) ≤ 400 ∧ 0 ≤ (Int32.toInt x13) ∧ (Int32.toInt x13) ≤ 1 from ⟨(iv_wide (c := 0) (d := 7) ⟨p31, p32⟩ (by decide) (by decide)).1, (iv_wide (c := 0) (d := 7) ⟨p31, p32⟩ (by decide) (by decide)).2, i_x6.1, i_x6.2, (show _ ∧ _ from ⟨p33, p34⟩).1, (show _ ∧ _ from ⟨p33, p34⟩).2, i_x11.1, i_x11.2, i_x13.1, i_x13.2⟩) [3, 4, 0, 5, 6, 1, 2] (by decide) rfl (Nat.le_of_ble_eq_true rfl) (Nat.le_of_ble_eq_true rfl)
    · skip
      have k35 : ¬ ((Int32.toInt x0) = 5) := fun h_9 => c23 ((fa_eq x0 5).mpr h_9)
      by_cases c36 : x0 = 6
      · skip
        have k37 : (Int32.toInt x0) = 6 := (fa_eq x0 6).mp c36
        refine r_tableIn 1 108 6 C dX0_hintOrMove_1 c36 (by decide) (by decide) rfl (by decide) ?_
        refine r_aload_n 108 0 C dX0_hintOrMove_108 rfl ?_
        refine r_callVi 109 C dX0_hintOrMove_109 [] [(h0, .inr (0, [.ref h1, .ref h2, .ref h3, .int x1, .int x2, .long y0, .int x3, .int x4, .int x5, .int x6, .ref h7, .ref h8, .ref h9, .int x7, .int x8])), (h1, .inr (6, [.ref h4, .ref h10, .int x9, .int x10])), (h3, .inr (3, [.ref h11, .ref h12, .ref h13, .ref h14, .int x14, .int x15, .int x16])), (h4, .inl (gJ g, 48, .inr (.inl fm0)))] [(h2, .inr (5, [.ref h5, .ref h6, .int x11, .int x12, .long y1, .long y2, .int x13])), (h5, .inl (gB g, 400, .inl fn0)), (h6, .inl (gJ g, 2400, .inr (.inl fm1)))] (fun sz => c292_X0_stems l g h0 h1 h3 h4 h2 x1 x2 y0 x3 x4 x5 x6 h7 h8 h9 x7 x8 h10 x9 x10 h11 h12 h13 h14 x14 x15 x16 fm0 i_x6 i_x7 i_x8 i_x9 i_x10 sz) gX0_hintOrMove_X0_stems rfl ⟨rfl, rfl⟩ 0 (by decide) ⟨Nat.le_of_ble_eq_true rfl, Nat.le_of_ble_eq_true rfl⟩ 0 rfl rfl [0, 1, 3, 4] [2, 5, 6] rfl rfl (by decide) (by decide) (by decide) rfl rfl (Nat.le_of_ble_eq_true rfl) ⟨Nat.le_of_ble_eq_true rfl, Nat.le_of_ble_eq_true rfl⟩ (fun r41 u43 w42 => ?_)
        obtain ⟨z38, z39, z40⟩ := u43
        refine r_ws [(h2, .inr (5, [.ref h5, .ref h6, .int x11, .int x12, .long y1, .long y2, .int x13])), (h5, .inl (gB g, 400, .inl fn0)), (h6, .inl (gJ g, 2400, .inr (.inl fm1))), (h0, .inr (0, [.ref h1, .ref h2, .ref h3, .int x1, .int z38, .long z39, .int x3, .int x4, .int x5, .int x6, .ref h7, .ref h8, .ref h9, .int x7, .int z40])), (h1, .inr (6, [.ref h4, .ref h10, .int x9, .int x10])), (h3, .inr (3, [.ref h11, .ref h12, .ref h13, .ref h14, .int x14, .int x15, .int x16])), (h4, .inl (gJ g, 48, .inr (.inl fm0)))] rfl ?_
        have gz38 := fb_rng z38
        have gz39 := fb_rngL z39
        have p44 : 0 ≤ (Int32.toInt r41) := w42.1
        have p45 : (Int32.toInt r41) ≤ 2 := w42.2.1
        have p46 : 0 ≤ (Int32.toInt z40) := w42.2.2.1
        have p47 : (Int32.toInt z40) ≤ 1 := w42.2.2.2
        exact r_iret 112 Rt dX0_hintOrMove_112 (z38, z39, x5, x6, z40, x11, y1, y2, x13, fn0, fm1) (show 0 ≤ (Int32.toInt r41) ∧ (Int32.toInt r41) ≤ 7 ∧ 0 ≤ (Int32.toInt x6) ∧ (Int32.toInt x6) ≤ 1 ∧ 0 ≤ (Int32.toInt z40) ∧ (Int32.toInt z40) ≤ 1 ∧ 0 ≤ (Int32.toInt x11) ∧ (Int32.toInt x11) ≤ 400 ∧ 0 ≤ (Int32.toInt x13) ∧ (Int32.toInt x13) ≤ 1 from ⟨(iv_wide (c := 0) (d := 7) ⟨p44, p45⟩ (by decide) (by decide)).1, (iv_wide (c := 0) (d := 7) ⟨p44, p45⟩ (by decide) (by decide)).2, i_x6.1, i_x6.2, (show _ ∧ _ from ⟨p46, p47⟩).1, (show _ ∧ _ from ⟨p46, p47⟩).2, i_x11.1, i_x11.2, i_x13.1, i_x13.2⟩) [3, 4, 0, 5, 6, 1, 2] (by decide) rfl (Nat.le_of_ble_eq_true rfl) (Nat.le_of_ble_eq_true rfl)
      · skip
        have k48 : ¬ ((Int32.toInt x0) = 6) := fun h_9 => c36 ((fa_eq x0 6).mpr h_9)
        by_cases c49 : x0 = 7
        · skip
          have k50 : (Int32.toInt x0) = 7 := (fa_eq x0 7).mp c49
          refine r_tableIn 1 108 7 C dX0_hintOrMove_1 c49 (by decide) (by decide) rfl (by decide) ?_
          refine r_aload_n 108 0 C dX0_hintOrMove_108 rfl ?_
          refine r_callVi 109 C dX0_hintOrMove_109 [] [(h0, .inr (0, [.ref h1, .ref h2, .ref h3, .int x1, .int x2, .long y0, .int x3, .int x4, .int x5, .int x6, .ref h7, .ref h8, .ref h9, .int x7, .int x8])), (h1, .inr (6, [.ref h4, .ref h10, .int x9, .int x10])), (h3, .inr (3, [.ref h11, .ref h12, .ref h13, .ref h14, .int x14, .int x15, .int x16])), (h4, .inl (gJ g, 48, .inr (.inl fm0)))] [(h2, .inr (5, [.ref h5, .ref h6, .int x11, .int x12, .long y1, .long y2, .int x13])), (h5, .inl (gB g, 400, .inl fn0)), (h6, .inl (gJ g, 2400, .inr (.inl fm1)))] (fun sz => c292_X0_stems l g h0 h1 h3 h4 h2 x1 x2 y0 x3 x4 x5 x6 h7 h8 h9 x7 x8 h10 x9 x10 h11 h12 h13 h14 x14 x15 x16 fm0 i_x6 i_x7 i_x8 i_x9 i_x10 sz) gX0_hintOrMove_X0_stems rfl ⟨rfl, rfl⟩ 0 (by decide) ⟨Nat.le_of_ble_eq_true rfl, Nat.le_of_ble_eq_true rfl⟩ 0 rfl rfl [0, 1, 3, 4] [2, 5, 6] rfl rfl (by decide) (by decide) (by decide) rfl rfl (Nat.le_of_ble_eq_true rfl) ⟨Nat.le_of_ble_eq_true rfl, Nat.le_of_ble_eq_true rfl⟩ (fun r54 u56 w55 => ?_)
          obtain ⟨z51, z52, z53⟩ := u56
          refine r_ws [(h2, .inr (5, [.ref h5, .ref h6, .int x11, .int x12, .long y1, .long y2, .int x13])), (h5, .inl (gB g, 400, .inl fn0)), (h6, .inl (gJ g, 2400, .inr (.inl fm1))), (h0, .inr (0, [.ref h1, .ref h2, .ref h3, .int x1, .int z51, .long z52, .int x3, .int x4, .int x5, .int x6, .ref h7, .ref h8, .ref h9, .int x7, .int z53])), (h1, .inr (6, [.ref h4, .ref h10, .int x9, .int x10])), (h3, .inr (3, [.ref h11, .ref h12, .ref h13, .ref h14, .int x14, .int x15, .int x16])), (h4, .inl (gJ g, 48, .inr (.inl fm0)))] rfl ?_
          have gz51 := fb_rng z51
          have gz52 := fb_rngL z52
          have p57 : 0 ≤ (Int32.toInt r54) := w55.1
          have p58 : (Int32.toInt r54) ≤ 2 := w55.2.1
          have p59 : 0 ≤ (Int32.toInt z53) := w55.2.2.1
          have p60 : (Int32.toInt z53) ≤ 1 := w55.2.2.2
          exact r_iret 112 Rt dX0_hintOrMove_112 (z51, z52, x5, x6, z53, x11, y1, y2, x13, fn0, fm1) (show 0 ≤ (Int32.toInt r54) ∧ (Int32.toInt r54) ≤ 7 ∧ 0 ≤ (Int32.toInt x6) ∧ (Int32.toInt x6) ≤ 1 ∧ 0 ≤ (Int32.toInt z53) ∧ (Int32.toInt z53) ≤ 1 ∧ 0 ≤ (Int32.toInt x11) ∧ (Int32.toInt x11) ≤ 400 ∧ 0 ≤ (Int32.toInt x13) ∧ (Int32.toInt x13) ≤ 1 from ⟨(iv_wide (c := 0) (d := 7) ⟨p57, p58⟩ (by decide) (by decide)).1, (iv_wide (c := 0) (d := 7) ⟨p57, p58⟩ (by decide) (by decide)).2, i_x6.1, i_x6.2, (show _ ∧ _ from ⟨p59, p60⟩).1, (show _ ∧ _ from ⟨p59, p60⟩).2, i_x11.1, i_x11.2, i_x13.1, i_x13.2⟩) [3, 4, 0, 5, 6, 1, 2] (by decide) rfl (Nat.le_of_ble_eq_true rfl) (Nat.le_of_ble_eq_true rfl)
        · skip
          have k61 : ¬ ((Int32.toInt x0) = 7) := fun h_9 => c49 ((fa_eq x0 7).mpr h_9)
          by_cases c62 : x0 = 8
          · skip
            have k63 : (Int32.toInt x0) = 8 := (fa_eq x0 8).mp c62
            refine r_tableIn 1 108 8 C dX0_hintOrMove_1 c62 (by decide) (by decide) rfl (by decide) ?_
            refine r_aload_n 108 0 C dX0_hintOrMove_108 rfl ?_
            refine r_callVi 109 C dX0_hintOrMove_109 [] [(h0, .inr (0, [.ref h1, .ref h2, .ref h3, .int x1, .int x2, .long y0, .int x3, .int x4, .int x5, .int x6, .ref h7, .ref h8, .ref h9, .int x7, .int x8])), (h1, .inr (6, [.ref h4, .ref h10, .int x9, .int x10])), (h3, .inr (3, [.ref h11, .ref h12, .ref h13, .ref h14, .int x14, .int x15, .int x16])), (h4, .inl (gJ g, 48, .inr (.inl fm0)))] [(h2, .inr (5, [.ref h5, .ref h6, .int x11, .int x12, .long y1, .long y2, .int x13])), (h5, .inl (gB g, 400, .inl fn0)), (h6, .inl (gJ g, 2400, .inr (.inl fm1)))] (fun sz => c292_X0_stems l g h0 h1 h3 h4 h2 x1 x2 y0 x3 x4 x5 x6 h7 h8 h9 x7 x8 h10 x9 x10 h11 h12 h13 h14 x14 x15 x16 fm0 i_x6 i_x7 i_x8 i_x9 i_x10 sz) gX0_hintOrMove_X0_stems rfl ⟨rfl, rfl⟩ 0 (by decide) ⟨Nat.le_of_ble_eq_true rfl, Nat.le_of_ble_eq_true rfl⟩ 0 rfl rfl [0, 1, 3, 4] [2, 5, 6] rfl rfl (by decide) (by decide) (by decide) rfl rfl (Nat.le_of_ble_eq_true rfl) ⟨Nat.le_of_ble_eq_true rfl, Nat.le_of_ble_eq_true rfl⟩ (fun r67 u69 w68 => ?_)
            obtain ⟨z64, z65, z66⟩ := u69
            refine r_ws [(h2, .inr (5, [.ref h5, .ref h6, .int x11, .int x12, .long y1, .long y2, .int x13])), (h5, .inl (gB g, 400, .inl fn0)), (h6, .inl (gJ g, 2400, .inr (.inl fm1))), (h0, .inr (0, [.ref h1, .ref h2, .ref h3, .int x1, .int z64, .long z65, .int x3, .int x4, .int x5, .int x6, .ref h7, .ref h8, .ref h9, .int x7, .int z66])), (h1, .inr (6, [.ref h4, .ref h10, .int x9, .int x10])), (h3, .inr (3, [.ref h11, .ref h12, .ref h13, .ref h14, .int x14, .int x15, .int x16])), (h4, .inl (gJ g, 48, .inr (.inl fm0)))] rfl ?_
            have gz64 := fb_rng z64
            have gz65 := fb_rngL z65
            have p70 : 0 ≤ (Int32.toInt r67) := w68.1
            have p71 : (Int32.toInt r67) ≤ 2 := w68.2.1
            have p72 : 0 ≤ (Int32.toInt z66) := w68.2.2.1
            have p73 : (Int32.toInt z66) ≤ 1 := w68.2.2.2
            exact r_iret 112 Rt dX0_hintOrMove_112 (z64, z65, x5, x6, z66, x11, y1, y2, x13, fn0, fm1) (show 0 ≤ (Int32.toInt r67) ∧ (Int32.toInt r67) ≤ 7 ∧ 0 ≤ (Int32.toInt x6) ∧ (Int32.toInt x6) ≤ 1 ∧ 0 ≤ (Int32.toInt z66) ∧ (Int32.toInt z66) ≤ 1 ∧ 0 ≤ (Int32.toInt x11) ∧ (Int32.toInt x11) ≤ 400 ∧ 0 ≤ (Int32.toInt x13) ∧ (Int32.toInt x13) ≤ 1 from ⟨(iv_wide (c := 0) (d := 7) ⟨p70, p71⟩ (by decide) (by decide)).1, (iv_wide (c := 0) (d := 7) ⟨p70, p71⟩ (by decide) (by decide)).2, i_x6.1, i_x6.2, (show _ ∧ _ from ⟨p72, p73⟩).1, (show _ ∧ _ from ⟨p72, p73⟩).2, i_x11.1, i_x11.2, i_x13.1, i_x13.2⟩) [3, 4, 0, 5, 6, 1, 2] (by decide) rfl (Nat.le_of_ble_eq_true rfl) (Nat.le_of_ble_eq_true rfl)
          · skip
            have k74 : ¬ ((Int32.toInt x0) = 8) := fun h_9 => c62 ((fa_eq x0 8).mpr h_9)
            by_cases c75 : x0 = 9
            · skip
              have k76 : (Int32.toInt x0) = 9 := (fa_eq x0 9).mp c75
              refine r_tableIn 1 108 9 C dX0_hintOrMove_1 c75 (by decide) (by decide) rfl (by decide) ?_
              refine r_aload_n 108 0 C dX0_hintOrMove_108 rfl ?_
              refine r_callVi 109 C dX0_hintOrMove_109 [] [(h0, .inr (0, [.ref h1, .ref h2, .ref h3, .int x1, .int x2, .long y0, .int x3, .int x4, .int x5, .int x6, .ref h7, .ref h8, .ref h9, .int x7, .int x8])), (h1, .inr (6, [.ref h4, .ref h10, .int x9, .int x10])), (h3, .inr (3, [.ref h11, .ref h12, .ref h13, .ref h14, .int x14, .int x15, .int x16])), (h4, .inl (gJ g, 48, .inr (.inl fm0)))] [(h2, .inr (5, [.ref h5, .ref h6, .int x11, .int x12, .long y1, .long y2, .int x13])), (h5, .inl (gB g, 400, .inl fn0)), (h6, .inl (gJ g, 2400, .inr (.inl fm1)))] (fun sz => c292_X0_stems l g h0 h1 h3 h4 h2 x1 x2 y0 x3 x4 x5 x6 h7 h8 h9 x7 x8 h10 x9 x10 h11 h12 h13 h14 x14 x15 x16 fm0 i_x6 i_x7 i_x8 i_x9 i_x10 sz) gX0_hintOrMove_X0_stems rfl ⟨rfl, rfl⟩ 0 (by decide) ⟨Nat.le_of_ble_eq_true rfl, Nat.le_of_ble_eq_true rfl⟩ 0 rfl rfl [0, 1, 3, 4] [2, 5, 6] rfl rfl (by decide) (by decide) (by decide) rfl rfl (Nat.le_of_ble_eq_true rfl) ⟨Nat.le_of_ble_eq_true rfl, Nat.le_of_ble_eq_true rfl⟩ (fun r80 u82 w81 => ?_)
              obtain ⟨z77, z78, z79⟩ := u82
              refine r_ws [(h2, .inr (5, [.ref h5, .ref h6, .int x11, .int x12, .long y1, .long y2, .int x13])), (h5, .inl (gB g, 400, .inl fn0)), (h6, .inl (gJ g, 2400, .inr (.inl fm1))), (h0, .inr (0, [.ref h1, .ref h2, .ref h3, .int x1, .int z77, .long z78, .int x3, .int x4, .int x5, .int x6, .ref h7, .ref h8, .ref h9, .int x7, .int z79])), (h1, .inr (6, [.ref h4, .ref h10, .int x9, .int x10])), (h3, .inr (3, [.ref h11, .ref h12, .ref h13, .ref h14, .int x14, .int x15, .int x16])), (h4, .inl (gJ g, 48, .inr (.inl fm0)))] rfl ?_
              have gz77 := fb_rng z77
              have gz78 := fb_rngL z78
              have p83 : 0 ≤ (Int32.toInt r80) := w81.1
              have p84 : (Int32.toInt r80) ≤ 2 := w81.2.1
              have p85 : 0 ≤ (Int32.toInt z79) := w81.2.2.1
              have p86 : (Int32.toInt z79) ≤ 1 := w81.2.2.2
              exact r_iret 112 Rt dX0_hintOrMove_112 (z77, z78, x5, x6, z79, x11, y1, y2, x13, fn0, fm1) (show 0 ≤ (Int32.toInt r80) ∧ (Int32.toInt r80) ≤ 7 ∧ 0 ≤ (Int32.toInt x6) ∧ (Int32.toInt x6) ≤ 1 ∧ 0 ≤ (Int32.toInt z79) ∧ (Int32.toInt z79) ≤ 1 ∧ 0 ≤ (Int32.toInt x11) ∧ (Int32.toInt x11) ≤ 400 ∧ 0 ≤ (Int32.toInt x13) ∧ (Int32.toInt x13) ≤ 1 from ⟨(iv_wide (c := 0) (d := 7) ⟨p83, p84⟩ (by decide) (by decide)).1, (iv_wide (c := 0) (d := 7) ⟨p83, p84⟩ (by decide) (by decide)).2, i_x6.1, i_x6.2, (show _ ∧ _ from ⟨p85, p86⟩).1, (show _ ∧ _ from ⟨p85, p86⟩).2, i_x11.1, i_x11.2, i_x13.1, i_x13.2⟩) [3, 4, 0, 5, 6, 1, 2] (by decide) rfl (Nat.le_of_ble_eq_true rfl) (Nat.le_of_ble_eq_true rfl)
            · skip
              have k87 : ¬ ((Int32.toInt x0) = 9) := fun h_9 => c75 ((fa_eq x0 9).mpr h_9)
              by_cases c88 : x0 = 10
              · skip
                have k89 : (Int32.toInt x0) = 10 := (fa_eq x0 10).mp c88
                refine r_tableIn 1 108 10 C dX0_hintOrMove_1 c88 (by decide) (by decide) rfl (by decide) ?_
                refine r_aload_n 108 0 C dX0_hintOrMove_108 rfl ?_
                refine r_callVi 109 C dX0_hintOrMove_109 [] [(h0, .inr (0, [.ref h1, .ref h2, .ref h3, .int x1, .int x2, .long y0, .int x3, .int x4, .int x5, .int x6, .ref h7, .ref h8, .ref h9, .int x7, .int x8])), (h1, .inr (6, [.ref h4, .ref h10, .int x9, .int x10])), (h3, .inr (3, [.ref h11, .ref h12, .ref h13, .ref h14, .int x14, .int x15, .int x16])), (h4, .inl (gJ g, 48, .inr (.inl fm0)))] [(h2, .inr (5, [.ref h5, .ref h6, .int x11, .int x12, .long y1, .long y2, .int x13])), (h5, .inl (gB g, 400, .inl fn0)), (h6, .inl (gJ g, 2400, .inr (.inl fm1)))] (fun sz => c292_X0_stems l g h0 h1 h3 h4 h2 x1 x2 y0 x3 x4 x5 x6 h7 h8 h9 x7 x8 h10 x9 x10 h11 h12 h13 h14 x14 x15 x16 fm0 i_x6 i_x7 i_x8 i_x9 i_x10 sz) gX0_hintOrMove_X0_stems rfl ⟨rfl, rfl⟩ 0 (by decide) ⟨Nat.le_of_ble_eq_true rfl, Nat.le_of_ble_eq_true rfl⟩ 0 rfl rfl [0, 1, 3, 4] [2, 5, 6] rfl rfl (by decide) (by decide) (by decide) rfl rfl (Nat.le_of_ble_eq_true rfl) ⟨Nat.le_of_ble_eq_true rfl, Nat.le_of_ble_eq_true rfl⟩ (fun r93 u95 w94 => ?_)
                obtain ⟨z90, z91, z92⟩ := u95
                refine r_ws [(h2, .inr (5, [.ref h5, .ref h6, .int x11, .int x12, .long y1, .long y2, .int x13])), (h5, .inl (gB g, 400, .inl fn0)), (h6, .inl (gJ g, 2400, .inr (.inl fm1))), (h0, .inr (0, [.ref h1, .ref h2, .ref h3, .int x1, .int z90, .long z91, .int x3, .int x4, .int x5, .int x6, .ref h7, .ref h8, .ref h9, .int x7, .int z92])), (h1, .inr (6, [.ref h4, .ref h10, .int x9, .int x10])), (h3, .inr (3, [.ref h11, .ref h12, .ref h13, .ref h14, .int x14, .int x15, .int x16])), (h4, .inl (gJ g, 48, .inr (.inl fm0)))] rfl ?_
                have gz90 := fb_rng z90
                have gz91 := fb_rngL z91
                have p96 : 0 ≤ (Int32.toInt r93) := w94.1
                have p97 : (Int32.toInt r93) ≤ 2 := w94.2.1
                have p98 : 0 ≤ (Int32.toInt z92) := w94.2.2.1
                have p99 : (Int32.toInt z92) ≤ 1 := w94.2.2.2
                exact r_iret 112 Rt dX0_hintOrMove_112 (z90, z91, x5, x6, z92, x11, y1, y2, x13, fn0, fm1) (show 0 ≤ (Int32.toInt r93) ∧ (Int32.toInt r93) ≤ 7 ∧ 0 ≤ (Int32.toInt x6) ∧ (Int32.toInt x6) ≤ 1 ∧ 0 ≤ (Int32.toInt z92) ∧ (Int32.toInt z92) ≤ 1 ∧ 0 ≤ (Int32.toInt x11) ∧ (Int32.toInt x11) ≤ 400 ∧ 0 ≤ (Int32.toInt x13) ∧ (Int32.toInt x13) ≤ 1 from ⟨(iv_wide (c := 0) (d := 7) ⟨p96, p97⟩ (by decide) (by decide)).1, (iv_wide (c := 0) (d := 7) ⟨p96, p97⟩ (by decide) (by decide)).2, i_x6.1, i_x6.2, (show _ ∧ _ from ⟨p98, p99⟩).1, (show _ ∧ _ from ⟨p98, p99⟩).2, i_x11.1, i_x11.2, i_x13.1, i_x13.2⟩) [3, 4, 0, 5, 6, 1, 2] (by decide) rfl (Nat.le_of_ble_eq_true rfl) (Nat.le_of_ble_eq_true rfl)
              · skip
                have k100 : ¬ ((Int32.toInt x0) = 10) := fun h_9 => c88 ((fa_eq x0 10).mpr h_9)
                by_cases c101 : x0 = 11
                · skip
                  have k102 : (Int32.toInt x0) = 11 := (fa_eq x0 11).mp c101
                  refine r_tableIn 1 108 11 C dX0_hintOrMove_1 c101 (by decide) (by decide) rfl (by decide) ?_
                  refine r_aload_n 108 0 C dX0_hintOrMove_108 rfl ?_
                  refine r_callVi 109 C dX0_hintOrMove_109 [] [(h0, .inr (0, [.ref h1, .ref h2, .ref h3, .int x1, .int x2, .long y0, .int x3, .int x4, .int x5, .int x6, .ref h7, .ref h8, .ref h9, .int x7, .int x8])), (h1, .inr (6, [.ref h4, .ref h10, .int x9, .int x10])), (h3, .inr (3, [.ref h11, .ref h12, .ref h13, .ref h14, .int x14, .int x15, .int x16])), (h4, .inl (gJ g, 48, .inr (.inl fm0)))] [(h2, .inr (5, [.ref h5, .ref h6, .int x11, .int x12, .long y1, .long y2, .int x13])), (h5, .inl (gB g, 400, .inl fn0)), (h6, .inl (gJ g, 2400, .inr (.inl fm1)))] (fun sz => c292_X0_stems l g h0 h1 h3 h4 h2 x1 x2 y0 x3 x4 x5 x6 h7 h8 h9 x7 x8 h10 x9 x10 h11 h12 h13 h14 x14 x15 x16 fm0 i_x6 i_x7 i_x8 i_x9 i_x10 sz) gX0_hintOrMove_X0_stems rfl ⟨rfl, rfl⟩ 0 (by decide) ⟨Nat.le_of_ble_eq_true rfl, Nat.le_of_ble_eq_true rfl⟩ 0 rfl rfl [0, 1, 3, 4] [2, 5, 6] rfl rfl (by decide) (by decide) (by decide) rfl rfl (Nat.le_of_ble_eq_true rfl) ⟨Nat.le_of_ble_eq_true rfl, Nat.le_of_ble_eq_true rfl⟩ (fun r106 u108 w107 => ?_)
                  obtain ⟨z103, z104, z105⟩ := u108
                  refine r_ws [(h2, .inr (5, [.ref h5, .ref h6, .int x11, .int x12, .long y1, .long y2, .int x13])), (h5, .inl (gB g, 400, .inl fn0)), (h6, .inl (gJ g, 2400, .inr (.inl fm1))), (h0, .inr (0, [.ref h1, .ref h2, .ref h3, .int x1, .int z103, .long z104, .int x3, .int x4, .int x5, .int x6, .ref h7, .ref h8, .ref h9, .int x7, .int z105])), (h1, .inr (6, [.ref h4, .ref h10, .int x9, .int x10])), (h3, .inr (3, [.ref h11, .ref h12, .ref h13, .ref h14, .int x14, .int x15, .int x16])), (h4, .inl (gJ g, 48, .inr (.inl fm0)))] rfl ?_
                  have gz103 := fb_rng z103
                  have gz104 := fb_rngL z104
                  have p109 : 0 ≤ (Int32.toInt r106) := w107.1
                  have p110 : (Int32.toInt r106) ≤ 2 := w107.2.1
                  have p111 : 0 ≤ (Int32.toInt z105) := w107.2.2.1
                  have p112 : (Int32.toInt z105) ≤ 1 := w107.2.2.2
                  exact r_iret 112 Rt dX0_hintOrMove_112 (z103, z104, x5, x6, z105, x11, y1, y2, x13, fn0, fm1) (show 0 ≤ (Int32.toInt r106) ∧ (Int32.toInt r106) ≤ 7 ∧ 0 ≤ (Int32.toInt x6) ∧ (Int32.toInt x6) ≤ 1 ∧ 0 ≤ (Int32.toInt z105) ∧ (Int32.toInt z105) ≤ 1 ∧ 0 ≤ (Int32.toInt x11) ∧ (Int32.toInt x11) ≤ 400 ∧ 0 ≤ (Int32.toInt x13) ∧ (Int32.toInt x13) ≤ 1 from ⟨(iv_wide (c := 0) (d := 7) ⟨p109, p110⟩ (by decide) (by decide)).1, (iv_wide (c := 0) (d := 7) ⟨p109, p110⟩ (by decide) (by decide)).2, i_x6.1, i_x6.2, (show _ ∧ _ from ⟨p111, p112⟩).1, (show _ ∧ _ from ⟨p111, p112⟩).2, i_x11.1, i_x11.2, i_x13.1, i_x13.2⟩) [3, 4, 0, 5, 6, 1, 2] (by decide) rfl (Nat.le_of_ble_eq_true rfl) (Nat.le_of_ble_eq_true rfl)
                · skip
                  have k113 : ¬ ((Int32.toInt x0) = 11) := fun h_9 => c101 ((fa_eq x0 11).mpr h_9)
                  by_cases c114 : x0 = 12
                  · skip
                    have k115 : (Int32.toInt x0) = 12 := (fa_eq x0 12).mp c114
                    refine r_tableIn 1 108 12 C dX0_hintOrMove_1 c114 (by decide) (by decide) rfl (by decide) ?_
                    refine r_aload_n 108 0 C dX0_hintOrMove_108 rfl ?_
                    refine r_callVi 109 C dX0_hintOrMove_109 [] [(h0, .inr (0, [.ref h1, .ref h2, .ref h3, .int x1, .int x2, .long y0, .int x3, .int x4, .int x5, .int x6, .ref h7, .ref h8, .ref h9, .int x7, .int x8])), (h1, .inr (6, [.ref h4, .ref h10, .int x9, .int x10])), (h3, .inr (3, [.ref h11, .ref h12, .ref h13, .ref h14, .int x14, .int x15, .int x16])), (h4, .inl (gJ g, 48, .inr (.inl fm0)))] [(h2, .inr (5, [.ref h5, .ref h6, .int x11, .int x12, .long y1, .long y2, .int x13])), (h5, .inl (gB g, 400, .inl fn0)), (h6, .inl (gJ g, 2400, .inr (.inl fm1)))] (fun sz => c292_X0_stems l g h0 h1 h3 h4 h2 x1 x2 y0 x3 x4 x5 x6 h7 h8 h9 x7 x8 h10 x9 x10 h11 h12 h13 h14 x14 x15 x16 fm0 i_x6 i_x7 i_x8 i_x9 i_x10 sz) gX0_hintOrMove_X0_stems rfl ⟨rfl, rfl⟩ 0 (by decide) ⟨Nat.le_of_ble_eq_true rfl, Nat.le_of_ble_eq_true rfl⟩ 0 rfl rfl [0, 1, 3, 4] [2, 5, 6] rfl rfl (by decide) (by decide) (by decide) rfl rfl (Nat.le_of_ble_eq_true rfl) ⟨Nat.le_of_ble_eq_true rfl, Nat.le_of_ble_eq_true rfl⟩ (fun r119 u121 w120 => ?_)
                    obtain ⟨z116, z117, z118⟩ := u121
                    refine r_ws [(h2, .inr (5, [.ref h5, .ref h6, .int x11, .int x12, .long y1, .long y2, .int x13])), (h5, .inl (gB g, 400, .inl fn0)), (h6, .inl (gJ g, 2400, .inr (.inl fm1))), (h0, .inr (0, [.ref h1, .ref h2, .ref h3, .int x1, .int z116, .long z117, .int x3, .int x4, .int x5, .int x6, .ref h7, .ref h8, .ref h9, .int x7, .int z118])), (h1, .inr (6, [.ref h4, .ref h10, .int x9, .int x10])), (h3, .inr (3, [.ref h11, .ref h12, .ref h13, .ref h14, .int x14, .int x15, .int x16])), (h4, .inl (gJ g, 48, .inr (.inl fm0)))] rfl ?_
                    have gz116 := fb_rng z116
                    have gz117 := fb_rngL z117
                    have p122 : 0 ≤ (Int32.toInt r119) := w120.1
                    have p123 : (Int32.toInt r119) ≤ 2 := w120.2.1
                    have p124 : 0 ≤ (Int32.toInt z118) := w120.2.2.1
                    have p125 : (Int32.toInt z118) ≤ 1 := w120.2.2.2
                    exact r_iret 112 Rt dX0_hintOrMove_112 (z116, z117, x5, x6, z118, x11, y1, y2, x13, fn0, fm1) (show 0 ≤ (Int32.toInt r119) ∧ (Int32.toInt r119) ≤ 7 ∧ 0 ≤ (Int32.toInt x6) ∧ (Int32.toInt x6) ≤ 1 ∧ 0 ≤ (Int32.toInt z118) ∧ (Int32.toInt z118) ≤ 1 ∧ 0 ≤ (Int32.toInt x11) ∧ (Int32.toInt x11) ≤ 400 ∧ 0 ≤ (Int32.toInt x13) ∧ (Int32.toInt x13) ≤ 1 from ⟨(iv_wide (c := 0) (d := 7) ⟨p122, p123⟩ (by decide) (by decide)).1, (iv_wide (c := 0) (d := 7) ⟨p122, p123⟩ (by decide) (by decide)).2, i_x6.1, i_x6.2, (show _ ∧ _ from ⟨p124, p125⟩).1, (show _ ∧ _ from ⟨p124, p125⟩).2, i_x11.1, i_x11.2, i_x13.1, i_x13.2⟩) [3, 4, 0, 5, 6, 1, 2] (by decide) rfl (Nat.le_of_ble_eq_true rfl) (Nat.le_of_ble_eq_true rfl)
                  · skip
                    have k126 : ¬ ((Int32.toInt x0) = 12) := fun h_9 => c114 ((fa_eq x0 12).mpr h_9)
                    by_cases c127 : x0 = 13
                    · skip
                      have k128 : (Int32.toInt x0) = 13 := (fa_eq x0 13).mp c127
                      refine r_tableIn 1 108 13 C dX0_hintOrMove_1 c127 (by decide) (by decide) rfl (by decide) ?_
                      refine r_aload_n 108 0 C dX0_hintOrMove_108 rfl ?_
                      refine r_callVi 109 C dX0_hintOrMove_109 [] [(h0, .inr (0, [.ref h1, .ref h2, .ref h3, .int x1, .int x2, .long y0, .int x3, .int x4, .int x5, .int x6, .ref h7, .ref h8, .ref h9, .int x7, .int x8])), (h1, .inr (6, [.ref h4, .ref h10, .int x9, .int x10])), (h3, .inr (3, [.ref h11, .ref h12, .ref h13, .ref h14, .int x14, .int x15, .int x16])), (h4, .inl (gJ g, 48, .inr (.inl fm0)))] [(h2, .inr (5, [.ref h5, .ref h6, .int x11, .int x12, .long y1, .long y2, .int x13])), (h5, .inl (gB g, 400, .inl fn0)), (h6, .inl (gJ g, 2400, .inr (.inl fm1)))] (fun sz => c292_X0_stems l g h0 h1 h3 h4 h2 x1 x2 y0 x3 x4 x5 x6 h7 h8 h9 x7 x8 h10 x9 x10 h11 h12 h13 h14 x14 x15 x16 fm0 i_x6 i_x7 i_x8 i_x9 i_x10 sz) gX0_hintOrMove_X0_stems rfl ⟨rfl, rfl⟩ 0 (by decide) ⟨Nat.le_of_ble_eq_true rfl, Nat.le_of_ble_eq_true rfl⟩ 0 rfl rfl [0, 1, 3, 4] [2, 5, 6] rfl rfl (by decide) (by decide) (by decide) rfl rfl (Nat.le_of_ble_eq_true rfl) ⟨Nat.le_of_ble_eq_true rfl, Nat.le_of_ble_eq_true rfl⟩ (fun r132 u134 w133 => ?_)
                      obtain ⟨z129, z130, z131⟩ := u134
                      refine r_ws [(h2, .inr (5, [.ref h5, .ref h6, .int x11, .int x12, .long y1, .long y2, .int x13])), (h5, .inl (gB g, 400, .inl fn0)), (h6, .inl (gJ g, 2400, .inr (.inl fm1))), (h0, .inr (0, [.ref h1, .ref h2, .ref h3, .int x1, .int z129, .long z130, .int x3, .int x4, .int x5, .int x6, .ref h7, .ref h8, .ref h9, .int x7, .int z131])), (h1, .inr (6, [.ref h4, .ref h10, .int x9, .int x10])), (h3, .inr (3, [.ref h11, .ref h12, .ref h13, .ref h14, .int x14, .int x15, .int x16])), (h4, .inl (gJ g, 48, .inr (.inl fm0)))] rfl ?_
                      have gz129 := fb_rng z129
                      have gz130 := fb_rngL z130
                      have p135 : 0 ≤ (Int32.toInt r132) := w133.1
                      have p136 : (Int32.toInt r132) ≤ 2 := w133.2.1
                      have p137 : 0 ≤ (Int32.toInt z131) := w133.2.2.1
                      have p138 : (Int32.toInt z131) ≤ 1 := w133.2.2.2
                      exact r_iret 112 Rt dX0_hintOrMove_112 (z129, z130, x5, x6, z131, x11, y1, y2, x13, fn0, fm1) (show 0 ≤ (Int32.toInt r132) ∧ (Int32.toInt r132) ≤ 7 ∧ 0 ≤ (Int32.toInt x6) ∧ (Int32.toInt x6) ≤ 1 ∧ 0 ≤ (Int32.toInt z131) ∧ (Int32.toInt z131) ≤ 1 ∧ 0 ≤ (Int32.toInt x11) ∧ (Int32.toInt x11) ≤ 400 ∧ 0 ≤ (Int32.toInt x13) ∧ (Int32.toInt x13) ≤ 1 from ⟨(iv_wide (c := 0) (d := 7) ⟨p135, p136⟩ (by decide) (by decide)).1, (iv_wide (c := 0) (d := 7) ⟨p135, p136⟩ (by decide) (by decide)).2, i_x6.1, i_x6.2, (show _ ∧ _ from ⟨p137, p138⟩).1, (show _ ∧ _ from ⟨p137, p138⟩).2, i_x11.1, i_x11.2, i_x13.1, i_x13.2⟩) [3, 4, 0, 5, 6, 1, 2] (by decide) rfl (Nat.le_of_ble_eq_true rfl) (Nat.le_of_ble_eq_true rfl)
                    · skip
                      have k139 : ¬ ((Int32.toInt x0) = 13) := fun h_9 => c127 ((fa_eq x0 13).mpr h_9)
                      by_cases c140 : x0 = 14
                      · skip
                        have k141 : (Int32.toInt x0) = 14 := (fa_eq x0 14).mp c140
                        refine r_tableIn 1 103 14 C dX0_hintOrMove_1 c140 (by decide) (by decide) rfl (by decide) ?_
                        refine r_aload_n 103 0 C dX0_hintOrMove_103 rfl ?_
                        refine r_callVi 104 C dX0_hintOrMove_104 [] [(h0, .inr (0, [.ref h1, .ref h2, .ref h3, .int x1, .int x2, .long y0, .int x3, .int x4, .int x5, .int x6, .ref h7, .ref h8, .ref h9, .int x7, .int x8])), (h1, .inr (6, [.ref h4, .ref h10, .int x9, .int x10])), (h2, .inr (5, [.ref h5, .ref h6, .int x11, .int x12, .long y1, .long y2, .int x13])), (h3, .inr (3, [.ref h11, .ref h12, .ref h13, .ref h14, .int x14, .int x15, .int x16])), (h4, .inl (gJ g, 48, .inr (.inl fm0))), (h5, .inl (gB g, 400, .inl fn0)), (h6, .inl (gJ g, 2400, .inr (.inl fm1)))] [] (fun sz => c294_X0_endLetter l g h0 h1 h2 h3 h4 h5 h6 x1 x2 y0 x3 x4 x5 x6 h7 h8 h9 x7 x8 h10 x9 x10 x11 x12 y1 y2 x13 h11 h12 h13 h14 x14 x15 x16 fm0 fn0 fm1 i_x6 i_x7 i_x8 i_x9 i_x10 i_x11 i_x12 i_x13 sz) gX0_hintOrMove_X0_endLetter rfl ⟨rfl, rfl⟩ 0 (by decide) ⟨Nat.le_of_ble_eq_true rfl, Nat.le_of_ble_eq_true rfl⟩ 0 rfl rfl [0, 1, 2, 3, 4, 5, 6] [] rfl rfl (by decide) (by decide) (by decide) rfl rfl (Nat.le_of_ble_eq_true rfl) ⟨Nat.le_of_ble_eq_true rfl, Nat.le_of_ble_eq_true rfl⟩ (fun r148 u150 w149 => ?_)
                        obtain ⟨z142, z143, z144, z145, f146, f147⟩ := u150
                        refine r_ws [(h0, .inr (0, [.ref h1, .ref h2, .ref h3, .int x1, .int x2, .long z142, .int x3, .int x4, .int x5, .int z143, .ref h7, .ref h8, .ref h9, .int x7, .int z144])), (h1, .inr (6, [.ref h4, .ref h10, .int x9, .int x10])), (h2, .inr (5, [.ref h5, .ref h6, .int z145, .int x12, .long y1, .long y2, .int x13])), (h3, .inr (3, [.ref h11, .ref h12, .ref h13, .ref h14, .int x14, .int x15, .int x16])), (h4, .inl (gJ g, 48, .inr (.inl fm0))), (h5, .inl (gB g, 400, .inl f146)), (h6, .inl (gJ g, 2400, .inr (.inl f147)))] rfl ?_
                        have gz142 := fb_rngL z142
                        have p151 : 0 ≤ (Int32.toInt r148) := w149.1
                        have p152 : (Int32.toInt r148) ≤ 6 := w149.2.1
                        have p153 : 0 ≤ (Int32.toInt z143) := w149.2.2.1
                        have p154 : (Int32.toInt z143) ≤ 1 := w149.2.2.2.1
                        have p155 : 0 ≤ (Int32.toInt z144) := w149.2.2.2.2.1
                        have p156 : (Int32.toInt z144) ≤ 1 := w149.2.2.2.2.2.1
                        have p157 : 0 ≤ (Int32.toInt z145) := w149.2.2.2.2.2.2.1
                        have p158 : (Int32.toInt z145) ≤ 400 := w149.2.2.2.2.2.2.2
                        exact r_iret 107 Rt dX0_hintOrMove_107 (x2, z142, x5, z143, z144, z145, y1, y2, x13, f146, f147) (show 0 ≤ (Int32.toInt r148) ∧ (Int32.toInt r148) ≤ 7 ∧ 0 ≤ (Int32.toInt z143) ∧ (Int32.toInt z143) ≤ 1 ∧ 0 ≤ (Int32.toInt z144) ∧ (Int32.toInt z144) ≤ 1 ∧ 0 ≤ (Int32.toInt z145) ∧ (Int32.toInt z145) ≤ 400 ∧ 0 ≤ (Int32.toInt x13) ∧ (Int32.toInt x13) ≤ 1 from ⟨(iv_wide (c := 0) (d := 7) ⟨p151, p152⟩ (by decide) (by decide)).1, (iv_wide (c := 0) (d := 7) ⟨p151, p152⟩ (by decide) (by decide)).2, (show _ ∧ _ from ⟨p153, p154⟩).1, (show _ ∧ _ from ⟨p153, p154⟩).2, (show _ ∧ _ from ⟨p155, p156⟩).1, (show _ ∧ _ from ⟨p155, p156⟩).2, (show _ ∧ _ from ⟨p157, p158⟩).1, (show _ ∧ _ from ⟨p157, p158⟩).2, i_x13.1, i_x13.2⟩) [0, 1, 2, 3, 4, 5, 6] (by decide) rfl (Nat.le_of_ble_eq_true rfl) (Nat.le_of_ble_eq_true rfl)
                      · skip
                        have k159 : ¬ ((Int32.toInt x0) = 14) := fun h_9 => c140 ((fa_eq x0 14).mpr h_9)
                        by_cases c160 : x0 = 15
                        · skip
                          have k161 : (Int32.toInt x0) = 15 := (fa_eq x0 15).mp c160
                          refine r_tableIn 1 108 15 C dX0_hintOrMove_1 c160 (by decide) (by decide) rfl (by decide) ?_
                          refine r_aload_n 108 0 C dX0_hintOrMove_108 rfl ?_
                          refine r_callVi 109 C dX0_hintOrMove_109 [] [(h0, .inr (0, [.ref h1, .ref h2, .ref h3, .int x1, .int x2, .long y0, .int x3, .int x4, .int x5, .int x6, .ref h7, .ref h8, .ref h9, .int x7, .int x8])), (h1, .inr (6, [.ref h4, .ref h10, .int x9, .int x10])), (h3, .inr (3, [.ref h11, .ref h12, .ref h13, .ref h14, .int x14, .int x15, .int x16])), (h4, .inl (gJ g, 48, .inr (.inl fm0)))] [(h2, .inr (5, [.ref h5, .ref h6, .int x11, .int x12, .long y1, .long y2, .int x13])), (h5, .inl (gB g, 400, .inl fn0)), (h6, .inl (gJ g, 2400, .inr (.inl fm1)))] (fun sz => c292_X0_stems l g h0 h1 h3 h4 h2 x1 x2 y0 x3 x4 x5 x6 h7 h8 h9 x7 x8 h10 x9 x10 h11 h12 h13 h14 x14 x15 x16 fm0 i_x6 i_x7 i_x8 i_x9 i_x10 sz) gX0_hintOrMove_X0_stems rfl ⟨rfl, rfl⟩ 0 (by decide) ⟨Nat.le_of_ble_eq_true rfl, Nat.le_of_ble_eq_true rfl⟩ 0 rfl rfl [0, 1, 3, 4] [2, 5, 6] rfl rfl (by decide) (by decide) (by decide) rfl rfl (Nat.le_of_ble_eq_true rfl) ⟨Nat.le_of_ble_eq_true rfl, Nat.le_of_ble_eq_true rfl⟩ (fun r165 u167 w166 => ?_)
                          obtain ⟨z162, z163, z164⟩ := u167
                          refine r_ws [(h2, .inr (5, [.ref h5, .ref h6, .int x11, .int x12, .long y1, .long y2, .int x13])), (h5, .inl (gB g, 400, .inl fn0)), (h6, .inl (gJ g, 2400, .inr (.inl fm1))), (h0, .inr (0, [.ref h1, .ref h2, .ref h3, .int x1, .int z162, .long z163, .int x3, .int x4, .int x5, .int x6, .ref h7, .ref h8, .ref h9, .int x7, .int z164])), (h1, .inr (6, [.ref h4, .ref h10, .int x9, .int x10])), (h3, .inr (3, [.ref h11, .ref h12, .ref h13, .ref h14, .int x14, .int x15, .int x16])), (h4, .inl (gJ g, 48, .inr (.inl fm0)))] rfl ?_
                          have gz162 := fb_rng z162
                          have gz163 := fb_rngL z163
                          have p168 : 0 ≤ (Int32.toInt r165) := w166.1
                          have p169 : (Int32.toInt r165) ≤ 2 := w166.2.1
                          have p170 : 0 ≤ (Int32.toInt z164) := w166.2.2.1
                          have p171 : (Int32.toInt z164) ≤ 1 := w166.2.2.2
                          exact r_iret 112 Rt dX0_hintOrMove_112 (z162, z163, x5, x6, z164, x11, y1, y2, x13, fn0, fm1) (show 0 ≤ (Int32.toInt r165) ∧ (Int32.toInt r165) ≤ 7 ∧ 0 ≤ (Int32.toInt x6) ∧ (Int32.toInt x6) ≤ 1 ∧ 0 ≤ (Int32.toInt z164) ∧ (Int32.toInt z164) ≤ 1 ∧ 0 ≤ (Int32.toInt x11) ∧ (Int32.toInt x11) ≤ 400 ∧ 0 ≤ (Int32.toInt x13) ∧ (Int32.toInt x13) ≤ 1 from ⟨(iv_wide (c := 0) (d := 7) ⟨p168, p169⟩ (by decide) (by decide)).1, (iv_wide (c := 0) (d := 7) ⟨p168, p169⟩ (by decide) (by decide)).2, i_x6.1, i_x6.2, (show _ ∧ _ from ⟨p170, p171⟩).1, (show _ ∧ _ from ⟨p170, p171⟩).2, i_x11.1, i_x11.2, i_x13.1, i_x13.2⟩) [3, 4, 0, 5, 6, 1, 2] (by decide) rfl (Nat.le_of_ble_eq_true rfl) (Nat.le_of_ble_eq_true rfl)
                        · skip
                          have k172 : ¬ ((Int32.toInt x0) = 15) := fun h_9 => c160 ((fa_eq x0 15).mpr h_9)
                          by_cases c173 : x0 = 16
                          · skip
                            have k174 : (Int32.toInt x0) = 16 := (fa_eq x0 16).mp c173
                            refine r_tableIn 1 108 16 C dX0_hintOrMove_1 c173 (by decide) (by decide) rfl (by decide) ?_
                            refine r_aload_n 108 0 C dX0_hintOrMove_108 rfl ?_
                            refine r_callVi 109 C dX0_hintOrMove_109 [] [(h0, .inr (0, [.ref h1, .ref h2, .ref h3, .int x1, .int x2, .long y0, .int x3, .int x4, .int x5, .int x6, .ref h7, .ref h8, .ref h9, .int x7, .int x8])), (h1, .inr (6, [.ref h4, .ref h10, .int x9, .int x10])), (h3, .inr (3, [.ref h11, .ref h12, .ref h13, .ref h14, .int x14, .int x15, .int x16])), (h4, .inl (gJ g, 48, .inr (.inl fm0)))] [(h2, .inr (5, [.ref h5, .ref h6, .int x11, .int x12, .long y1, .long y2, .int x13])), (h5, .inl (gB g, 400, .inl fn0)), (h6, .inl (gJ g, 2400, .inr (.inl fm1)))] (fun sz => c292_X0_stems l g h0 h1 h3 h4 h2 x1 x2 y0 x3 x4 x5 x6 h7 h8 h9 x7 x8 h10 x9 x10 h11 h12 h13 h14 x14 x15 x16 fm0 i_x6 i_x7 i_x8 i_x9 i_x10 sz) gX0_hintOrMove_X0_stems rfl ⟨rfl, rfl⟩ 0 (by decide) ⟨Nat.le_of_ble_eq_true rfl, Nat.le_of_ble_eq_true rfl⟩ 0 rfl rfl [0, 1, 3, 4] [2, 5, 6] rfl rfl (by decide) (by decide) (by decide) rfl rfl (Nat.le_of_ble_eq_true rfl) ⟨Nat.le_of_ble_eq_true rfl, Nat.le_of_ble_eq_true rfl⟩ (fun r178 u180 w179 => ?_)
                            obtain ⟨z175, z176, z177⟩ := u180
                            refine r_ws [(h2, .inr (5, [.ref h5, .ref h6, .int x11, .int x12, .long y1, .long y2, .int x13])), (h5, .inl (gB g, 400, .inl fn0)), (h6, .inl (gJ g, 2400, .inr (.inl fm1))), (h0, .inr (0, [.ref h1, .ref h2, .ref h3, .int x1, .int z175, .long z176, .int x3, .int x4, .int x5, .int x6, .ref h7, .ref h8, .ref h9, .int x7, .int z177])), (h1, .inr (6, [.ref h4, .ref h10, .int x9, .int x10])), (h3, .inr (3, [.ref h11, .ref h12, .ref h13, .ref h14, .int x14, .int x15, .int x16])), (h4, .inl (gJ g, 48, .inr (.inl fm0)))] rfl ?_
                            have gz175 := fb_rng z175
                            have gz176 := fb_rngL z176
                            have p181 : 0 ≤ (Int32.toInt r178) := w179.1
                            have p182 : (Int32.toInt r178) ≤ 2 := w179.2.1
                            have p183 : 0 ≤ (Int32.toInt z177) := w179.2.2.1
                            have p184 : (Int32.toInt z177) ≤ 1 := w179.2.2.2
                            exact r_iret 112 Rt dX0_hintOrMove_112 (z175, z176, x5, x6, z177, x11, y1, y2, x13, fn0, fm1) (show 0 ≤ (Int32.toInt r178) ∧ (Int32.toInt r178) ≤ 7 ∧ 0 ≤ (Int32.toInt x6) ∧ (Int32.toInt x6) ≤ 1 ∧ 0 ≤ (Int32.toInt z177) ∧ (Int32.toInt z177) ≤ 1 ∧ 0 ≤ (Int32.toInt x11) ∧ (Int32.toInt x11) ≤ 400 ∧ 0 ≤ (Int32.toInt x13) ∧ (Int32.toInt x13) ≤ 1 from ⟨(iv_wide (c := 0) (d := 7) ⟨p181, p182⟩ (by decide) (by decide)).1, (iv_wide (c := 0) (d := 7) ⟨p181, p182⟩ (by decide) (by decide)).2, i_x6.1, i_x6.2, (show _ ∧ _ from ⟨p183, p184⟩).1, (show _ ∧ _ from ⟨p183, p184⟩).2, i_x11.1, i_x11.2, i_x13.1, i_x13.2⟩) [3, 4, 0, 5, 6, 1, 2] (by decide) rfl (Nat.le_of_ble_eq_true rfl) (Nat.le_of_ble_eq_true rfl)
                          · skip
                            have k185 : ¬ ((Int32.toInt x0) = 16) := fun h_9 => c173 ((fa_eq x0 16).mpr h_9)
                            by_cases c186 : x0 = 17
                            · skip
                              have k187 : (Int32.toInt x0) = 17 := (fa_eq x0 17).mp c186
                              refine r_tableIn 1 108 17 C dX0_hintOrMove_1 c186 (by decide) (by decide) rfl (by decide) ?_
                              refine r_aload_n 108 0 C dX0_hintOrMove_108 rfl ?_
                              refine r_callVi 109 C dX0_hintOrMove_109 [] [(h0, .inr (0, [.ref h1, .ref h2, .ref h3, .int x1, .int x2, .long y0, .int x3, .int x4, .int x5, .int x6, .ref h7, .ref h8, .ref h9, .int x7, .int x8])), (h1, .inr (6, [.ref h4, .ref h10, .int x9, .int x10])), (h3, .inr (3, [.ref h11, .ref h12, .ref h13, .ref h14, .int x14, .int x15, .int x16])), (h4, .inl (gJ g, 48, .inr (.inl fm0)))] [(h2, .inr (5, [.ref h5, .ref h6, .int x11, .int x12, .long y1, .long y2, .int x13])), (h5, .inl (gB g, 400, .inl fn0)), (h6, .inl (gJ g, 2400, .inr (.inl fm1)))] (fun sz => c292_X0_stems l g h0 h1 h3 h4 h2 x1 x2 y0 x3 x4 x5 x6 h7 h8 h9 x7 x8 h10 x9 x10 h11 h12 h13 h14 x14 x15 x16 fm0 i_x6 i_x7 i_x8 i_x9 i_x10 sz) gX0_hintOrMove_X0_stems rfl ⟨rfl, rfl⟩ 0 (by decide) ⟨Nat.le_of_ble_eq_true rfl, Nat.le_of_ble_eq_true rfl⟩ 0 rfl rfl [0, 1, 3, 4] [2, 5, 6] rfl rfl (by decide) (by decide) (by decide) rfl rfl (Nat.le_of_ble_eq_true rfl) ⟨Nat.le_of_ble_eq_true rfl, Nat.le_of_ble_eq_true rfl⟩ (fun r191 u193 w192 => ?_)
                              obtain ⟨z188, z189, z190⟩ := u193
                              refine r_ws [(h2, .inr (5, [.ref h5, .ref h6, .int x11, .int x12, .long y1, .long y2, .int x13])), (h5, .inl (gB g, 400, .inl fn0)), (h6, .inl (gJ g, 2400, .inr (.inl fm1))), (h0, .inr (0, [.ref h1, .ref h2, .ref h3, .int x1, .int z188, .long z189, .int x3, .int x4, .int x5, .int x6, .ref h7, .ref h8, .ref h9, .int x7, .int z190])), (h1, .inr (6, [.ref h4, .ref h10, .int x9, .int x10])), (h3, .inr (3, [.ref h11, .ref h12, .ref h13, .ref h14, .int x14, .int x15, .int x16])), (h4, .inl (gJ g, 48, .inr (.inl fm0)))] rfl ?_
                              have gz188 := fb_rng z188
                              have gz189 := fb_rngL z189
                              have p194 : 0 ≤ (Int32.toInt r191) := w192.1
                              have p195 : (Int32.toInt r191) ≤ 2 := w192.2.1
                              have p196 : 0 ≤ (Int32.toInt z190) := w192.2.2.1
                              have p197 : (Int32.toInt z190) ≤ 1 := w192.2.2.2
                              exact r_iret 112 Rt dX0_hintOrMove_112 (z188, z189, x5, x6, z190, x11, y1, y2, x13, fn0, fm1) (show 0 ≤ (Int32.toInt r191) ∧ (Int32.toInt r191) ≤ 7 ∧ 0 ≤ (Int32.toInt x6) ∧ (Int32.toInt x6) ≤ 1 ∧ 0 ≤ (Int32.toInt z190) ∧ (Int32.toInt z190) ≤ 1 ∧ 0 ≤ (Int32.toInt x11) ∧ (Int32.toInt x11) ≤ 400 ∧ 0 ≤ (Int32.toInt x13) ∧ (Int32.toInt x13) ≤ 1 from ⟨(iv_wide (c := 0) (d := 7) ⟨p194, p195⟩ (by decide) (by decide)).1, (iv_wide (c := 0) (d := 7) ⟨p194, p195⟩ (by decide) (by decide)).2, i_x6.1, i_x6.2, (show _ ∧ _ from ⟨p196, p197⟩).1, (show _ ∧ _ from ⟨p196, p197⟩).2, i_x11.1, i_x11.2, i_x13.1, i_x13.2⟩) [3, 4, 0, 5, 6, 1, 2] (by decide) rfl (Nat.le_of_ble_eq_true rfl) (Nat.le_of_ble_eq_true rfl)
                            · skip
                              have k198 : ¬ ((Int32.toInt x0) = 17) := fun h_9 => c186 ((fa_eq x0 17).mpr h_9)
                              by_cases c199 : x0 = 18
                              · skip
                                have k200 : (Int32.toInt x0) = 18 := (fa_eq x0 18).mp c199
                                refine r_tableIn 1 108 18 C dX0_hintOrMove_1 c199 (by decide) (by decide) rfl (by decide) ?_
                                refine r_aload_n 108 0 C dX0_hintOrMove_108 rfl ?_
                                refine r_callVi 109 C dX0_hintOrMove_109 [] [(h0, .inr (0, [.ref h1, .ref h2, .ref h3, .int x1, .int x2, .long y0, .int x3, .int x4, .int x5, .int x6, .ref h7, .ref h8, .ref h9, .int x7, .int x8])), (h1, .inr (6, [.ref h4, .ref h10, .int x9, .int x10])), (h3, .inr (3, [.ref h11, .ref h12, .ref h13, .ref h14, .int x14, .int x15, .int x16])), (h4, .inl (gJ g, 48, .inr (.inl fm0)))] [(h2, .inr (5, [.ref h5, .ref h6, .int x11, .int x12, .long y1, .long y2, .int x13])), (h5, .inl (gB g, 400, .inl fn0)), (h6, .inl (gJ g, 2400, .inr (.inl fm1)))] (fun sz => c292_X0_stems l g h0 h1 h3 h4 h2 x1 x2 y0 x3 x4 x5 x6 h7 h8 h9 x7 x8 h10 x9 x10 h11 h12 h13 h14 x14 x15 x16 fm0 i_x6 i_x7 i_x8 i_x9 i_x10 sz) gX0_hintOrMove_X0_stems rfl ⟨rfl, rfl⟩ 0 (by decide) ⟨Nat.le_of_ble_eq_true rfl, Nat.le_of_ble_eq_true rfl⟩ 0 rfl rfl [0, 1, 3, 4] [2, 5, 6] rfl rfl (by decide) (by decide) (by decide) rfl rfl (Nat.le_of_ble_eq_true rfl) ⟨Nat.le_of_ble_eq_true rfl, Nat.le_of_ble_eq_true rfl⟩ (fun r204 u206 w205 => ?_)
                                obtain ⟨z201, z202, z203⟩ := u206
                                refine r_ws [(h2, .inr (5, [.ref h5, .ref h6, .int x11, .int x12, .long y1, .long y2, .int x13])), (h5, .inl (gB g, 400, .inl fn0)), (h6, .inl (gJ g, 2400, .inr (.inl fm1))), (h0, .inr (0, [.ref h1, .ref h2, .ref h3, .int x1, .int z201, .long z202, .int x3, .int x4, .int x5, .int x6, .ref h7, .ref h8, .ref h9, .int x7, .int z203])), (h1, .inr (6, [.ref h4, .ref h10, .int x9, .int x10])), (h3, .inr (3, [.ref h11, .ref h12, .ref h13, .ref h14, .int x14, .int x15, .int x16])), (h4, .inl (gJ g, 48, .inr (.inl fm0)))] rfl ?_
                                have gz201 := fb_rng z201
                                have gz202 := fb_rngL z202
                                have p207 : 0 ≤ (Int32.toInt r204) := w205.1
                                have p208 : (Int32.toInt r204) ≤ 2 := w205.2.1
                                have p209 : 0 ≤ (Int32.toInt z203) := w205.2.2.1
                                have p210 : (Int32.toInt z203) ≤ 1 := w205.2.2.2
                                exact r_iret 112 Rt dX0_hintOrMove_112 (z201, z202, x5, x6, z203, x11, y1, y2, x13, fn0, fm1) (show 0 ≤ (Int32.toInt r204) ∧ (Int32.toInt r204) ≤ 7 ∧ 0 ≤ (Int32.toInt x6) ∧ (Int32.toInt x6) ≤ 1 ∧ 0 ≤ (Int32.toInt z203) ∧ (Int32.toInt z203) ≤ 1 ∧ 0 ≤ (Int32.toInt x11) ∧ (Int32.toInt x11) ≤ 400 ∧ 0 ≤ (Int32.toInt x13) ∧ (Int32.toInt x13) ≤ 1 from ⟨(iv_wide (c := 0) (d := 7) ⟨p207, p208⟩ (by decide) (by decide)).1, (iv_wide (c := 0) (d := 7) ⟨p207, p208⟩ (by decide) (by decide)).2, i_x6.1, i_x6.2, (show _ ∧ _ from ⟨p209, p210⟩).1, (show _ ∧ _ from ⟨p209, p210⟩).2, i_x11.1, i_x11.2, i_x13.1, i_x13.2⟩) [3, 4, 0, 5, 6, 1, 2] (by decide) rfl (Nat.le_of_ble_eq_true rfl) (Nat.le_of_ble_eq_true rfl)
                              · skip
                                have k211 : ¬ ((Int32.toInt x0) = 18) := fun h_9 => c199 ((fa_eq x0 18).mpr h_9)
                                by_cases c212 : x0 = 19
                                · skip
                                  have k213 : (Int32.toInt x0) = 19 := (fa_eq x0 19).mp c212
                                  refine r_tableIn 1 92 19 C dX0_hintOrMove_1 c212 (by decide) (by decide) rfl (by decide) ?_
                                  refine r_aload_n 92 0 C dX0_hintOrMove_92 rfl ?_
                                  refine r_callVi 93 C dX0_hintOrMove_93 [] [(h0, .inr (0, [.ref h1, .ref h2, .ref h3, .int x1, .int x2, .long y0, .int x3, .int x4, .int x5, .int x6, .ref h7, .ref h8, .ref h9, .int x7, .int x8])), (h1, .inr (6, [.ref h4, .ref h10, .int x9, .int x10])), (h3, .inr (3, [.ref h11, .ref h12, .ref h13, .ref h14, .int x14, .int x15, .int x16])), (h4, .inl (gJ g, 48, .inr (.inl fm0)))] [(h2, .inr (5, [.ref h5, .ref h6, .int x11, .int x12, .long y1, .long y2, .int x13])), (h5, .inl (gB g, 400, .inl fn0)), (h6, .inl (gJ g, 2400, .inr (.inl fm1)))] (fun sz => c296_X0_mask l g h0 h1 h3 h4 h2 x1 x2 y0 x3 x4 x5 x6 h7 h8 h9 x7 x8 h10 x9 x10 h11 h12 h13 h14 x14 x15 x16 fm0 i_x6 i_x7 i_x8 i_x9 i_x10 sz) gX0_hintOrMove_X0_mask rfl ⟨rfl, rfl⟩ 0 (by decide) ⟨Nat.le_of_ble_eq_true rfl, Nat.le_of_ble_eq_true rfl⟩ 0 rfl rfl [0, 1, 3, 4] [2, 5, 6] rfl rfl (by decide) (by decide) (by decide) rfl rfl (Nat.le_of_ble_eq_true rfl) ⟨Nat.le_of_ble_eq_true rfl, Nat.le_of_ble_eq_true rfl⟩ (fun r218 u220 w219 => ?_)
                                  obtain ⟨z214, z215, z216, z217⟩ := u220
                                  refine r_ws [(h2, .inr (5, [.ref h5, .ref h6, .int x11, .int x12, .long y1, .long y2, .int x13])), (h5, .inl (gB g, 400, .inl fn0)), (h6, .inl (gJ g, 2400, .inr (.inl fm1))), (h0, .inr (0, [.ref h1, .ref h2, .ref h3, .int x1, .int z214, .long z215, .int x3, .int x4, .int z216, .int x6, .ref h7, .ref h8, .ref h9, .int x7, .int z217])), (h1, .inr (6, [.ref h4, .ref h10, .int x9, .int x10])), (h3, .inr (3, [.ref h11, .ref h12, .ref h13, .ref h14, .int x14, .int x15, .int x16])), (h4, .inl (gJ g, 48, .inr (.inl fm0)))] rfl ?_
                                  have gz214 := fb_rng z214
                                  have gz215 := fb_rngL z215
                                  have gz216 := fb_rng z216
                                  have p221 : 0 ≤ (Int32.toInt r218) := w219.1
                                  have p222 : (Int32.toInt r218) ≤ 7 := w219.2.1
                                  have p223 : 0 ≤ (Int32.toInt z217) := w219.2.2.1
                                  have p224 : (Int32.toInt z217) ≤ 1 := w219.2.2.2
                                  exact r_iret 96 Rt dX0_hintOrMove_96 (z214, z215, z216, x6, z217, x11, y1, y2, x13, fn0, fm1) (show 0 ≤ (Int32.toInt r218) ∧ (Int32.toInt r218) ≤ 7 ∧ 0 ≤ (Int32.toInt x6) ∧ (Int32.toInt x6) ≤ 1 ∧ 0 ≤ (Int32.toInt z217) ∧ (Int32.toInt z217) ≤ 1 ∧ 0 ≤ (Int32.toInt x11) ∧ (Int32.toInt x11) ≤ 400 ∧ 0 ≤ (Int32.toInt x13) ∧ (Int32.toInt x13) ≤ 1 from ⟨(show _ ∧ _ from ⟨p221, p222⟩).1, (show _ ∧ _ from ⟨p221, p222⟩).2, i_x6.1, i_x6.2, (show _ ∧ _ from ⟨p223, p224⟩).1, (show _ ∧ _ from ⟨p223, p224⟩).2, i_x11.1, i_x11.2, i_x13.1, i_x13.2⟩) [3, 4, 0, 5, 6, 1, 2] (by decide) rfl (Nat.le_of_ble_eq_true rfl) (Nat.le_of_ble_eq_true rfl)
                                · skip
                                  have k225 : ¬ ((Int32.toInt x0) = 19) := fun h_9 => c212 ((fa_eq x0 19).mpr h_9)
                                  by_cases c226 : x0 = 20
                                  · skip
                                    have k227 : (Int32.toInt x0) = 20 := (fa_eq x0 20).mp c226
                                    refine r_tableIn 1 92 20 C dX0_hintOrMove_1 c226 (by decide) (by decide) rfl (by decide) ?_
                                    refine r_aload_n 92 0 C dX0_hintOrMove_92 rfl ?_
                                    refine r_callVi 93 C dX0_hintOrMove_93 [] [(h0, .inr (0, [.ref h1, .ref h2, .ref h3, .int x1, .int x2, .long y0, .int x3, .int x4, .int x5, .int x6, .ref h7, .ref h8, .ref h9, .int x7, .int x8])), (h1, .inr (6, [.ref h4, .ref h10, .int x9, .int x10])), (h3, .inr (3, [.ref h11, .ref h12, .ref h13, .ref h14, .int x14, .int x15, .int x16])), (h4, .inl (gJ g, 48, .inr (.inl fm0)))] [(h2, .inr (5, [.ref h5, .ref h6, .int x11, .int x12, .long y1, .long y2, .int x13])), (h5, .inl (gB g, 400, .inl fn0)), (h6, .inl (gJ g, 2400, .inr (.inl fm1)))] (fun sz => c296_X0_mask l g h0 h1 h3 h4 h2 x1 x2 y0 x3 x4 x5 x6 h7 h8 h9 x7 x8 h10 x9 x10 h11 h12 h13 h14 x14 x15 x16 fm0 i_x6 i_x7 i_x8 i_x9 i_x10 sz) gX0_hintOrMove_X0_mask rfl ⟨rfl, rfl⟩ 0 (by decide) ⟨Nat.le_of_ble_eq_true rfl, Nat.le_of_ble_eq_true rfl⟩ 0 rfl rfl [0, 1, 3, 4] [2, 5, 6] rfl rfl (by decide) (by decide) (by decide) rfl rfl (Nat.le_of_ble_eq_true rfl) ⟨Nat.le_of_ble_eq_true rfl, Nat.le_of_ble_eq_true rfl⟩ (fun r232 u234 w233 => ?_)
                                    obtain ⟨z228, z229, z230, z231⟩ := u234
                                    refine r_ws [(h2, .inr (5, [.ref h5, .ref h6, .int x11, .int x12, .long y1, .long y2, .int x13])), (h5, .inl (gB g, 400, .inl fn0)), (h6, .inl (gJ g, 2400, .inr (.inl fm1))), (h0, .inr (0, [.ref h1, .ref h2, .ref h3, .int x1, .int z228, .long z229, .int x3, .int x4, .int z230, .int x6, .ref h7, .ref h8, .ref h9, .int x7, .int z231])), (h1, .inr (6, [.ref h4, .ref h10, .int x9, .int x10])), (h3, .inr (3, [.ref h11, .ref h12, .ref h13, .ref h14, .int x14, .int x15, .int x16])), (h4, .inl (gJ g, 48, .inr (.inl fm0)))] rfl ?_
                                    have gz228 := fb_rng z228
                                    have gz229 := fb_rngL z229
                                    have gz230 := fb_rng z230
                                    have p235 : 0 ≤ (Int32.toInt r232) := w233.1
                                    have p236 : (Int32.toInt r232) ≤ 7 := w233.2.1
                                    have p237 : 0 ≤ (Int32.toInt z231) := w233.2.2.1
                                    have p238 : (Int32.toInt z231) ≤ 1 := w233.2.2.2
                                    exact r_iret 96 Rt dX0_hintOrMove_96 (z228, z229, z230, x6, z231, x11, y1, y2, x13, fn0, fm1) (show 0 ≤ (Int32.toInt r232) ∧ (Int32.toInt r232) ≤ 7 ∧ 0 ≤ (Int32.toInt x6) ∧ (Int32.toInt x6) ≤ 1 ∧ 0 ≤ (Int32.toInt z231) ∧ (Int32.toInt z231) ≤ 1 ∧ 0 ≤ (Int32.toInt x11) ∧ (Int32.toInt x11) ≤ 400 ∧ 0 ≤ (Int32.toInt x13) ∧ (Int32.toInt x13) ≤ 1 from ⟨(show _ ∧ _ from ⟨p235, p236⟩).1, (show _ ∧ _ from ⟨p235, p236⟩).2, i_x6.1, i_x6.2, (show _ ∧ _ from ⟨p237, p238⟩).1, (show _ ∧ _ from ⟨p237, p238⟩).2, i_x11.1, i_x11.2, i_x13.1, i_x13.2⟩) [3, 4, 0, 5, 6, 1, 2] (by decide) rfl (Nat.le_of_ble_eq_true rfl) (Nat.le_of_ble_eq_true rfl)
                                  · skip
                                    have k239 : ¬ ((Int32.toInt x0) = 20) := fun h_9 => c226 ((fa_eq x0 20).mpr h_9)
                                    by_cases c240 : x0 = 21
                                    · skip
                                      have k241 : (Int32.toInt x0) = 21 := (fa_eq x0 21).mp c240
                                      refine r_tableIn 1 97 21 C dX0_hintOrMove_1 c240 (by decide) (by decide) rfl (by decide) ?_
                                      refine r_aload_n 97 0 C dX0_hintOrMove_97 rfl ?_
                                      refine r_iload_n 98 1 C dX0_hintOrMove_98 rfl ?_
                                      refine r_callVi 99 C dX0_hintOrMove_99 [] [(h0, .inr (0, [.ref h1, .ref h2, .ref h3, .int x1, .int x2, .long y0, .int x3, .int x4, .int x5, .int x6, .ref h7, .ref h8, .ref h9, .int x7, .int x8])), (h1, .inr (6, [.ref h4, .ref h10, .int x9, .int x10])), (h2, .inr (5, [.ref h5, .ref h6, .int x11, .int x12, .long y1, .long y2, .int x13])), (h3, .inr (3, [.ref h11, .ref h12, .ref h13, .ref h14, .int x14, .int x15, .int x16])), (h4, .inl (gJ g, 48, .inr (.inl fm0))), (h5, .inl (gB g, 400, .inl fn0)), (h6, .inl (gJ g, 2400, .inr (.inl fm1)))] [] (fun sz => c291_X0_move l g h0 h1 h2 h3 h4 h5 h6 x0 x1 x2 y0 x3 x4 x5 x6 h7 h8 h9 x7 x8 h10 x9 x10 x11 x12 y1 y2 x13 h11 h12 h13 h14 x14 x15 x16 fm0 fn0 fm1 i_x6 i_x7 i_x8 i_x9 i_x10 i_x11 i_x12 i_x13 sz) gX0_hintOrMove_X0_move rfl ⟨rfl, rfl⟩ 1 (by decide) ⟨Nat.le_of_ble_eq_true rfl, Nat.le_of_ble_eq_true rfl⟩ 0 rfl rfl [0, 1, 2, 3, 4, 5, 6] [] rfl rfl (by decide) (by decide) (by decide) rfl rfl (Nat.le_of_ble_eq_true rfl) ⟨Nat.le_of_ble_eq_true rfl, Nat.le_of_ble_eq_true rfl⟩ (fun r250 u252 w251 => ?_)
                                      obtain ⟨z242, z243, z244, z245, z246, z247, f248, f249⟩ := u252
                                      refine r_ws [(h0, .inr (0, [.ref h1, .ref h2, .ref h3, .int x1, .int x2, .long z242, .int x3, .int x4, .int x5, .int x6, .ref h7, .ref h8, .ref h9, .int x7, .int z243])), (h1, .inr (6, [.ref h4, .ref h10, .int x9, .int x10])), (h2, .inr (5, [.ref h5, .ref h6, .int z244, .int x12, .long z245, .long z246, .int z247])), (h3, .inr (3, [.ref h11, .ref h12, .ref h13, .ref h14, .int x14, .int x15, .int x16])), (h4, .inl (gJ g, 48, .inr (.inl fm0))), (h5, .inl (gB g, 400, .inl f248)), (h6, .inl (gJ g, 2400, .inr (.inl f249)))] rfl ?_
                                      have gz242 := fb_rngL z242
                                      have gz245 := fb_rngL z245
                                      have gz246 := fb_rngL z246
                                      have p253 : 0 ≤ (Int32.toInt r250) := w251.1
                                      have p254 : (Int32.toInt r250) ≤ 6 := w251.2.1
                                      have p255 : 0 ≤ (Int32.toInt z243) := w251.2.2.1
                                      have p256 : (Int32.toInt z243) ≤ 1 := w251.2.2.2.1
                                      have p257 : 0 ≤ (Int32.toInt z244) := w251.2.2.2.2.1
                                      have p258 : (Int32.toInt z244) ≤ 400 := w251.2.2.2.2.2.1
                                      have p259 : 0 ≤ (Int32.toInt z247) := w251.2.2.2.2.2.2.1
                                      have p260 : (Int32.toInt z247) ≤ 1 := w251.2.2.2.2.2.2.2
                                      exact r_iret 102 Rt dX0_hintOrMove_102 (x2, z242, x5, x6, z243, z244, z245, z246, z247, f248, f249) (show 0 ≤ (Int32.toInt r250) ∧ (Int32.toInt r250) ≤ 7 ∧ 0 ≤ (Int32.toInt x6) ∧ (Int32.toInt x6) ≤ 1 ∧ 0 ≤ (Int32.toInt z243) ∧ (Int32.toInt z243) ≤ 1 ∧ 0 ≤ (Int32.toInt z244) ∧ (Int32.toInt z244) ≤ 400 ∧ 0 ≤ (Int32.toInt z247) ∧ (Int32.toInt z247) ≤ 1 from ⟨(iv_wide (c := 0) (d := 7) ⟨p253, p254⟩ (by decide) (by decide)).1, (iv_wide (c := 0) (d := 7) ⟨p253, p254⟩ (by decide) (by decide)).2, i_x6.1, i_x6.2, (show _ ∧ _ from ⟨p255, p256⟩).1, (show _ ∧ _ from ⟨p255, p256⟩).2, (show _ ∧ _ from ⟨p257, p258⟩).1, (show _ ∧ _ from ⟨p257, p258⟩).2, (show _ ∧ _ from ⟨p259, p260⟩).1, (show _ ∧ _ from ⟨p259, p260⟩).2⟩) [0, 1, 2, 3, 4, 5, 6] (by decide) rfl (Nat.le_of_ble_eq_true rfl) (Nat.le_of_ble_eq_true rfl)
                                    · skip
                                      have k261 : ¬ ((Int32.toInt x0) = 21) := fun h_9 => c240 ((fa_eq x0 21).mpr h_9)
                                      by_cases c262 : x0 = 22
                                      · skip
                                        have k263 : (Int32.toInt x0) = 22 := (fa_eq x0 22).mp c262
                                        refine r_tableIn 1 97 22 C dX0_hintOrMove_1 c262 (by decide) (by decide) rfl (by decide) ?_
                                        refine r_aload_n 97 0 C dX0_hintOrMove_97 rfl ?_
                                        refine r_iload_n 98 1 C dX0_hintOrMove_98 rfl ?_
                                        refine r_callVi 99 C dX0_hintOrMove_99 [] [(h0, .inr (0, [.ref h1, .ref h2, .ref h3, .int x1, .int x2, .long y0, .int x3, .int x4, .int x5, .int x6, .ref h7, .ref h8, .ref h9, .int x7, .int x8])), (h1, .inr (6, [.ref h4, .ref h10, .int x9, .int x10])), (h2, .inr (5, [.ref h5, .ref h6, .int x11, .int x12, .long y1, .long y2, .int x13])), (h3, .inr (3, [.ref h11, .ref h12, .ref h13, .ref h14, .int x14, .int x15, .int x16])), (h4, .inl (gJ g, 48, .inr (.inl fm0))), (h5, .inl (gB g, 400, .inl fn0)), (h6, .inl (gJ g, 2400, .inr (.inl fm1)))] [] (fun sz => c291_X0_move l g h0 h1 h2 h3 h4 h5 h6 x0 x1 x2 y0 x3 x4 x5 x6 h7 h8 h9 x7 x8 h10 x9 x10 x11 x12 y1 y2 x13 h11 h12 h13 h14 x14 x15 x16 fm0 fn0 fm1 i_x6 i_x7 i_x8 i_x9 i_x10 i_x11 i_x12 i_x13 sz) gX0_hintOrMove_X0_move rfl ⟨rfl, rfl⟩ 1 (by decide) ⟨Nat.le_of_ble_eq_true rfl, Nat.le_of_ble_eq_true rfl⟩ 0 rfl rfl [0, 1, 2, 3, 4, 5, 6] [] rfl rfl (by decide) (by decide) (by decide) rfl rfl (Nat.le_of_ble_eq_true rfl) ⟨Nat.le_of_ble_eq_true rfl, Nat.le_of_ble_eq_true rfl⟩ (fun r272 u274 w273 => ?_)
                                        obtain ⟨z264, z265, z266, z267, z268, z269, f270, f271⟩ := u274
                                        refine r_ws [(h0, .inr (0, [.ref h1, .ref h2, .ref h3, .int x1, .int x2, .long z264, .int x3, .int x4, .int x5, .int x6, .ref h7, .ref h8, .ref h9, .int x7, .int z265])), (h1, .inr (6, [.ref h4, .ref h10, .int x9, .int x10])), (h2, .inr (5, [.ref h5, .ref h6, .int z266, .int x12, .long z267, .long z268, .int z269])), (h3, .inr (3, [.ref h11, .ref h12, .ref h13, .ref h14, .int x14, .int x15, .int x16])), (h4, .inl (gJ g, 48, .inr (.inl fm0))), (h5, .inl (gB g, 400, .inl f270)), (h6, .inl (gJ g, 2400, .inr (.inl f271)))] rfl ?_
                                        have gz264 := fb_rngL z264
                                        have gz267 := fb_rngL z267
                                        have gz268 := fb_rngL z268
                                        have p275 : 0 ≤ (Int32.toInt r272) := w273.1
                                        have p276 : (Int32.toInt r272) ≤ 6 := w273.2.1
                                        have p277 : 0 ≤ (Int32.toInt z265) := w273.2.2.1
                                        have p278 : (Int32.toInt z265) ≤ 1 := w273.2.2.2.1
                                        have p279 : 0 ≤ (Int32.toInt z266) := w273.2.2.2.2.1
                                        have p280 : (Int32.toInt z266) ≤ 400 := w273.2.2.2.2.2.1
                                        have p281 : 0 ≤ (Int32.toInt z269) := w273.2.2.2.2.2.2.1
                                        have p282 : (Int32.toInt z269) ≤ 1 := w273.2.2.2.2.2.2.2
                                        exact r_iret 102 Rt dX0_hintOrMove_102 (x2, z264, x5, x6, z265, z266, z267, z268, z269, f270, f271) (show 0 ≤ (Int32.toInt r272) ∧ (Int32.toInt r272) ≤ 7 ∧ 0 ≤ (Int32.toInt x6) ∧ (Int32.toInt x6) ≤ 1 ∧ 0 ≤ (Int32.toInt z265) ∧ (Int32.toInt z265) ≤ 1 ∧ 0 ≤ (Int32.toInt z266) ∧ (Int32.toInt z266) ≤ 400 ∧ 0 ≤ (Int32.toInt z269) ∧ (Int32.toInt z269) ≤ 1 from ⟨(iv_wide (c := 0) (d := 7) ⟨p275, p276⟩ (by decide) (by decide)).1, (iv_wide (c := 0) (d := 7) ⟨p275, p276⟩ (by decide) (by decide)).2, i_x6.1, i_x6.2, (show _ ∧ _ from ⟨p277, p278⟩).1, (show _ ∧ _ from ⟨p277, p278⟩).2, (show _ ∧ _ from ⟨p279, p280⟩).1, (show _ ∧ _ from ⟨p279, p280⟩).2, (show _ ∧ _ from ⟨p281, p282⟩).1, (show _ ∧ _ from ⟨p281, p282⟩).2⟩) [0, 1, 2, 3, 4, 5, 6] (by decide) rfl (Nat.le_of_ble_eq_true rfl) (Nat.le_of_ble_eq_true rfl)
                                      · skip
                                        have k283 : ¬ ((Int32.toInt x0) = 22) := fun h_9 => c262 ((fa_eq x0 22).mpr h_9)
                                        refine r_tableOut 1 108 C dX0_hintOrMove_1 (by omega) (by decide) ?_
                                        refine r_aload_n 108 0 C dX0_hintOrMove_108 rfl ?_
                                        refine r_callVi 109 C dX0_hintOrMove_109 [] [(h0, .inr (0, [.ref h1, .ref h2, .ref h3, .int x1, .int x2, .long y0, .int x3, .int x4, .int x5, .int x6, .ref h7, .ref h8, .ref h9, .int x7, .int x8])), (h1, .inr (6, [.ref h4, .ref h10, .int x9, .int x10])), (h3, .inr (3, [.ref h11, .ref h12, .ref h13, .ref h14, .int x14, .int x15, .int x16])), (h4, .inl (gJ g, 48, .inr (.inl fm0)))] [(h2, .inr (5, [.ref h5, .ref h6, .int x11, .int x12, .long y1, .long y2, .int x13])), (h5, .inl (gB g, 400, .inl fn0)), (h6, .inl (gJ g, 2400, .inr (.inl fm1)))] (fun sz => c292_X0_stems l g h0 h1 h3 h4 h2 x1 x2 y0 x3 x4 x5 x6 h7 h8 h9 x7 x8 h10 x9 x10 h11 h12 h13 h14 x14 x15 x16 fm0 i_x6 i_x7 i_x8 i_x9 i_x10 sz) gX0_hintOrMove_X0_stems rfl ⟨rfl, rfl⟩ 0 (by decide) ⟨Nat.le_of_ble_eq_true rfl, Nat.le_of_ble_eq_true rfl⟩ 0 rfl rfl [0, 1, 3, 4] [2, 5, 6] rfl rfl (by decide) (by decide) (by decide) rfl rfl (Nat.le_of_ble_eq_true rfl) ⟨Nat.le_of_ble_eq_true rfl, Nat.le_of_ble_eq_true rfl⟩ (fun r287 u289 w288 => ?_)
                                        obtain ⟨z284, z285, z286⟩ := u289
                                        refine r_ws [(h2, .inr (5, [.ref h5, .ref h6, .int x11, .int x12, .long y1, .long y2, .int x13])), (h5, .inl (gB g, 400, .inl fn0)), (h6, .inl (gJ g, 2400, .inr (.inl fm1))), (h0, .inr (0, [.ref h1, .ref h2, .ref h3, .int x1, .int z284, .long z285, .int x3, .int x4, .int x5, .int x6, .ref h7, .ref h8, .ref h9, .int x7, .int z286])), (h1, .inr (6, [.ref h4, .ref h10, .int x9, .int x10])), (h3, .inr (3, [.ref h11, .ref h12, .ref h13, .ref h14, .int x14, .int x15, .int x16])), (h4, .inl (gJ g, 48, .inr (.inl fm0)))] rfl ?_
                                        have gz284 := fb_rng z284
                                        have gz285 := fb_rngL z285
                                        have p290 : 0 ≤ (Int32.toInt r287) := w288.1
                                        have p291 : (Int32.toInt r287) ≤ 2 := w288.2.1
                                        have p292 : 0 ≤ (Int32.toInt z286) := w288.2.2.1
                                        have p293 : (Int32.toInt z286) ≤ 1 := w288.2.2.2
                                        exact r_iret 112 Rt dX0_hintOrMove_112 (z284, z285, x5, x6, z286, x11, y1, y2, x13, fn0, fm1) (show 0 ≤ (Int32.toInt r287) ∧ (Int32.toInt r287) ≤ 7 ∧ 0 ≤ (Int32.toInt x6) ∧ (Int32.toInt x6) ≤ 1 ∧ 0 ≤ (Int32.toInt z286) ∧ (Int32.toInt z286) ≤ 1 ∧ 0 ≤ (Int32.toInt x11) ∧ (Int32.toInt x11) ≤ 400 ∧ 0 ≤ (Int32.toInt x13) ∧ (Int32.toInt x13) ≤ 1 from ⟨(iv_wide (c := 0) (d := 7) ⟨p290, p291⟩ (by decide) (by decide)).1, (iv_wide (c := 0) (d := 7) ⟨p290, p291⟩ (by decide) (by decide)).2, i_x6.1, i_x6.2, (show _ ∧ _ from ⟨p292, p293⟩).1, (show _ ∧ _ from ⟨p292, p293⟩).2, i_x11.1, i_x11.2, i_x13.1, i_x13.2⟩) [3, 4, 0, 5, 6, 1, 2] (by decide) rfl (Nat.le_of_ble_eq_true rfl) (Nat.le_of_ble_eq_true rfl)
set_option maxHeartbeats 4000000 in
set_option maxRecDepth 100000 in
theorem c298_X0_isFlex (l : Launch) (g : GD) (x0 : Int32) (sz : Nat) : Met l yX0_isFlex wsX0_isFlex ({ frames := 0, cells := 0, slots := 0, locals := 0 }) (va_Pc [.int x0] (PW g [] sz)) (va_Qi (fun (r : Int32) (_ : Unit) => 0 ≤ (Int32.toInt r) ∧ (Int32.toInt r) ≤ 1) (BW g (va_A [] sz) (fun _ : Unit => [])) (va_A [] sz)) 0 0 (va_A [] sz) := by
  refine met_z RX0 (by decide) rfl rfl (Nat.le_of_ble_eq_true rfl) [(0, .int x0)] rfl ?_
  intro p e s m args below meth c A Q C hnm Rt
  have gx0 := fb_rng x0
  refine r_iload_n 0 0 C dX0_isFlex_0 rfl ?_
  refine r_sipush 1 290 C dX0_isFlex_1 (by decide) ?_
  refine r_icmp_lt 4 18 C dX0_isFlex_4 (by decide) (fun c1 => ?_) (fun c1 => ?_)
  · skip
    have k2 : (Int32.toInt x0) < 290 := (fa_lt x0 290).mp c1
    refine r_iconst 18 0 C dX0_isFlex_18 (by decide) ?_
    exact r_zret 19 Rt dX0_isFlex_19 (by decide) () (show 0 ≤ (Int32.toInt 0) ∧ (Int32.toInt 0) ≤ 1 from ⟨(by ((repeat' apply And.intro) <;> first | trivial | rfl | assumption | omega | decide | exact Or.inl rfl | exact Or.inr (Or.inl rfl) | exact Or.inr (Or.inr rfl))), (by ((repeat' apply And.intro) <;> first | trivial | rfl | assumption | omega | decide | exact Or.inl rfl | exact Or.inr (Or.inl rfl) | exact Or.inr (Or.inr rfl)))⟩) [] (by decide) rfl (Nat.le_of_ble_eq_true rfl) (Nat.le_of_ble_eq_true rfl)
  · skip
    have k3 : ¬ ((Int32.toInt x0) < 290) := fun h_9 => c1 ((fa_lt x0 290).mpr h_9)
    refine r_iload_n 7 0 C dX0_isFlex_7 rfl ?_
    refine r_sipush 8 293 C dX0_isFlex_8 (by decide) ?_
    refine r_icmp_gt 11 18 C dX0_isFlex_11 (by decide) (fun c4 => ?_) (fun c4 => ?_)
    · skip
      have k5 : 293 < (Int32.toInt x0) := (fa_lt 293 x0).mp c4
      refine r_iconst 18 0 C dX0_isFlex_18 (by decide) ?_
      exact r_zret 19 Rt dX0_isFlex_19 (by decide) () (show 0 ≤ (Int32.toInt 0) ∧ (Int32.toInt 0) ≤ 1 from ⟨(by ((repeat' apply And.intro) <;> first | trivial | rfl | assumption | omega | decide | exact Or.inl rfl | exact Or.inr (Or.inl rfl) | exact Or.inr (Or.inr rfl))), (by ((repeat' apply And.intro) <;> first | trivial | rfl | assumption | omega | decide | exact Or.inl rfl | exact Or.inr (Or.inl rfl) | exact Or.inr (Or.inr rfl)))⟩) [] (by decide) rfl (Nat.le_of_ble_eq_true rfl) (Nat.le_of_ble_eq_true rfl)
    · skip
      have k6 : ¬ (293 < (Int32.toInt x0)) := fun h_9 => c4 ((fa_lt 293 x0).mpr h_9)
      refine r_iconst 14 1 C dX0_isFlex_14 (by decide) ?_
      refine r_goto 15 19 C dX0_isFlex_15 (by decide) ?_
      exact r_zret 19 Rt dX0_isFlex_19 (by decide) () (show 0 ≤ (Int32.toInt 1) ∧ (Int32.toInt 1) ≤ 1 from ⟨(by ((repeat' apply And.intro) <;> first | trivial | rfl | assumption | omega | decide | exact Or.inl rfl | exact Or.inr (Or.inl rfl) | exact Or.inr (Or.inr rfl))), (by ((repeat' apply And.intro) <;> first | trivial | rfl | assumption | omega | decide | exact Or.inl rfl | exact Or.inr (Or.inl rfl) | exact Or.inr (Or.inr rfl)))⟩) [] (by decide) rfl (Nat.le_of_ble_eq_true rfl) (Nat.le_of_ble_eq_true rfl)
set_option maxHeartbeats 4000000 in
set_option maxRecDepth 100000 in
theorem c299_X7_wantedBy (l : Launch) (g : GD) (x0 : Int32) (sz : Nat) : Met l yX7_wantedBy wsX7_wantedBy ({ frames := 0, cells := 0, slots := 0, locals := 0 }) (va_Pc [.int x0] (PW g [] sz)) (va_Qi (fun (r : Int32) (_ : Unit) => -1 ≤ (Int32.toInt r) ∧ (Int32.toInt r) ≤ 4) (BW g (va_A [] sz) (fun _ : Unit => [])) (va_A [] sz)) 0 0 (va_A [] sz) := by
  refine met_i RX7 (by decide) rfl rfl (Nat.le_of_ble_eq_true rfl) [(0, .int x0)] rfl ?_
  intro p e s m args below meth c A Q C hnm Rt
  have gx0 := fb_rng x0
  refine r_iload_n 0 0 C dX7_wantedBy_0 rfl ?_
  by_cases c1 : x0 = 3
  · skip
    have k2 : (Int32.toInt x0) = 3 := (fa_eq x0 3).mp c1
    refine r_tableIn 1 130 3 C dX7_wantedBy_1 c1 (by decide) (by decide) rfl (by decide) ?_
    refine r_iconst 130 2 C dX7_wantedBy_130 (by decide) ?_
    exact r_iret 131 Rt dX7_wantedBy_131 () (show -1 ≤ (Int32.toInt 2) ∧ (Int32.toInt 2) ≤ 4 from ⟨(by ((repeat' apply And.intro) <;> first | trivial | rfl | assumption | omega | decide | exact Or.inl rfl | exact Or.inr (Or.inl rfl) | exact Or.inr (Or.inr rfl))), (by ((repeat' apply And.intro) <;> first | trivial | rfl | assumption | omega | decide | exact Or.inl rfl | exact Or.inr (Or.inl rfl) | exact Or.inr (Or.inr rfl)))⟩) [] (by decide) rfl (Nat.le_of_ble_eq_true rfl) (Nat.le_of_ble_eq_true rfl)
  · skip
    have k3 : ¬ ((Int32.toInt x0) = 3) := fun h_9 => c1 ((fa_eq x0 3).mpr h_9)
    by_cases c4 : x0 = 4
    · skip
      have k5 : (Int32.toInt x0) = 4 := (fa_eq x0 4).mp c4
      refine r_tableIn 1 130 4 C dX7_wantedBy_1 c4 (by decide) (by decide) rfl (by decide) ?_
      refine r_iconst 130 2 C dX7_wantedBy_130 (by decide) ?_
      exact r_iret 131 Rt dX7_wantedBy_131 () (show -1 ≤ (Int32.toInt 2) ∧ (Int32.toInt 2) ≤ 4 from ⟨(by ((repeat' apply And.intro) <;> first | trivial | rfl | assumption | omega | decide | exact Or.inl rfl | exact Or.inr (Or.inl rfl) | exact Or.inr (Or.inr rfl))), (by ((repeat' apply And.intro) <;> first | trivial | rfl | assumption | omega | decide | exact Or.inl rfl | exact Or.inr (Or.inl rfl) | exact Or.inr (Or.inr rfl)))⟩) [] (by decide) rfl (Nat.le_of_ble_eq_true rfl) (Nat.le_of_ble_eq_true rfl)
    · skip
      have k6 : ¬ ((Int32.toInt x0) = 4) := fun h_9 => c4 ((fa_eq x0 4).mpr h_9)
      by_cases c7 : x0 = 5
      · skip
        have k8 : (Int32.toInt x0) = 5 := (fa_eq x0 5).mp c7
        refine r_tableIn 1 128 5 C dX7_wantedBy_1 c7 (by decide) (by decide) rfl (by decide) ?_
        refine r_iconst 128 1 C dX7_wantedBy_128 (by decide) ?_
        exact r_iret 129 Rt dX7_wantedBy_129 () (show -1 ≤ (Int32.toInt 1) ∧ (Int32.toInt 1) ≤ 4 from ⟨(by ((repeat' apply And.intro) <;> first | trivial | rfl | assumption | omega | decide | exact Or.inl rfl | exact Or.inr (Or.inl rfl) | exact Or.inr (Or.inr rfl))), (by ((repeat' apply And.intro) <;> first | trivial | rfl | assumption | omega | decide | exact Or.inl rfl | exact Or.inr (Or.inl rfl) | exact Or.inr (Or.inr rfl)))⟩) [] (by decide) rfl (Nat.le_of_ble_eq_true rfl) (Nat.le_of_ble_eq_true rfl)
      · skip
        have k9 : ¬ ((Int32.toInt x0) = 5) := fun h_9 => c7 ((fa_eq x0 5).mpr h_9)
        by_cases c10 : x0 = 6
        · skip
          have k11 : (Int32.toInt x0) = 6 := (fa_eq x0 6).mp c10
          refine r_tableIn 1 134 6 C dX7_wantedBy_1 c10 (by decide) (by decide) rfl (by decide) ?_
          refine r_iconst 134 (-1) C dX7_wantedBy_134 (by decide) ?_
          exact r_iret 135 Rt dX7_wantedBy_135 () (show -1 ≤ (Int32.toInt (-1)) ∧ (Int32.toInt (-1)) ≤ 4 from ⟨(by ((repeat' apply And.intro) <;> first | trivial | rfl | assumption | omega | decide | exact Or.inl rfl | exact Or.inr (Or.inl rfl) | exact Or.inr (Or.inr rfl))), (by ((repeat' apply And.intro) <;> first | trivial | rfl | assumption | omega | decide | exact Or.inl rfl | exact Or.inr (Or.inl rfl) | exact Or.inr (Or.inr rfl)))⟩) [] (by decide) rfl (Nat.le_of_ble_eq_true rfl) (Nat.le_of_ble_eq_true rfl)
        · skip
          have k12 : ¬ ((Int32.toInt x0) = 6) := fun h_9 => c10 ((fa_eq x0 6).mpr h_9)
          by_cases c13 : x0 = 7
          · skip
            have k14 : (Int32.toInt x0) = 7 := (fa_eq x0 7).mp c13
            refine r_tableIn 1 134 7 C dX7_wantedBy_1 c13 (by decide) (by decide) rfl (by decide) ?_
            refine r_iconst 134 (-1) C dX7_wantedBy_134 (by decide) ?_
            exact r_iret 135 Rt dX7_wantedBy_135 () (show -1 ≤ (Int32.toInt (-1)) ∧ (Int32.toInt (-1)) ≤ 4 from ⟨(by ((repeat' apply And.intro) <;> first | trivial | rfl | assumption | omega | decide | exact Or.inl rfl | exact Or.inr (Or.inl rfl) | exact Or.inr (Or.inr rfl))), (by ((repeat' apply And.intro) <;> first | trivial | rfl | assumption | omega | decide | exact Or.inl rfl | exact Or.inr (Or.inl rfl) | exact Or.inr (Or.inr rfl)))⟩) [] (by decide) rfl (Nat.le_of_ble_eq_true rfl) (Nat.le_of_ble_eq_true rfl)
          · skip
            have k15 : ¬ ((Int32.toInt x0) = 7) := fun h_9 => c13 ((fa_eq x0 7).mpr h_9)
            by_cases c16 : x0 = 8
            · skip
              have k17 : (Int32.toInt x0) = 8 := (fa_eq x0 8).mp c16
              refine r_tableIn 1 134 8 C dX7_wantedBy_1 c16 (by decide) (by decide) rfl (by decide) ?_
              refine r_iconst 134 (-1) C dX7_wantedBy_134 (by decide) ?_
              exact r_iret 135 Rt dX7_wantedBy_135 () (show -1 ≤ (Int32.toInt (-1)) ∧ (Int32.toInt (-1)) ≤ 4 from ⟨(by ((repeat' apply And.intro) <;> first | trivial | rfl | assumption | omega | decide | exact Or.inl rfl | exact Or.inr (Or.inl rfl) | exact Or.inr (Or.inr rfl))), (by ((repeat' apply And.intro) <;> first | trivial | rfl | assumption | omega | decide | exact Or.inl rfl | exact Or.inr (Or.inl rfl) | exact Or.inr (Or.inr rfl)))⟩) [] (by decide) rfl (Nat.le_of_ble_eq_true rfl) (Nat.le_of_ble_eq_true rfl)
            · skip
              have k18 : ¬ ((Int32.toInt x0) = 8) := fun h_9 => c16 ((fa_eq x0 8).mpr h_9)
              by_cases c19 : x0 = 9
              · skip
                have k20 : (Int32.toInt x0) = 9 := (fa_eq x0 9).mp c19
                refine r_tableIn 1 128 9 C dX7_wantedBy_1 c19 (by decide) (by decide) rfl (by decide) ?_
                refine r_iconst 128 1 C dX7_wantedBy_128 (by decide) ?_
                exact r_iret 129 Rt dX7_wantedBy_129 () (show -1 ≤ (Int32.toInt 1) ∧ (Int32.toInt 1) ≤ 4 from ⟨(by ((repeat' apply And.intro) <;> first | trivial | rfl | assumption | omega | decide | exact Or.inl rfl | exact Or.inr (Or.inl rfl) | exact Or.inr (Or.inr rfl))), (by ((repeat' apply And.intro) <;> first | trivial | rfl | assumption | omega | decide | exact Or.inl rfl | exact Or.inr (Or.inl rfl) | exact Or.inr (Or.inr rfl)))⟩) [] (by decide) rfl (Nat.le_of_ble_eq_true rfl) (Nat.le_of_ble_eq_true rfl)
              · skip
                have k21 : ¬ ((Int32.toInt x0) = 9) := fun h_9 => c19 ((fa_eq x0 9).mpr h_9)
                by_cases c22 : x0 = 10
                · skip
                  have k23 : (Int32.toInt x0) = 10 := (fa_eq x0 10).mp c22
                  refine r_tableIn 1 130 10 C dX7_wantedBy_1 c22 (by decide) (by decide) rfl (by decide) ?_
                  refine r_iconst 130 2 C dX7_wantedBy_130 (by decide) ?_
                  exact r_iret 131 Rt dX7_wantedBy_131 () (show -1 ≤ (Int32.toInt 2) ∧ (Int32.toInt 2) ≤ 4 from ⟨(by ((repeat' apply And.intro) <;> first | trivial | rfl | assumption | omega | decide | exact Or.inl rfl | exact Or.inr (Or.inl rfl) | exact Or.inr (Or.inr rfl))), (by ((repeat' apply And.intro) <;> first | trivial | rfl | assumption | omega | decide | exact Or.inl rfl | exact Or.inr (Or.inl rfl) | exact Or.inr (Or.inr rfl)))⟩) [] (by decide) rfl (Nat.le_of_ble_eq_true rfl) (Nat.le_of_ble_eq_true rfl)
                · skip
                  have k24 : ¬ ((Int32.toInt x0) = 10) := fun h_9 => c22 ((fa_eq x0 10).mpr h_9)
                  by_cases c25 : x0 = 11
                  · skip
                    have k26 : (Int32.toInt x0) = 11 := (fa_eq x0 11).mp c25
                    refine r_tableIn 1 130 11 C dX7_wantedBy_1 c25 (by decide) (by decide) rfl (by decide) ?_
                    refine r_iconst 130 2 C dX7_wantedBy_130 (by decide) ?_
                    exact r_iret 131 Rt dX7_wantedBy_131 () (show -1 ≤ (Int32.toInt 2) ∧ (Int32.toInt 2) ≤ 4 from ⟨(by ((repeat' apply And.intro) <;> first | trivial | rfl | assumption | omega | decide | exact Or.inl rfl | exact Or.inr (Or.inl rfl) | exact Or.inr (Or.inr rfl))), (by ((repeat' apply And.intro) <;> first | trivial | rfl | assumption | omega | decide | exact Or.inl rfl | exact Or.inr (Or.inl rfl) | exact Or.inr (Or.inr rfl)))⟩) [] (by decide) rfl (Nat.le_of_ble_eq_true rfl) (Nat.le_of_ble_eq_true rfl)
                  · skip
                    have k27 : ¬ ((Int32.toInt x0) = 11) := fun h_9 => c25 ((fa_eq x0 11).mpr h_9)
                    by_cases c28 : x0 = 12
                    · skip
                      have k29 : (Int32.toInt x0) = 12 := (fa_eq x0 12).mp c28
                      refine r_tableIn 1 130 12 C dX7_wantedBy_1 c28 (by decide) (by decide) rfl (by decide) ?_
                      refine r_iconst 130 2 C dX7_wantedBy_130 (by decide) ?_
                      exact r_iret 131 Rt dX7_wantedBy_131 () (show -1 ≤ (Int32.toInt 2) ∧ (Int32.toInt 2) ≤ 4 from ⟨(by ((repeat' apply And.intro) <;> first | trivial | rfl | assumption | omega | decide | exact Or.inl rfl | exact Or.inr (Or.inl rfl) | exact Or.inr (Or.inr rfl))), (by ((repeat' apply And.intro) <;> first | trivial | rfl | assumption | omega | decide | exact Or.inl rfl | exact Or.inr (Or.inl rfl) | exact Or.inr (Or.inr rfl)))⟩) [] (by decide) rfl (Nat.le_of_ble_eq_true rfl) (Nat.le_of_ble_eq_true rfl)
                    · skip
                      have k30 : ¬ ((Int32.toInt x0) = 12) := fun h_9 => c28 ((fa_eq x0 12).mpr h_9)
                      by_cases c31 : x0 = 13
                      · skip
                        have k32 : (Int32.toInt x0) = 13 := (fa_eq x0 13).mp c31
                        refine r_tableIn 1 134 13 C dX7_wantedBy_1 c31 (by decide) (by decide) rfl (by decide) ?_
                        refine r_iconst 134 (-1) C dX7_wantedBy_134 (by decide) ?_
                        exact r_iret 135 Rt dX7_wantedBy_135 () (show -1 ≤ (Int32.toInt (-1)) ∧ (Int32.toInt (-1)) ≤ 4 from ⟨(by ((repeat' apply And.intro) <;> first | trivial | rfl | assumption | omega | decide | exact Or.inl rfl | exact Or.inr (Or.inl rfl) | exact Or.inr (Or.inr rfl))), (by ((repeat' apply And.intro) <;> first | trivial | rfl | assumption | omega | decide | exact Or.inl rfl | exact Or.inr (Or.inl rfl) | exact Or.inr (Or.inr rfl)))⟩) [] (by decide) rfl (Nat.le_of_ble_eq_true rfl) (Nat.le_of_ble_eq_true rfl)
                      · skip
                        have k33 : ¬ ((Int32.toInt x0) = 13) := fun h_9 => c31 ((fa_eq x0 13).mpr h_9)
                        by_cases c34 : x0 = 14
                        · skip
                          have k35 : (Int32.toInt x0) = 14 := (fa_eq x0 14).mp c34
                          refine r_tableIn 1 128 14 C dX7_wantedBy_1 c34 (by decide) (by decide) rfl (by decide) ?_
                          refine r_iconst 128 1 C dX7_wantedBy_128 (by decide) ?_
                          exact r_iret 129 Rt dX7_wantedBy_129 () (show -1 ≤ (Int32.toInt 1) ∧ (Int32.toInt 1) ≤ 4 from ⟨(by ((repeat' apply And.intro) <;> first | trivial | rfl | assumption | omega | decide | exact Or.inl rfl | exact Or.inr (Or.inl rfl) | exact Or.inr (Or.inr rfl))), (by ((repeat' apply And.intro) <;> first | trivial | rfl | assumption | omega | decide | exact Or.inl rfl | exact Or.inr (Or.inl rfl) | exact Or.inr (Or.inr rfl)))⟩) [] (by decide) rfl (Nat.le_of_ble_eq_true rfl) (Nat.le_of_ble_eq_true rfl)
                        · skip
                          have k36 : ¬ ((Int32.toInt x0) = 14) := fun h_9 => c34 ((fa_eq x0 14).mpr h_9)
                          by_cases c37 : x0 = 15
                          · skip
                            have k38 : (Int32.toInt x0) = 15 := (fa_eq x0 15).mp c37
                            refine r_tableIn 1 130 15 C dX7_wantedBy_1 c37 (by decide) (by decide) rfl (by decide) ?_
                            refine r_iconst 130 2 C dX7_wantedBy_130 (by decide) ?_
                            exact r_iret 131 Rt dX7_wantedBy_131 () (show -1 ≤ (Int32.toInt 2) ∧ (Int32.toInt 2) ≤ 4 from ⟨(by ((repeat' apply And.intro) <;> first | trivial | rfl | assumption | omega | decide | exact Or.inl rfl | exact Or.inr (Or.inl rfl) | exact Or.inr (Or.inr rfl))), (by ((repeat' apply And.intro) <;> first | trivial | rfl | assumption | omega | decide | exact Or.inl rfl | exact Or.inr (Or.inl rfl) | exact Or.inr (Or.inr rfl)))⟩) [] (by decide) rfl (Nat.le_of_ble_eq_true rfl) (Nat.le_of_ble_eq_true rfl)
                          · skip
                            have k39 : ¬ ((Int32.toInt x0) = 15) := fun h_9 => c37 ((fa_eq x0 15).mpr h_9)
                            by_cases c40 : x0 = 16
                            · skip
                              have k41 : (Int32.toInt x0) = 16 := (fa_eq x0 16).mp c40
                              refine r_tableIn 1 134 16 C dX7_wantedBy_1 c40 (by decide) (by decide) rfl (by decide) ?_
                              refine r_iconst 134 (-1) C dX7_wantedBy_134 (by decide) ?_
                              exact r_iret 135 Rt dX7_wantedBy_135 () (show -1 ≤ (Int32.toInt (-1)) ∧ (Int32.toInt (-1)) ≤ 4 from ⟨(by ((repeat' apply And.intro) <;> first | trivial | rfl | assumption | omega | decide | exact Or.inl rfl | exact Or.inr (Or.inl rfl) | exact Or.inr (Or.inr rfl))), (by ((repeat' apply And.intro) <;> first | trivial | rfl | assumption | omega | decide | exact Or.inl rfl | exact Or.inr (Or.inl rfl) | exact Or.inr (Or.inr rfl)))⟩) [] (by decide) rfl (Nat.le_of_ble_eq_true rfl) (Nat.le_of_ble_eq_true rfl)
                            · skip
                              have k42 : ¬ ((Int32.toInt x0) = 16) := fun h_9 => c40 ((fa_eq x0 16).mpr h_9)
                              by_cases c43 : x0 = 17
                              · skip
                                have k44 : (Int32.toInt x0) = 17 := (fa_eq x0 17).mp c43
                                refine r_tableIn 1 134 17 C dX7_wantedBy_1 c43 (by decide) (by decide) rfl (by decide) ?_
                                refine r_iconst 134 (-1) C dX7_wantedBy_134 (by decide) ?_
                                exact r_iret 135 Rt dX7_wantedBy_135 () (show -1 ≤ (Int32.toInt (-1)) ∧ (Int32.toInt (-1)) ≤ 4 from ⟨(by ((repeat' apply And.intro) <;> first | trivial | rfl | assumption | omega | decide | exact Or.inl rfl | exact Or.inr (Or.inl rfl) | exact Or.inr (Or.inr rfl))), (by ((repeat' apply And.intro) <;> first | trivial | rfl | assumption | omega | decide | exact Or.inl rfl | exact Or.inr (Or.inl rfl) | exact Or.inr (Or.inr rfl)))⟩) [] (by decide) rfl (Nat.le_of_ble_eq_true rfl) (Nat.le_of_ble_eq_true rfl)
                              · skip
                                have k45 : ¬ ((Int32.toInt x0) = 17) := fun h_9 => c43 ((fa_eq x0 17).mpr h_9)
                                by_cases c46 : x0 = 18
                                · skip
                                  have k47 : (Int32.toInt x0) = 18 := (fa_eq x0 18).mp c46
                                  refine r_tableIn 1 128 18 C dX7_wantedBy_1 c46 (by decide) (by decide) rfl (by decide) ?_
                                  refine r_iconst 128 1 C dX7_wantedBy_128 (by decide) ?_
                                  exact r_iret 129 Rt dX7_wantedBy_129 () (show -1 ≤ (Int32.toInt 1) ∧ (Int32.toInt 1) ≤ 4 from ⟨(by ((repeat' apply And.intro) <;> first | trivial | rfl | assumption | omega | decide | exact Or.inl rfl | exact Or.inr (Or.inl rfl) | exact Or.inr (Or.inr rfl))), (by ((repeat' apply And.intro) <;> first | trivial | rfl | assumption | omega | decide | exact Or.inl rfl | exact Or.inr (Or.inl rfl) | exact Or.inr (Or.inr rfl)))⟩) [] (by decide) rfl (Nat.le_of_ble_eq_true rfl) (Nat.le_of_ble_eq_true rfl)
                                · skip
                                  have k48 : ¬ ((Int32.toInt x0) = 18) := fun h_9 => c46 ((fa_eq x0 18).mpr h_9)
                                  by_cases c49 : x0 = 19
                                  · skip
                                    have k50 : (Int32.toInt x0) = 19 := (fa_eq x0 19).mp c49
                                    refine r_tableIn 1 134 19 C dX7_wantedBy_1 c49 (by decide) (by decide) rfl (by decide) ?_
                                    refine r_iconst 134 (-1) C dX7_wantedBy_134 (by decide) ?_
                                    exact r_iret 135 Rt dX7_wantedBy_135 () (show -1 ≤ (Int32.toInt (-1)) ∧ (Int32.toInt (-1)) ≤ 4 from ⟨(by ((repeat' apply And.intro) <;> first | trivial | rfl | assumption | omega | decide | exact Or.inl rfl | exact Or.inr (Or.inl rfl) | exact Or.inr (Or.inr rfl))), (by ((repeat' apply And.intro) <;> first | trivial | rfl | assumption | omega | decide | exact Or.inl rfl | exact Or.inr (Or.inl rfl) | exact Or.inr (Or.inr rfl)))⟩) [] (by decide) rfl (Nat.le_of_ble_eq_true rfl) (Nat.le_of_ble_eq_true rfl)
                                  · skip
                                    have k51 : ¬ ((Int32.toInt x0) = 19) := fun h_9 => c49 ((fa_eq x0 19).mpr h_9)
                                    by_cases c52 : x0 = 20
                                    · skip
                                      have k53 : (Int32.toInt x0) = 20 := (fa_eq x0 20).mp c52
                                      refine r_tableIn 1 130 20 C dX7_wantedBy_1 c52 (by decide) (by decide) rfl (by decide) ?_
                                      refine r_iconst 130 2 C dX7_wantedBy_130 (by decide) ?_
                                      exact r_iret 131 Rt dX7_wantedBy_131 () (show -1 ≤ (Int32.toInt 2) ∧ (Int32.toInt 2) ≤ 4 from ⟨(by ((repeat' apply And.intro) <;> first | trivial | rfl | assumption | omega | decide | exact Or.inl rfl | exact Or.inr (Or.inl rfl) | exact Or.inr (Or.inr rfl))), (by ((repeat' apply And.intro) <;> first | trivial | rfl | assumption | omega | decide | exact Or.inl rfl | exact Or.inr (Or.inl rfl) | exact Or.inr (Or.inr rfl)))⟩) [] (by decide) rfl (Nat.le_of_ble_eq_true rfl) (Nat.le_of_ble_eq_true rfl)
                                    · skip
                                      have k54 : ¬ ((Int32.toInt x0) = 20) := fun h_9 => c52 ((fa_eq x0 20).mpr h_9)
                                      by_cases c55 : x0 = 21
                                      · skip
                                        have k56 : (Int32.toInt x0) = 21 := (fa_eq x0 21).mp c55
                                        refine r_tableIn 1 128 21 C dX7_wantedBy_1 c55 (by decide) (by decide) rfl (by decide) ?_
                                        refine r_iconst 128 1 C dX7_wantedBy_128 (by decide) ?_
                                        exact r_iret 129 Rt dX7_wantedBy_129 () (show -1 ≤ (Int32.toInt 1) ∧ (Int32.toInt 1) ≤ 4 from ⟨(by ((repeat' apply And.intro) <;> first | trivial | rfl | assumption | omega | decide | exact Or.inl rfl | exact Or.inr (Or.inl rfl) | exact Or.inr (Or.inr rfl))), (by ((repeat' apply And.intro) <;> first | trivial | rfl | assumption | omega | decide | exact Or.inl rfl | exact Or.inr (Or.inl rfl) | exact Or.inr (Or.inr rfl)))⟩) [] (by decide) rfl (Nat.le_of_ble_eq_true rfl) (Nat.le_of_ble_eq_true rfl)
                                      · skip
                                        have k57 : ¬ ((Int32.toInt x0) = 21) := fun h_9 => c55 ((fa_eq x0 21).mpr h_9)
                                        by_cases c58 : x0 = 22
                                        · skip
                                          have k59 : (Int32.toInt x0) = 22 := (fa_eq x0 22).mp c58
                                          refine r_tableIn 1 132 22 C dX7_wantedBy_1 c58 (by decide) (by decide) rfl (by decide) ?_
                                          refine r_iconst 132 4 C dX7_wantedBy_132 (by decide) ?_
                                          exact r_iret 133 Rt dX7_wantedBy_133 () (show -1 ≤ (Int32.toInt 4) ∧ (Int32.toInt 4) ≤ 4 from ⟨(by ((repeat' apply And.intro) <;> first | trivial | rfl | assumption | omega | decide | exact Or.inl rfl | exact Or.inr (Or.inl rfl) | exact Or.inr (Or.inr rfl))), (by ((repeat' apply And.intro) <;> first | trivial | rfl | assumption | omega | decide | exact Or.inl rfl | exact Or.inr (Or.inl rfl) | exact Or.inr (Or.inr rfl)))⟩) [] (by decide) rfl (Nat.le_of_ble_eq_true rfl) (Nat.le_of_ble_eq_true rfl)
                                        · skip
                                          have k60 : ¬ ((Int32.toInt x0) = 22) := fun h_9 => c58 ((fa_eq x0 22).mpr h_9)
                                          by_cases c61 : x0 = 23
                                          · skip
                                            have k62 : (Int32.toInt x0) = 23 := (fa_eq x0 23).mp c61
                                            refine r_tableIn 1 134 23 C dX7_wantedBy_1 c61 (by decide) (by decide) rfl (by decide) ?_
                                            refine r_iconst 134 (-1) C dX7_wantedBy_134 (by decide) ?_
                                            exact r_iret 135 Rt dX7_wantedBy_135 () (show -1 ≤ (Int32.toInt (-1)) ∧ (Int32.toInt (-1)) ≤ 4 from ⟨(by ((repeat' apply And.intro) <;> first | trivial | rfl | assumption | omega | decide | exact Or.inl rfl | exact Or.inr (Or.inl rfl) | exact Or.inr (Or.inr rfl))), (by ((repeat' apply And.intro) <;> first | trivial | rfl | assumption | omega | decide | exact Or.inl rfl | exact Or.inr (Or.inl rfl) | exact Or.inr (Or.inr rfl)))⟩) [] (by decide) rfl (Nat.le_of_ble_eq_true rfl) (Nat.le_of_ble_eq_true rfl)
                                          · skip
                                            have k63 : ¬ ((Int32.toInt x0) = 23) := fun h_9 => c61 ((fa_eq x0 23).mpr h_9)
                                            by_cases c64 : x0 = 24
                                            · skip
                                              have k65 : (Int32.toInt x0) = 24 := (fa_eq x0 24).mp c64
                                              refine r_tableIn 1 130 24 C dX7_wantedBy_1 c64 (by decide) (by decide) rfl (by decide) ?_
                                              refine r_iconst 130 2 C dX7_wantedBy_130 (by decide) ?_
                                              exact r_iret 131 Rt dX7_wantedBy_131 () (show -1 ≤ (Int32.toInt 2) ∧ (Int32.toInt 2) ≤ 4 from ⟨(by ((repeat' apply And.intro) <;> first | trivial | rfl | assumption | omega | decide | exact Or.inl rfl | exact Or.inr (Or.inl rfl) | exact Or.inr (Or.inr rfl))), (by ((repeat' apply And.intro) <;> first | trivial | rfl | assumption | omega | decide | exact Or.inl rfl | exact Or.inr (Or.inl rfl) | exact Or.inr (Or.inr rfl)))⟩) [] (by decide) rfl (Nat.le_of_ble_eq_true rfl) (Nat.le_of_ble_eq_true rfl)
                                            · skip
                                              have k66 : ¬ ((Int32.toInt x0) = 24) := fun h_9 => c64 ((fa_eq x0 24).mpr h_9)
                                              by_cases c67 : x0 = 25
                                              · skip
                                                have k68 : (Int32.toInt x0) = 25 := (fa_eq x0 25).mp c67
                                                refine r_tableIn 1 134 25 C dX7_wantedBy_1 c67 (by decide) (by decide) rfl (by decide) ?_
                                                refine r_iconst 134 (-1) C dX7_wantedBy_134 (by decide) ?_
                                                exact r_iret 135 Rt dX7_wantedBy_135 () (show -1 ≤ (Int32.toInt (-1)) ∧ (Int32.toInt (-1)) ≤ 4 from ⟨(by ((repeat' apply And.intro) <;> first | trivial | rfl | assumption | omega | decide | exact Or.inl rfl | exact Or.inr (Or.inl rfl) | exact Or.inr (Or.inr rfl))), (by ((repeat' apply And.intro) <;> first | trivial | rfl | assumption | omega | decide | exact Or.inl rfl | exact Or.inr (Or.inl rfl) | exact Or.inr (Or.inr rfl)))⟩) [] (by decide) rfl (Nat.le_of_ble_eq_true rfl) (Nat.le_of_ble_eq_true rfl)
                                              · skip
                                                have k69 : ¬ ((Int32.toInt x0) = 25) := fun h_9 => c67 ((fa_eq x0 25).mpr h_9)
                                                by_cases c70 : x0 = 26
                                                · skip
                                                  have k71 : (Int32.toInt x0) = 26 := (fa_eq x0 26).mp c70
                                                  refine r_tableIn 1 128 26 C dX7_wantedBy_1 c70 (by decide) (by decide) rfl (by decide) ?_
                                                  refine r_iconst 128 1 C dX7_wantedBy_128 (by decide) ?_
                                                  exact r_iret 129 Rt dX7_wantedBy_129 () (show -1 ≤ (Int32.toInt 1) ∧ (Int32.toInt 1) ≤ 4 from ⟨(by ((repeat' apply And.intro) <;> first | trivial | rfl | assumption | omega | decide | exact Or.inl rfl | exact Or.inr (Or.inl rfl) | exact Or.inr (Or.inr rfl))), (by ((repeat' apply And.intro) <;> first | trivial | rfl | assumption | omega | decide | exact Or.inl rfl | exact Or.inr (Or.inl rfl) | exact Or.inr (Or.inr rfl)))⟩) [] (by decide) rfl (Nat.le_of_ble_eq_true rfl) (Nat.le_of_ble_eq_true rfl)
                                                · skip
                                                  have k72 : ¬ ((Int32.toInt x0) = 26) := fun h_9 => c70 ((fa_eq x0 26).mpr h_9)
                                                  by_cases c73 : x0 = 27
                                                  · skip
                                                    have k74 : (Int32.toInt x0) = 27 := (fa_eq x0 27).mp c73
                                                    refine r_tableIn 1 128 27 C dX7_wantedBy_1 c73 (by decide) (by decide) rfl (by decide) ?_
                                                    refine r_iconst 128 1 C dX7_wantedBy_128 (by decide) ?_
                                                    exact r_iret 129 Rt dX7_wantedBy_129 () (show -1 ≤ (Int32.toInt 1) ∧ (Int32.toInt 1) ≤ 4 from ⟨(by ((repeat' apply And.intro) <;> first | trivial | rfl | assumption | omega | decide | exact Or.inl rfl | exact Or.inr (Or.inl rfl) | exact Or.inr (Or.inr rfl))), (by ((repeat' apply And.intro) <;> first | trivial | rfl | assumption | omega | decide | exact Or.inl rfl | exact Or.inr (Or.inl rfl) | exact Or.inr (Or.inr rfl)))⟩) [] (by decide) rfl (Nat.le_of_ble_eq_true rfl) (Nat.le_of_ble_eq_true rfl)
                                                  · skip
                                                    have k75 : ¬ ((Int32.toInt x0) = 27) := fun h_9 => c73 ((fa_eq x0 27).mpr h_9)
                                                    by_cases c76 : x0 = 28
                                                    · skip
                                                      have k77 : (Int32.toInt x0) = 28 := (fa_eq x0 28).mp c76
                                                      refine r_tableIn 1 130 28 C dX7_wantedBy_1 c76 (by decide) (by decide) rfl (by decide) ?_
                                                      refine r_iconst 130 2 C dX7_wantedBy_130 (by decide) ?_
                                                      exact r_iret 131 Rt dX7_wantedBy_131 () (show -1 ≤ (Int32.toInt 2) ∧ (Int32.toInt 2) ≤ 4 from ⟨(by ((repeat' apply And.intro) <;> first | trivial | rfl | assumption | omega | decide | exact Or.inl rfl | exact Or.inr (Or.inl rfl) | exact Or.inr (Or.inr rfl))), (by ((repeat' apply And.intro) <;> first | trivial | rfl | assumption | omega | decide | exact Or.inl rfl | exact Or.inr (Or.inl rfl) | exact Or.inr (Or.inr rfl)))⟩) [] (by decide) rfl (Nat.le_of_ble_eq_true rfl) (Nat.le_of_ble_eq_true rfl)
                                                    · skip
                                                      have k78 : ¬ ((Int32.toInt x0) = 28) := fun h_9 => c76 ((fa_eq x0 28).mpr h_9)
                                                      by_cases c79 : x0 = 29
                                                      · skip
                                                        have k80 : (Int32.toInt x0) = 29 := (fa_eq x0 29).mp c79
                                                        refine r_tableIn 1 128 29 C dX7_wantedBy_1 c79 (by decide) (by decide) rfl (by decide) ?_
                                                        refine r_iconst 128 1 C dX7_wantedBy_128 (by decide) ?_
                                                        exact r_iret 129 Rt dX7_wantedBy_129 () (show -1 ≤ (Int32.toInt 1) ∧ (Int32.toInt 1) ≤ 4 from ⟨(by ((repeat' apply And.intro) <;> first | trivial | rfl | assumption | omega | decide | exact Or.inl rfl | exact Or.inr (Or.inl rfl) | exact Or.inr (Or.inr rfl))), (by ((repeat' apply And.intro) <;> first | trivial | rfl | assumption | omega | decide | exact Or.inl rfl | exact Or.inr (Or.inl rfl) | exact Or.inr (Or.inr rfl)))⟩) [] (by decide) rfl (Nat.le_of_ble_eq_true rfl) (Nat.le_of_ble_eq_true rfl)
                                                      · skip
                                                        have k81 : ¬ ((Int32.toInt x0) = 29) := fun h_9 => c79 ((fa_eq x0 29).mpr h_9)
                                                        by_cases c82 : x0 = 30
                                                        · skip
                                                          have k83 : (Int32.toInt x0) = 30 := (fa_eq x0 30).mp c82
                                                          refine r_tableIn 1 130 30 C dX7_wantedBy_1 c82 (by decide) (by decide) rfl (by decide) ?_
                                                          refine r_iconst 130 2 C dX7_wantedBy_130 (by decide) ?_
                                                          exact r_iret 131 Rt dX7_wantedBy_131 () (show -1 ≤ (Int32.toInt 2) ∧ (Int32.toInt 2) ≤ 4 from ⟨(by ((repeat' apply And.intro) <;> first | trivial | rfl | assumption | omega | decide | exact Or.inl rfl | exact Or.inr (Or.inl rfl) | exact Or.inr (Or.inr rfl))), (by ((repeat' apply And.intro) <;> first | trivial | rfl | assumption | omega | decide | exact Or.inl rfl | exact Or.inr (Or.inl rfl) | exact Or.inr (Or.inr rfl)))⟩) [] (by decide) rfl (Nat.le_of_ble_eq_true rfl) (Nat.le_of_ble_eq_true rfl)
                                                        · skip
                                                          have k84 : ¬ ((Int32.toInt x0) = 30) := fun h_9 => c82 ((fa_eq x0 30).mpr h_9)
                                                          refine r_tableOut 1 134 C dX7_wantedBy_1 (by omega) (by decide) ?_
                                                          refine r_iconst 134 (-1) C dX7_wantedBy_134 (by decide) ?_
                                                          exact r_iret 135 Rt dX7_wantedBy_135 () (show -1 ≤ (Int32.toInt (-1)) ∧ (Int32.toInt (-1)) ≤ 4 from ⟨(by ((repeat' apply And.intro) <;> first | trivial | rfl | assumption | omega | decide | exact Or.inl rfl | exact Or.inr (Or.inl rfl) | exact Or.inr (Or.inr rfl))), (by ((repeat' apply And.intro) <;> first | trivial | rfl | assumption | omega | decide | exact Or.inl rfl | exact Or.inr (Or.inl rfl) | exact Or.inr (Or.inr rfl)))⟩) [] (by decide) rfl (Nat.le_of_ble_eq_true rfl) (Nat.le_of_ble_eq_true rfl)
set_option maxHeartbeats 4000000 in
set_option maxRecDepth 100000 in
theorem c300_X7_truth (l : Launch) (g : GD) (x0 : Int32) (i_x0 : (0 ≤ (Int32.toInt x0) ∧ (Int32.toInt x0) ≤ 1)) (sz : Nat) : Met l yX7_truth wsX7_truth ({ frames := 0, cells := 0, slots := 0, locals := 0 }) (va_Pc [.int x0] (PW g [] sz)) (va_Ql (fun (r : Int64) (_ : Unit) => 0 ≤ (Int64.toInt r) ∧ (Int64.toInt r) ≤ 65536) (BW g (va_A [] sz) (fun _ : Unit => [])) (va_A [] sz)) 0 0 (va_A [] sz) := by
  refine met_l RX7 (by decide) rfl rfl (Nat.le_of_ble_eq_true rfl) [(0, .int x0)] rfl ?_
  intro p e s m args below meth c A Q C hnm Rt
  refine r_iload_n 0 0 C dX7_truth_0 rfl ?_
  refine r_if_eq 1 10 C dX7_truth_1 (by decide) (fun c1 => ?_) (fun c1 => ?_)
  · skip
    have k2 : (Int32.toInt x0) = 0 := (fa_eq x0 0).mp c1
    refine r_lconst 10 0 C dX7_truth_10 (by decide) ?_
    exact r_lret 11 Rt dX7_truth_11 () (show 0 ≤ (Int64.toInt 0) ∧ (Int64.toInt 0) ≤ 65536 from ⟨(by ((repeat' apply And.intro) <;> first | trivial | rfl | assumption | omega | decide | exact Or.inl rfl | exact Or.inr (Or.inl rfl) | exact Or.inr (Or.inr rfl))), (by ((repeat' apply And.intro) <;> first | trivial | rfl | assumption | omega | decide | exact Or.inl rfl | exact Or.inr (Or.inl rfl) | exact Or.inr (Or.inr rfl)))⟩) [] (by decide) rfl (Nat.le_of_ble_eq_true rfl) (Nat.le_of_ble_eq_true rfl)
  · skip
    have k3 : ¬ ((Int32.toInt x0) = 0) := fun h_9 => c1 ((fa_eq x0 0).mpr h_9)
    refine r_ldc2 4 65536 C dX7_truth_4 (mg 1 rfl) ?_
    refine r_goto 7 11 C dX7_truth_7 (by decide) ?_
    exact r_lret 11 Rt dX7_truth_11 () (show 0 ≤ (Int64.toInt 65536) ∧ (Int64.toInt 65536) ≤ 65536 from ⟨(by ((repeat' apply And.intro) <;> first | trivial | rfl | assumption | omega | decide | exact Or.inl rfl | exact Or.inr (Or.inl rfl) | exact Or.inr (Or.inr rfl))), (by ((repeat' apply And.intro) <;> first | trivial | rfl | assumption | omega | decide | exact Or.inl rfl | exact Or.inr (Or.inl rfl) | exact Or.inr (Or.inr rfl)))⟩) [] (by decide) rfl (Nat.le_of_ble_eq_true rfl) (Nat.le_of_ble_eq_true rfl)
set_option maxHeartbeats 4000000 in
set_option maxRecDepth 100000 in
theorem c301_X7_pick (l : Launch) (g : GD) (h0 : Nat) (h1 : Nat) (y0 : Int64) (h2 : Nat) (x0 : Int32) (x1 : Int32) (fm0 : Nat → Int64) (i_x0 : (0 ≤ (Int32.toInt x0) ∧ (Int32.toInt x0) ≤ 48)) (i_x1 : (0 ≤ (Int32.toInt x1) ∧ (Int32.toInt x1) ≤ 48)) (sz : Nat) : Met l yX7_pick wsX7_pick ({ frames := 2, cells := 0, slots := 0, locals := 45 }) (va_Pc [.ref h0, .long y0] (PW g [(h0, .inr (6, [.ref h1, .ref h2, .int x0, .int x1])), (h1, .inl (gJ g, 48, .inr (.inl fm0)))] sz)) (va_Qi (fun (r : Int32) (u : (Int32) × (Nat → Int64)) => 0 ≤ (Int32.toInt r) ∧ (Int32.toInt r) ≤ 9 ∧ 0 ≤ (Int32.toInt (u.1)) ∧ (Int32.toInt (u.1)) ≤ 48) (BW g (va_A [(h0, .inr (6, [.ref h1, .ref h2, .int x0, .int x1])), (h1, .inl (gJ g, 48, .inr (.inl fm0)))] sz) (fun u : (Int32) × (Nat → Int64) => [(h0, .inr (6, [.ref h1, .ref h2, .int u.1, .int x1])), (h1, .inl (gJ g, 48, .inr (.inl u.2)))])) (va_A [(h0, .inr (6, [.ref h1, .ref h2, .int x0, .int x1])), (h1, .inl (gJ g, 48, .inr (.inl fm0)))] sz)) 0 0 (va_A [(h0, .inr (6, [.ref h1, .ref h2, .int x0, .int x1])), (h1, .inl (gJ g, 48, .inr (.inl fm0)))] sz) := by
  refine met_i RX7 (by decide) rfl rfl (Nat.le_of_ble_eq_true rfl) [(0, .ref h0), (1, .long y0)] rfl ?_
  intro p e s m args below meth c A Q C hnm Rt
  have hiX7 : ∀ w ∈ wsX70, w ∈ wsX7_pick := fun w h => List.mem_cons_of_mem _ (List.mem_append_right _ (h))
  refine r_lconst 0 0 C dX7_pick_0 (by decide) ?_
  refine r_lload_n 1 1 C dX7_pick_1 rfl ?_
  refine r_ldc2 2 48 C dX7_pick_2 (mg 1 rfl) ?_
  obtain ⟨z1, ez1⟩ : ∃ z_9 : Int64, (if 48 < y0 then 48 else y0) = z_9 := ⟨_, rfl⟩
  have gz1 := fb_rngL z1
  refine r_lmin 5 z1 C dX7_pick_5 (mg 2 rfl) (mg 3 rfl) (mg 4 rfl) (mg 5 rfl) (Nat.le_of_ble_eq_true rfl) (Nat.le_of_ble_eq_true rfl) (Nat.le_of_ble_eq_true rfl) (Nat.le_of_ble_eq_true rfl) ez1 ?_
  obtain ⟨z2, ez2⟩ : ∃ z_9 : Int64, (if z1 < 0 then 0 else z1) = z_9 := ⟨_, rfl⟩
  have gz2 := fb_rngL z2
  refine r_lmax 8 z2 C dX7_pick_8 (mg 6 rfl) (mg 7 rfl) (mg 4 rfl) (mg 8 rfl) (Nat.le_of_ble_eq_true rfl) (Nat.le_of_ble_eq_true rfl) (Nat.le_of_ble_eq_true rfl) (Nat.le_of_ble_eq_true rfl) ez2 ?_
  obtain ⟨z3, ez3⟩ : ∃ z_9, Int64.toInt32 z2 = z_9 := ⟨_, rfl⟩
  have gz3 := fb_rng z3
  refine r_l2i 11 z3 C dX7_pick_11 ez3 ?_
  refine r_istore_n 12 C dX7_pick_12 [(3, .int z3), (0, .ref h0), (1, .long y0)] (by decide) rfl ?_
  refine r_iload_n 13 0 C dX7_pick_13 rfl ?_
  refine r_iconst 14 1 C dX7_pick_14 (by decide) ?_
  obtain ⟨z4, ez4⟩ : ∃ z_9, z3 + 1 = z_9 := ⟨_, rfl⟩
  have gz4 := fb_rng z4
  refine r_iadd 15 z4 C dX7_pick_15 ez4 ?_
  refine r_aload_n 16 1 C dX7_pick_16 rfl ?_
  refine r_get 17 C dX7_pick_17 (k := 2) 0 rfl rfl hiX7 (by decide) rfl (mg 9 rfl) (Or.inl rfl) rfl ?_
  refine r_icmp_lt 20 28 C dX7_pick_20 (by decide) (fun c5 => ?_) (fun c5 => ?_)
  · skip
    have k6 : (Int32.toInt z4) < (Int32.toInt x0) := (fa_lt z4 x0).mp c5
    refine r_aload_n 28 1 C dX7_pick_28 rfl ?_
    refine r_iconst 29 1 C dX7_pick_29 (by decide) ?_
    refine r_aload_n 30 1 C dX7_pick_30 rfl ?_
    refine r_iload_n 31 0 C dX7_pick_31 rfl ?_
    refine r_iconst 32 1 C dX7_pick_32 (by decide) ?_
    obtain ⟨z7, ez7⟩ : ∃ z_9, z3 + 1 = z_9 := ⟨_, rfl⟩
    have gz7 := fb_rng z7
    refine r_iadd 33 z7 C dX7_pick_33 ez7 ?_
    refine r_callVl 34 C dX7_pick_34 [.int 1, .ref h0] [(h0, .inr (6, [.ref h1, .ref h2, .int x0, .int x1])), (h1, .inl (gJ g, 48, .inr (.inl fm0)))] [] (fun sz => c233_X7_below l g h0 h1 z7 h2 x0 x1 fm0 i_x0 i_x1 sz) gX7_pick_X7_below rfl ⟨rfl, rfl⟩ 1 (by decide) ⟨Nat.le_of_ble_eq_true rfl, Nat.le_of_ble_eq_true rfl⟩ 0 rfl rfl [0, 1] [] rfl rfl (by decide) (by decide) (by decide) rfl rfl (Nat.le_of_ble_eq_true rfl) ⟨Nat.le_of_ble_eq_true rfl, Nat.le_of_ble_eq_true rfl⟩ (fun r8 _ w9 => ?_)
    refine r_ws [(h0, .inr (6, [.ref h1, .ref h2, .int x0, .int x1])), (h1, .inl (gJ g, 48, .inr (.inl fm0)))] rfl ?_
    have gr8 := fb_rngL r8
    refine r_callVi 37 C dX7_pick_37 [] [(h0, .inr (6, [.ref h1, .ref h2, .int x0, .int x1])), (h1, .inl (gJ g, 48, .inr (.inl fm0)))] [] (fun sz => c238_X7_replace l g h0 h1 1 r8 h2 x0 x1 fm0 i_x0 i_x1 sz) gX7_pick_X7_replace rfl ⟨rfl, rfl⟩ 2 (by decide) ⟨Nat.le_of_ble_eq_true rfl, Nat.le_of_ble_eq_true rfl⟩ 0 rfl rfl [0, 1] [] rfl rfl (by decide) (by decide) (by decide) rfl rfl (Nat.le_of_ble_eq_true rfl) ⟨Nat.le_of_ble_eq_true rfl, Nat.le_of_ble_eq_true rfl⟩ (fun r12 u14 w13 => ?_)
    obtain ⟨z10, f11⟩ := u14
    refine r_ws [(h0, .inr (6, [.ref h1, .ref h2, .int z10, .int x1])), (h1, .inl (gJ g, 48, .inr (.inl f11)))] rfl ?_
    have p15 : 0 ≤ (Int32.toInt r12) := w13.1
    have p16 : (Int32.toInt r12) ≤ 3 := w13.2.1
    have p17 : 0 ≤ (Int32.toInt z10) := w13.2.2.1
    have p18 : (Int32.toInt z10) ≤ 48 := w13.2.2.2
    exact r_iret 40 Rt dX7_pick_40 (z10, f11) (show 0 ≤ (Int32.toInt r12) ∧ (Int32.toInt r12) ≤ 9 ∧ 0 ≤ (Int32.toInt z10) ∧ (Int32.toInt z10) ≤ 48 from ⟨(iv_wide (c := 0) (d := 9) ⟨p15, p16⟩ (by decide) (by decide)).1, (iv_wide (c := 0) (d := 9) ⟨p15, p16⟩ (by decide) (by decide)).2, (show _ ∧ _ from ⟨p17, p18⟩).1, (show _ ∧ _ from ⟨p17, p18⟩).2⟩) [0, 1] (by decide) rfl (Nat.le_of_ble_eq_true rfl) (Nat.le_of_ble_eq_true rfl)
  · skip
    have k19 : ¬ ((Int32.toInt z4) < (Int32.toInt x0)) := fun h_9 => c5 ((fa_lt z4 x0).mpr h_9)
    refine r_bipush 23 9 C dX7_pick_23 (by decide) ?_
    refine r_goto 25 40 C dX7_pick_25 (by decide) ?_
    exact r_iret 40 Rt dX7_pick_40 (x0, fm0) (show 0 ≤ (Int32.toInt 9) ∧ (Int32.toInt 9) ≤ 9 ∧ 0 ≤ (Int32.toInt x0) ∧ (Int32.toInt x0) ≤ 48 from ⟨(by ((repeat' apply And.intro) <;> first | trivial | rfl | assumption | omega | decide | exact Or.inl rfl | exact Or.inr (Or.inl rfl) | exact Or.inr (Or.inr rfl))), (by ((repeat' apply And.intro) <;> first | trivial | rfl | assumption | omega | decide | exact Or.inl rfl | exact Or.inr (Or.inl rfl) | exact Or.inr (Or.inr rfl))), i_x0.1, i_x0.2⟩) [0, 1] (by decide) rfl (Nat.le_of_ble_eq_true rfl) (Nat.le_of_ble_eq_true rfl)
set_option maxHeartbeats 4000000 in
set_option maxRecDepth 100000 in
theorem c302_X7_fetch (l : Launch) (g : GD) (h0 : Nat) (h1 : Nat) (h2 : Nat) (y0 : Int64) (x0 : Int32) (x1 : Int32) (fm0 : Nat → Int64) (fm1 : Nat → Int64) (i_x0 : (0 ≤ (Int32.toInt x0) ∧ (Int32.toInt x0) ≤ 48)) (i_x1 : (0 ≤ (Int32.toInt x1) ∧ (Int32.toInt x1) ≤ 48)) (sz : Nat) : Met l yX7_fetch wsX7_fetch ({ frames := 2, cells := 0, slots := 0, locals := 45 }) (va_Pc [.ref h0, .long y0] (PW g [(h0, .inr (6, [.ref h1, .ref h2, .int x0, .int x1])), (h1, .inl (gJ g, 48, .inr (.inl fm0))), (h2, .inl (gJ g, 32, .inr (.inl fm1)))] sz)) (va_Qi (fun (r : Int32) (u : (Int32) × (Nat → Int64)) => 0 ≤ (Int32.toInt r) ∧ (Int32.toInt r) ≤ 9 ∧ 0 ≤ (Int32.toInt (u.1)) ∧ (Int32.toInt (u.1)) ≤ 48) (BW g (va_A [(h0, .inr (6, [.ref h1, .ref h2, .int x0, .int x1])), (h1, .inl (gJ g, 48, .inr (.inl fm0))), (h2, .inl (gJ g, 32, .inr (.inl fm1)))] sz) (fun u : (Int32) × (Nat → Int64) => [(h0, .inr (6, [.ref h1, .ref h2, .int u.1, .int x1])), (h1, .inl (gJ g, 48, .inr (.inl u.2))), (h2, .inl (gJ g, 32, .inr (.inl fm1)))])) (va_A [(h0, .inr (6, [.ref h1, .ref h2, .int x0, .int x1])), (h1, .inl (gJ g, 48, .inr (.inl fm0))), (h2, .inl (gJ g, 32, .inr (.inl fm1)))] sz)) 0 0 (va_A [(h0, .inr (6, [.ref h1, .ref h2, .int x0, .int x1])), (h1, .inl (gJ g, 48, .inr (.inl fm0))), (h2, .inl (gJ g, 32, .inr (.inl fm1)))] sz) := by
  refine met_i RX7 (by decide) rfl rfl (Nat.le_of_ble_eq_true rfl) [(0, .ref h0), (1, .long y0)] rfl ?_
  intro p e s m args below meth c A Q C hnm Rt
  have gy0 := fb_rngL y0
  have hiX7 : ∀ w ∈ wsX70, w ∈ wsX7_fetch := fun w h => List.mem_cons_of_mem _ (List.mem_append_right _ (h))
  refine r_lload_n 0 1 C dX7_fetch_0 rfl ?_
  refine r_lconst 1 0 C dX7_fetch_1 (by decide) ?_
  obtain ⟨z1, ez1⟩ : ∃ z_9, lg_cmp y0 0 = z_9 := ⟨_, rfl⟩
  have l1z1 : (Int32.toInt z1) < 0 ↔ (Int64.toInt y0) < 0 := by rw [← ez1]; exact lgI1 y0 0
  have l2z1 : 0 < (Int32.toInt z1) ↔ 0 < (Int64.toInt y0) := by rw [← ez1]; exact lgI2 y0 0
  refine r_lcmp 2 z1 C dX7_fetch_2 ez1 ?_
  refine r_if_lt 3 14 C dX7_fetch_3 (by decide) (fun c2 => ?_) (fun c2 => ?_)
  · skip
    have k3 : (Int32.toInt z1) < 0 := (fa_lt z1 0).mp c2
    refine r_bipush 14 9 C dX7_fetch_14 (by decide) ?_
    exact r_iret 16 Rt dX7_fetch_16 (x0, fm0) (show 0 ≤ (Int32.toInt 9) ∧ (Int32.toInt 9) ≤ 9 ∧ 0 ≤ (Int32.toInt x0) ∧ (Int32.toInt x0) ≤ 48 from ⟨(by ((repeat' apply And.intro) <;> first | trivial | rfl | assumption | omega | decide | exact Or.inl rfl | exact Or.inr (Or.inl rfl) | exact Or.inr (Or.inr rfl))), (by ((repeat' apply And.intro) <;> first | trivial | rfl | assumption | omega | decide | exact Or.inl rfl | exact Or.inr (Or.inl rfl) | exact Or.inr (Or.inr rfl))), i_x0.1, i_x0.2⟩) [0, 1, 2] (by decide) rfl (Nat.le_of_ble_eq_true rfl) (Nat.le_of_ble_eq_true rfl)
  · skip
    have k4 : ¬ ((Int32.toInt z1) < 0) := fun h_9 => c2 ((fa_lt z1 0).mpr h_9)
    refine r_lload_n 6 1 C dX7_fetch_6 rfl ?_
    refine r_ldc2 7 32 C dX7_fetch_7 (mg 1 rfl) ?_
    obtain ⟨z5, ez5⟩ : ∃ z_9, lg_cmp y0 32 = z_9 := ⟨_, rfl⟩
    have l1z5 : (Int32.toInt z5) < 0 ↔ (Int64.toInt y0) < 32 := by rw [← ez5]; exact lgI1 y0 32
    have l2z5 : 0 < (Int32.toInt z5) ↔ 32 < (Int64.toInt y0) := by rw [← ez5]; exact lgI2 y0 32
    refine r_lcmp 10 z5 C dX7_fetch_10 ez5 ?_
    refine r_if_lt 11 17 C dX7_fetch_11 (by decide) (fun c6 => ?_) (fun c6 => ?_)
    · skip
      have k7 : (Int32.toInt z5) < 0 := (fa_lt z5 0).mp c6
      refine r_aload_n 17 0 C dX7_fetch_17 rfl ?_
      refine r_iconst 18 1 C dX7_fetch_18 (by decide) ?_
      refine r_aload_n 19 0 C dX7_fetch_19 rfl ?_
      refine r_get 20 C dX7_fetch_20 (k := 1) 0 rfl rfl hiX7 (by decide) rfl (mg 2 rfl) (Or.inl rfl) rfl ?_
      refine r_lload_n 23 1 C dX7_fetch_23 rfl ?_
      obtain ⟨z8, ez8⟩ : ∃ z_9, Int64.toInt32 y0 = z_9 := ⟨_, rfl⟩
      have tz8 : (Int32.toInt z8) = (Int64.toInt y0) := by rw [← ez8]; exact l2i_in (by omega) (by omega)
      refine r_l2i 24 z8 C dX7_fetch_24 ez8 ?_
      obtain ⟨z9, ez9⟩ : ∃ z_9, fm1 (Int32.toNatClampNeg z8) = z_9 := ⟨_, rfl⟩
      refine r_lald 25 z9 C dX7_fetch_25 2 rfl (vinI (by omega) (by omega)) ez9 ?_
      have gz9 := fb_rngL z9
      refine r_callVi 26 C dX7_fetch_26 [] [(h0, .inr (6, [.ref h1, .ref h2, .int x0, .int x1])), (h1, .inl (gJ g, 48, .inr (.inl fm0)))] [(h2, .inl (gJ g, 32, .inr (.inl fm1)))] (fun sz => c238_X7_replace l g h0 h1 1 z9 h2 x0 x1 fm0 i_x0 i_x1 sz) gX7_fetch_X7_replace rfl ⟨rfl, rfl⟩ 2 (by decide) ⟨Nat.le_of_ble_eq_true rfl, Nat.le_of_ble_eq_true rfl⟩ 0 rfl rfl [0, 1] [2] rfl rfl (by decide) (by decide) (by decide) rfl rfl (Nat.le_of_ble_eq_true rfl) ⟨Nat.le_of_ble_eq_true rfl, Nat.le_of_ble_eq_true rfl⟩ (fun r12 u14 w13 => ?_)
      obtain ⟨z10, f11⟩ := u14
      refine r_ws [(h2, .inl (gJ g, 32, .inr (.inl fm1))), (h0, .inr (6, [.ref h1, .ref h2, .int z10, .int x1])), (h1, .inl (gJ g, 48, .inr (.inl f11)))] rfl ?_
      have p15 : 0 ≤ (Int32.toInt r12) := w13.1
      have p16 : (Int32.toInt r12) ≤ 3 := w13.2.1
      have p17 : 0 ≤ (Int32.toInt z10) := w13.2.2.1
      have p18 : (Int32.toInt z10) ≤ 48 := w13.2.2.2
      exact r_iret 29 Rt dX7_fetch_29 (z10, f11) (show 0 ≤ (Int32.toInt r12) ∧ (Int32.toInt r12) ≤ 9 ∧ 0 ≤ (Int32.toInt z10) ∧ (Int32.toInt z10) ≤ 48 from ⟨(iv_wide (c := 0) (d := 9) ⟨p15, p16⟩ (by decide) (by decide)).1, (iv_wide (c := 0) (d := 9) ⟨p15, p16⟩ (by decide) (by decide)).2, (show _ ∧ _ from ⟨p17, p18⟩).1, (show _ ∧ _ from ⟨p17, p18⟩).2⟩) [1, 2, 0] (by decide) rfl (Nat.le_of_ble_eq_true rfl) (Nat.le_of_ble_eq_true rfl)
    · skip
      have k19 : ¬ ((Int32.toInt z5) < 0) := fun h_9 => c6 ((fa_lt z5 0).mpr h_9)
      refine r_bipush 14 9 C dX7_fetch_14 (by decide) ?_
      exact r_iret 16 Rt dX7_fetch_16 (x0, fm0) (show 0 ≤ (Int32.toInt 9) ∧ (Int32.toInt 9) ≤ 9 ∧ 0 ≤ (Int32.toInt x0) ∧ (Int32.toInt x0) ≤ 48 from ⟨(by ((repeat' apply And.intro) <;> first | trivial | rfl | assumption | omega | decide | exact Or.inl rfl | exact Or.inr (Or.inl rfl) | exact Or.inr (Or.inr rfl))), (by ((repeat' apply And.intro) <;> first | trivial | rfl | assumption | omega | decide | exact Or.inl rfl | exact Or.inr (Or.inl rfl) | exact Or.inr (Or.inr rfl))), i_x0.1, i_x0.2⟩) [0, 1, 2] (by decide) rfl (Nat.le_of_ble_eq_true rfl) (Nat.le_of_ble_eq_true rfl)
set_option maxHeartbeats 4000000 in
set_option maxRecDepth 100000 in
theorem c303_X7_rootOf (l : Launch) (g : GD) (y0 : Int64) (sz : Nat) : Met l yX7_rootOf wsX7_rootOf ({ frames := 0, cells := 0, slots := 0, locals := 0 }) (va_Pc [.long y0] (PW g [] sz)) (va_Ql (fun (r : Int64) (_ : Unit) => True) (BW g (va_A [] sz) (fun _ : Unit => [])) (va_A [] sz)) 0 0 (va_A [] sz) := by
  refine met_l RX7 (by decide) rfl rfl (Nat.le_of_ble_eq_true rfl) [(0, .long y0)] rfl ?_
  intro p e s m args below meth c A Q C hnm Rt
  have gy0 := fb_rngL y0
  refine r_lconst 0 0 C dX7_rootOf_0 (by decide) ?_
  refine r_lstore_n 1 C dX7_rootOf_1 [(2, .long 0), (0, .long y0)] (by decide) rfl ?_
  refine r_bipush 2 23 C dX7_rootOf_2 (by decide) ?_
  refine r_istore 4 C dX7_rootOf_4 [(4, .int 23), (2, .long 0), (0, .long y0)] (by decide) rfl ?_
  have lp4 : ∀ (n3 : Nat) (z1 : Int32) (z2 : Int64), (-1 ≤ (Int32.toInt z1) ∧ (Int32.toInt z1) ≤ 23) → Int.toNat ((Int32.toInt z1) - (-1)) < n3 → WW p l e ({ frames := 0, cells := 0, slots := 0, locals := 0 } : Room) s m args below meth c A Q g 7 0 0 [] 6 [(4, .int z1), (2, .long z2), (0, .long y0)] [] := by
    intro n3
    induction n3 with
    | zero => intro z1 z2 i7 hm6; exact absurd hm6 (Nat.not_lt_zero _)
    | succ n3 ih5 =>
      intro z1 z2 i7 hm6
      obtain ⟨i7a, i7b⟩ := i7
      have gz2 := fb_rngL z2
      refine r_iload 6 0 C dX7_rootOf_6 rfl ?_
      refine r_if_lt 8 38 C dX7_rootOf_8 (by decide) (fun c8 => ?_) (fun c8 => ?_)
      · skip
        have k9 : (Int32.toInt z1) < 0 := (fa_lt z1 0).mp c8
        refine r_lload_n 38 1 C dX7_rootOf_38 rfl ?_
        exact r_lret 39 Rt dX7_rootOf_39 () trivial [] (by decide) rfl (Nat.le_of_ble_eq_true rfl) (Nat.le_of_ble_eq_true rfl)
      · skip
        have k10 : ¬ ((Int32.toInt z1) < 0) := fun h_9 => c8 ((fa_lt z1 0).mpr h_9)
        refine r_lload_n 11 1 C dX7_rootOf_11 rfl ?_
        refine r_lconst 12 1 C dX7_rootOf_12 (by decide) ?_
        refine r_iload 13 0 C dX7_rootOf_13 rfl ?_
        obtain ⟨z11, ez11⟩ : ∃ z_9, 1 <<< (Int32.toInt64 z1 &&& 63) = z_9 := ⟨_, rfl⟩
        have gz11 := fb_rngL z11
        refine r_lshl 15 z11 C dX7_rootOf_15 ez11 ?_
        obtain ⟨z12, ez12⟩ : ∃ z_9, z2 ||| z11 = z_9 := ⟨_, rfl⟩
        have gz12 := fb_rngL z12
        refine r_lor 16 z12 C dX7_rootOf_16 ez12 ?_
        refine r_lstore 17 C dX7_rootOf_17 [(5, .long z12), (4, .int z1), (2, .long z2), (0, .long y0)] (by decide) rfl ?_
        refine r_lload 19 0 C dX7_rootOf_19 rfl ?_
        refine r_lload 21 0 C dX7_rootOf_21 rfl ?_
        obtain ⟨z13, ez13⟩ : ∃ z_9, z12 * z12 = z_9 := ⟨_, rfl⟩
        have gz13 := fb_rngL z13
        refine r_lmul 23 z13 C dX7_rootOf_23 ez13 ?_
        refine r_lload_n 24 3 C dX7_rootOf_24 rfl ?_
        obtain ⟨z14, ez14⟩ : ∃ z_9, lg_cmp z13 y0 = z_9 := ⟨_, rfl⟩
        have l1z14 : (Int32.toInt z14) < 0 ↔ (Int64.toInt z13) < (Int64.toInt y0) := by rw [← ez14]; exact lgI1 z13 y0
        have l2z14 : 0 < (Int32.toInt z14) ↔ (Int64.toInt y0) < (Int64.toInt z13) := by rw [← ez14]; exact lgI2 z13 y0
        refine r_lcmp 25 z14 C dX7_rootOf_25 ez14 ?_
        refine r_if_gt 26 32 C dX7_rootOf_26 (by decide) (fun c15 => ?_) (fun c15 => ?_)
        · skip
          have k16 : 0 < (Int32.toInt z14) := (fa_lt 0 z14).mp c15
          obtain ⟨z17, ez17⟩ : ∃ z_9, z1 + Int32.ofInt (-1) = z_9 := ⟨_, rfl⟩
          have tz17 : (Int32.toInt z17) = (Int32.toInt z1) + (-1) := by rw [← ez17]; exact fb_addIv (a := (-1)) (b := 23) (c := (-1)) (d := (-1)) ⟨i7a, i7b⟩ ⟨by decide, by decide⟩ (by decide) (by decide)
          refine r_iinc 32 1 z17 C dX7_rootOf_32 rfl ez17 [(4, .int z17), (5, .long z12), (2, .long z2), (0, .long y0)] (by decide) rfl ?_
          refine r_goto 35 6 C dX7_rootOf_35 (by decide) ?_
          refine r_lv [(4, .int z17), (2, .long z2), (0, .long y0)] [0, 2, 3] rfl ?_
          exact ih5 z17 z2 ⟨by omega, by omega⟩ (by omega)
        · skip
          have k18 : ¬ (0 < (Int32.toInt z14)) := fun h_9 => c15 ((fa_lt 0 z14).mpr h_9)
          refine r_lload 29 0 C dX7_rootOf_29 rfl ?_
          refine r_lstore_n 31 C dX7_rootOf_31 [(2, .long z12), (5, .long z12), (4, .int z1), (0, .long y0)] (by decide) rfl ?_
          obtain ⟨z19, ez19⟩ : ∃ z_9, z1 + Int32.ofInt (-1) = z_9 := ⟨_, rfl⟩
          have tz19 : (Int32.toInt z19) = (Int32.toInt z1) + (-1) := by rw [← ez19]; exact fb_addIv (a := (-1)) (b := 23) (c := (-1)) (d := (-1)) ⟨i7a, i7b⟩ ⟨by decide, by decide⟩ (by decide) (by decide)
          refine r_iinc 32 2 z19 C dX7_rootOf_32 rfl ez19 [(4, .int z19), (2, .long z12), (5, .long z12), (0, .long y0)] (by decide) rfl ?_
          refine r_goto 35 6 C dX7_rootOf_35 (by decide) ?_
          refine r_lv [(4, .int z19), (2, .long z12), (0, .long y0)] [0, 1, 3] rfl ?_
          exact ih5 z19 z12 ⟨by omega, by omega⟩ (by omega)
  exact lp4 _ 23 0 (by decide) (Nat.lt_succ_self _)
set_option maxHeartbeats 4000000 in
set_option maxRecDepth 100000 in
theorem c304_X7_reckonOne (l : Launch) (g : GD) (h0 : Nat) (h1 : Nat) (h2 : Nat) (x0 : Int32) (x1 : Int32) (x2 : Int32) (fm0 : Nat → Int64) (fm1 : Nat → Int64) (i_x1 : (0 ≤ (Int32.toInt x1) ∧ (Int32.toInt x1) ≤ 48)) (i_x2 : (0 ≤ (Int32.toInt x2) ∧ (Int32.toInt x2) ≤ 48)) (sz : Nat) : Met l yX7_reckonOne wsX7_reckonOne ({ frames := 3, cells := 0, slots := 0, locals := 68 }) (va_Pc [.ref h0, .int x0] (PW g [(h0, .inr (6, [.ref h1, .ref h2, .int x1, .int x2])), (h1, .inl (gJ g, 48, .inr (.inl fm0))), (h2, .inl (gJ g, 32, .inr (.inl fm1)))] sz)) (va_Qi (fun (r : Int32) (u : (Int32) × (Nat → Int64)) => 0 ≤ (Int32.toInt r) ∧ (Int32.toInt r) ≤ 9 ∧ 0 ≤ (Int32.toInt (u.1)) ∧ (Int32.toInt (u.1)) ≤ 48) (BW g (va_A [(h0, .inr (6, [.ref h1, .ref h2, .int x1, .int x2])), (h1, .inl (gJ g, 48, .inr (.inl fm0))), (h2, .inl (gJ g, 32, .inr (.inl fm1)))] sz) (fun u : (Int32) × (Nat → Int64) => [(h0, .inr (6, [.ref h1, .ref h2, .int u.1, .int x2])), (h1, .inl (gJ g, 48, .inr (.inl u.2))), (h2, .inl (gJ g, 32, .inr (.inl fm1)))])) (va_A [(h0, .inr (6, [.ref h1, .ref h2, .int x1, .int x2])), (h1, .inl (gJ g, 48, .inr (.inl fm0))), (h2, .inl (gJ g, 32, .inr (.inl fm1)))] sz)) 0 0 (va_A [(h0, .inr (6, [.ref h1, .ref h2, .int x1, .int x2])), (h1, .inl (gJ g, 48, .inr (.inl fm0))), (h2, .inl (gJ g, 32, .inr (.inl fm1)))] sz) := by
  refine met_i RX7 (by decide) rfl rfl (Nat.le_of_ble_eq_true rfl) [(0, .ref h0), (1, .int x0)] rfl ?_
  intro p e s m args below meth c A Q C hnm Rt
  have gx0 := fb_rng x0
  refine r_aload_n 0 0 C dX7_reckonOne_0 rfl ?_
  refine r_iconst 1 0 C dX7_reckonOne_1 (by decide) ?_
  refine r_callVl 2 C dX7_reckonOne_2 [] [(h0, .inr (6, [.ref h1, .ref h2, .int x1, .int x2])), (h1, .inl (gJ g, 48, .inr (.inl fm0)))] [(h2, .inl (gJ g, 32, .inr (.inl fm1)))] (fun sz => c233_X7_below l g h0 h1 0 h2 x1 x2 fm0 i_x1 i_x2 sz) gX7_reckonOne_X7_below rfl ⟨rfl, rfl⟩ 1 (by decide) ⟨Nat.le_of_ble_eq_true rfl, Nat.le_of_ble_eq_true rfl⟩ 0 rfl rfl [0, 1] [2] rfl rfl (by decide) (by decide) (by decide) rfl rfl (Nat.le_of_ble_eq_true rfl) ⟨Nat.le_of_ble_eq_true rfl, Nat.le_of_ble_eq_true rfl⟩ (fun r1 _ w2 => ?_)
  refine r_ws [(h2, .inl (gJ g, 32, .inr (.inl fm1))), (h0, .inr (6, [.ref h1, .ref h2, .int x1, .int x2])), (h1, .inl (gJ g, 48, .inr (.inl fm0)))] rfl ?_
  have gr1 := fb_rngL r1
  refine r_lstore_n 5 C dX7_reckonOne_5 [(2, .long r1), (0, .ref h0), (1, .int x0)] (by decide) rfl ?_
  refine r_iload_n 6 2 C dX7_reckonOne_6 rfl ?_
  by_cases c3 : x0 = 5
  · skip
    have k4 : (Int32.toInt x0) = 5 := (fa_eq x0 5).mp c3
    refine r_tableIn 7 112 5 C dX7_reckonOne_7 c3 (by decide) (by decide) rfl (by decide) ?_
    refine r_aload_n 112 1 C dX7_reckonOne_112 rfl ?_
    refine r_iconst 113 1 C dX7_reckonOne_113 (by decide) ?_
    refine r_lload_n 114 0 C dX7_reckonOne_114 rfl ?_
    refine r_lconst 115 0 C dX7_reckonOne_115 (by decide) ?_
    obtain ⟨z5, ez5⟩ : ∃ z_9, lg_cmp r1 0 = z_9 := ⟨_, rfl⟩
    have l1z5 : (Int32.toInt z5) < 0 ↔ (Int64.toInt r1) < 0 := by rw [← ez5]; exact lgI1 r1 0
    have l2z5 : 0 < (Int32.toInt z5) ↔ 0 < (Int64.toInt r1) := by rw [← ez5]; exact lgI2 r1 0
    refine r_lcmp 116 z5 C dX7_reckonOne_116 ez5 ?_
    refine r_if_ne 117 124 C dX7_reckonOne_117 (by decide) (fun c6 => ?_) (fun c6 => ?_)
    · skip
      have k7 : ¬ ((Int32.toInt z5) = 0) := fun h_9 => c6 ((fa_eq z5 0).mpr h_9)
      refine r_iconst 124 0 C dX7_reckonOne_124 (by decide) ?_
      refine r_callSl 125 C dX7_reckonOne_125 [.int 1, .ref h0] [] [(h2, .inl (gJ g, 32, .inr (.inl fm1))), (h0, .inr (6, [.ref h1, .ref h2, .int x1, .int x2])), (h1, .inl (gJ g, 48, .inr (.inl fm0)))] (fun sz => c300_X7_truth l g 0 (by decide) sz) gX7_reckonOne_X7_truth rfl ⟨rfl, rfl⟩ 1 (by decide) ⟨Nat.le_of_ble_eq_true rfl, Nat.le_of_ble_eq_true rfl⟩ [] [0, 1, 2] rfl rfl (by decide) (by decide) (by decide) rfl rfl (Nat.le_of_ble_eq_true rfl) ⟨Nat.le_of_ble_eq_true rfl, Nat.le_of_ble_eq_true rfl⟩ (fun r8 _ w9 => ?_)
      refine r_ws [(h2, .inl (gJ g, 32, .inr (.inl fm1))), (h0, .inr (6, [.ref h1, .ref h2, .int x1, .int x2])), (h1, .inl (gJ g, 48, .inr (.inl fm0)))] rfl ?_
      have p10 : 0 ≤ (Int64.toInt r8) := w9.1
      have p11 : (Int64.toInt r8) ≤ 65536 := w9.2
      refine r_callVi 128 C dX7_reckonOne_128 [] [(h0, .inr (6, [.ref h1, .ref h2, .int x1, .int x2])), (h1, .inl (gJ g, 48, .inr (.inl fm0)))] [(h2, .inl (gJ g, 32, .inr (.inl fm1)))] (fun sz => c238_X7_replace l g h0 h1 1 r8 h2 x1 x2 fm0 i_x1 i_x2 sz) gX7_reckonOne_X7_replace rfl ⟨rfl, rfl⟩ 2 (by decide) ⟨Nat.le_of_ble_eq_true rfl, Nat.le_of_ble_eq_true rfl⟩ 1 rfl rfl [1, 2] [0] rfl rfl (by decide) (by decide) (by decide) rfl rfl (Nat.le_of_ble_eq_true rfl) ⟨Nat.le_of_ble_eq_true rfl, Nat.le_of_ble_eq_true rfl⟩ (fun r14 u16 w15 => ?_)
      obtain ⟨z12, f13⟩ := u16
      refine r_ws [(h2, .inl (gJ g, 32, .inr (.inl fm1))), (h0, .inr (6, [.ref h1, .ref h2, .int z12, .int x2])), (h1, .inl (gJ g, 48, .inr (.inl f13)))] rfl ?_
      have p17 : 0 ≤ (Int32.toInt r14) := w15.1
      have p18 : (Int32.toInt r14) ≤ 3 := w15.2.1
      have p19 : 0 ≤ (Int32.toInt z12) := w15.2.2.1
      have p20 : (Int32.toInt z12) ≤ 48 := w15.2.2.2
      exact r_iret 131 Rt dX7_reckonOne_131 (z12, f13) (show 0 ≤ (Int32.toInt r14) ∧ (Int32.toInt r14) ≤ 9 ∧ 0 ≤ (Int32.toInt z12) ∧ (Int32.toInt z12) ≤ 48 from ⟨(iv_wide (c := 0) (d := 9) ⟨p17, p18⟩ (by decide) (by decide)).1, (iv_wide (c := 0) (d := 9) ⟨p17, p18⟩ (by decide) (by decide)).2, (show _ ∧ _ from ⟨p19, p20⟩).1, (show _ ∧ _ from ⟨p19, p20⟩).2⟩) [1, 2, 0] (by decide) rfl (Nat.le_of_ble_eq_true rfl) (Nat.le_of_ble_eq_true rfl)
    · skip
      have k21 : (Int32.toInt z5) = 0 := (fa_eq z5 0).mp c6
      refine r_iconst 120 1 C dX7_reckonOne_120 (by decide) ?_
      refine r_goto 121 125 C dX7_reckonOne_121 (by decide) ?_
      refine r_callSl 125 C dX7_reckonOne_125 [.int 1, .ref h0] [] [(h2, .inl (gJ g, 32, .inr (.inl fm1))), (h0, .inr (6, [.ref h1, .ref h2, .int x1, .int x2])), (h1, .inl (gJ g, 48, .inr (.inl fm0)))] (fun sz => c300_X7_truth l g 1 (by decide) sz) gX7_reckonOne_X7_truth rfl ⟨rfl, rfl⟩ 1 (by decide) ⟨Nat.le_of_ble_eq_true rfl, Nat.le_of_ble_eq_true rfl⟩ [] [0, 1, 2] rfl rfl (by decide) (by decide) (by decide) rfl rfl (Nat.le_of_ble_eq_true rfl) ⟨Nat.le_of_ble_eq_true rfl, Nat.le_of_ble_eq_true rfl⟩ (fun r22 _ w23 => ?_)
      refine r_ws [(h2, .inl (gJ g, 32, .inr (.inl fm1))), (h0, .inr (6, [.ref h1, .ref h2, .int x1, .int x2])), (h1, .inl (gJ g, 48, .inr (.inl fm0)))] rfl ?_
      have p24 : 0 ≤ (Int64.toInt r22) := w23.1
      have p25 : (Int64.toInt r22) ≤ 65536 := w23.2
      refine r_callVi 128 C dX7_reckonOne_128 [] [(h0, .inr (6, [.ref h1, .ref h2, .int x1, .int x2])), (h1, .inl (gJ g, 48, .inr (.inl fm0)))] [(h2, .inl (gJ g, 32, .inr (.inl fm1)))] (fun sz => c238_X7_replace l g h0 h1 1 r22 h2 x1 x2 fm0 i_x1 i_x2 sz) gX7_reckonOne_X7_replace rfl ⟨rfl, rfl⟩ 2 (by decide) ⟨Nat.le_of_ble_eq_true rfl, Nat.le_of_ble_eq_true rfl⟩ 1 rfl rfl [1, 2] [0] rfl rfl (by decide) (by decide) (by decide) rfl rfl (Nat.le_of_ble_eq_true rfl) ⟨Nat.le_of_ble_eq_true rfl, Nat.le_of_ble_eq_true rfl⟩ (fun r28 u30 w29 => ?_)
      obtain ⟨z26, f27⟩ := u30
      refine r_ws [(h2, .inl (gJ g, 32, .inr (.inl fm1))), (h0, .inr (6, [.ref h1, .ref h2, .int z26, .int x2])), (h1, .inl (gJ g, 48, .inr (.inl f27)))] rfl ?_
      have p31 : 0 ≤ (Int32.toInt r28) := w29.1
      have p32 : (Int32.toInt r28) ≤ 3 := w29.2.1
      have p33 : 0 ≤ (Int32.toInt z26) := w29.2.2.1
      have p34 : (Int32.toInt z26) ≤ 48 := w29.2.2.2
      exact r_iret 131 Rt dX7_reckonOne_131 (z26, f27) (show 0 ≤ (Int32.toInt r28) ∧ (Int32.toInt r28) ≤ 9 ∧ 0 ≤ (Int32.toInt z26) ∧ (Int32.toInt z26) ≤ 48 from ⟨(iv_wide (c := 0) (d := 9) ⟨p31, p32⟩ (by decide) (by decide)).1, (iv_wide (c := 0) (d := 9) ⟨p31, p32⟩ (by decide) (by decide)).2, (show _ ∧ _ from ⟨p33, p34⟩).1, (show _ ∧ _ from ⟨p33, p34⟩).2⟩) [1, 2, 0] (by decide) rfl (Nat.le_of_ble_eq_true rfl) (Nat.le_of_ble_eq_true rfl)
  · skip
    have k35 : ¬ ((Int32.toInt x0) = 5) := fun h_9 => c3 ((fa_eq x0 5).mpr h_9)
    by_cases c36 : x0 = 6
    · skip
      have k37 : (Int32.toInt x0) = 6 := (fa_eq x0 6).mp c36
      refine r_tableIn 7 202 6 C dX7_reckonOne_7 c36 (by decide) (by decide) rfl (by decide) ?_
      refine r_aload_n 202 1 C dX7_reckonOne_202 rfl ?_
      refine r_aload_n 203 1 C dX7_reckonOne_203 rfl ?_
      refine r_iconst 204 0 C dX7_reckonOne_204 (by decide) ?_
      refine r_callVl 205 C dX7_reckonOne_205 [.ref h0] [(h0, .inr (6, [.ref h1, .ref h2, .int x1, .int x2])), (h1, .inl (gJ g, 48, .inr (.inl fm0)))] [(h2, .inl (gJ g, 32, .inr (.inl fm1)))] (fun sz => c234_X7_wholeBelow l g h0 h1 0 h2 x1 x2 fm0 i_x1 i_x2 sz) gX7_reckonOne_X7_wholeBelow rfl ⟨rfl, rfl⟩ 1 (by decide) ⟨Nat.le_of_ble_eq_true rfl, Nat.le_of_ble_eq_true rfl⟩ 1 rfl rfl [1, 2] [0] rfl rfl (by decide) (by decide) (by decide) rfl rfl (Nat.le_of_ble_eq_true rfl) ⟨Nat.le_of_ble_eq_true rfl, Nat.le_of_ble_eq_true rfl⟩ (fun r38 _ w39 => ?_)
      refine r_ws [(h2, .inl (gJ g, 32, .inr (.inl fm1))), (h0, .inr (6, [.ref h1, .ref h2, .int x1, .int x2])), (h1, .inl (gJ g, 48, .inr (.inl fm0)))] rfl ?_
      have gr38 := fb_rngL r38
      refine r_callVi 208 C dX7_reckonOne_208 [] [(h0, .inr (6, [.ref h1, .ref h2, .int x1, .int x2])), (h1, .inl (gJ g, 48, .inr (.inl fm0)))] [(h2, .inl (gJ g, 32, .inr (.inl fm1)))] (fun sz => c301_X7_pick l g h0 h1 r38 h2 x1 x2 fm0 i_x1 i_x2 sz) gX7_reckonOne_X7_pick rfl ⟨rfl, rfl⟩ 1 (by decide) ⟨Nat.le_of_ble_eq_true rfl, Nat.le_of_ble_eq_true rfl⟩ 1 rfl rfl [1, 2] [0] rfl rfl (by decide) (by decide) (by decide) rfl rfl (Nat.le_of_ble_eq_true rfl) ⟨Nat.le_of_ble_eq_true rfl, Nat.le_of_ble_eq_true rfl⟩ (fun r42 u44 w43 => ?_)
      obtain ⟨z40, f41⟩ := u44
      refine r_ws [(h2, .inl (gJ g, 32, .inr (.inl fm1))), (h0, .inr (6, [.ref h1, .ref h2, .int z40, .int x2])), (h1, .inl (gJ g, 48, .inr (.inl f41)))] rfl ?_
      have p45 : 0 ≤ (Int32.toInt r42) := w43.1
      have p46 : (Int32.toInt r42) ≤ 9 := w43.2.1
      have p47 : 0 ≤ (Int32.toInt z40) := w43.2.2.1
      have p48 : (Int32.toInt z40) ≤ 48 := w43.2.2.2
      exact r_iret 211 Rt dX7_reckonOne_211 (z40, f41) (show 0 ≤ (Int32.toInt r42) ∧ (Int32.toInt r42) ≤ 9 ∧ 0 ≤ (Int32.toInt z40) ∧ (Int32.toInt z40) ≤ 48 from ⟨(show _ ∧ _ from ⟨p45, p46⟩).1, (show _ ∧ _ from ⟨p45, p46⟩).2, (show _ ∧ _ from ⟨p47, p48⟩).1, (show _ ∧ _ from ⟨p47, p48⟩).2⟩) [1, 2, 0] (by decide) rfl (Nat.le_of_ble_eq_true rfl) (Nat.le_of_ble_eq_true rfl)
    · skip
      have k49 : ¬ ((Int32.toInt x0) = 6) := fun h_9 => c36 ((fa_eq x0 6).mpr h_9)
      by_cases c50 : x0 = 7
      · skip
        have k51 : (Int32.toInt x0) = 7 := (fa_eq x0 7).mp c50
        refine r_tableIn 7 202 7 C dX7_reckonOne_7 c50 (by decide) (by decide) rfl (by decide) ?_
        refine r_aload_n 202 1 C dX7_reckonOne_202 rfl ?_
        refine r_aload_n 203 1 C dX7_reckonOne_203 rfl ?_
        refine r_iconst 204 0 C dX7_reckonOne_204 (by decide) ?_
        refine r_callVl 205 C dX7_reckonOne_205 [.ref h0] [(h0, .inr (6, [.ref h1, .ref h2, .int x1, .int x2])), (h1, .inl (gJ g, 48, .inr (.inl fm0)))] [(h2, .inl (gJ g, 32, .inr (.inl fm1)))] (fun sz => c234_X7_wholeBelow l g h0 h1 0 h2 x1 x2 fm0 i_x1 i_x2 sz) gX7_reckonOne_X7_wholeBelow rfl ⟨rfl, rfl⟩ 1 (by decide) ⟨Nat.le_of_ble_eq_true rfl, Nat.le_of_ble_eq_true rfl⟩ 1 rfl rfl [1, 2] [0] rfl rfl (by decide) (by decide) (by decide) rfl rfl (Nat.le_of_ble_eq_true rfl) ⟨Nat.le_of_ble_eq_true rfl, Nat.le_of_ble_eq_true rfl⟩ (fun r52 _ w53 => ?_)
        refine r_ws [(h2, .inl (gJ g, 32, .inr (.inl fm1))), (h0, .inr (6, [.ref h1, .ref h2, .int x1, .int x2])), (h1, .inl (gJ g, 48, .inr (.inl fm0)))] rfl ?_
        have gr52 := fb_rngL r52
        refine r_callVi 208 C dX7_reckonOne_208 [] [(h0, .inr (6, [.ref h1, .ref h2, .int x1, .int x2])), (h1, .inl (gJ g, 48, .inr (.inl fm0)))] [(h2, .inl (gJ g, 32, .inr (.inl fm1)))] (fun sz => c301_X7_pick l g h0 h1 r52 h2 x1 x2 fm0 i_x1 i_x2 sz) gX7_reckonOne_X7_pick rfl ⟨rfl, rfl⟩ 1 (by decide) ⟨Nat.le_of_ble_eq_true rfl, Nat.le_of_ble_eq_true rfl⟩ 1 rfl rfl [1, 2] [0] rfl rfl (by decide) (by decide) (by decide) rfl rfl (Nat.le_of_ble_eq_true rfl) ⟨Nat.le_of_ble_eq_true rfl, Nat.le_of_ble_eq_true rfl⟩ (fun r56 u58 w57 => ?_)
        obtain ⟨z54, f55⟩ := u58
        refine r_ws [(h2, .inl (gJ g, 32, .inr (.inl fm1))), (h0, .inr (6, [.ref h1, .ref h2, .int z54, .int x2])), (h1, .inl (gJ g, 48, .inr (.inl f55)))] rfl ?_
        have p59 : 0 ≤ (Int32.toInt r56) := w57.1
        have p60 : (Int32.toInt r56) ≤ 9 := w57.2.1
        have p61 : 0 ≤ (Int32.toInt z54) := w57.2.2.1
        have p62 : (Int32.toInt z54) ≤ 48 := w57.2.2.2
        exact r_iret 211 Rt dX7_reckonOne_211 (z54, f55) (show 0 ≤ (Int32.toInt r56) ∧ (Int32.toInt r56) ≤ 9 ∧ 0 ≤ (Int32.toInt z54) ∧ (Int32.toInt z54) ≤ 48 from ⟨(show _ ∧ _ from ⟨p59, p60⟩).1, (show _ ∧ _ from ⟨p59, p60⟩).2, (show _ ∧ _ from ⟨p61, p62⟩).1, (show _ ∧ _ from ⟨p61, p62⟩).2⟩) [1, 2, 0] (by decide) rfl (Nat.le_of_ble_eq_true rfl) (Nat.le_of_ble_eq_true rfl)
      · skip
        have k63 : ¬ ((Int32.toInt x0) = 7) := fun h_9 => c50 ((fa_eq x0 7).mpr h_9)
        by_cases c64 : x0 = 8
        · skip
          have k65 : (Int32.toInt x0) = 8 := (fa_eq x0 8).mp c64
          refine r_tableIn 7 202 8 C dX7_reckonOne_7 c64 (by decide) (by decide) rfl (by decide) ?_
          refine r_aload_n 202 1 C dX7_reckonOne_202 rfl ?_
          refine r_aload_n 203 1 C dX7_reckonOne_203 rfl ?_
          refine r_iconst 204 0 C dX7_reckonOne_204 (by decide) ?_
          refine r_callVl 205 C dX7_reckonOne_205 [.ref h0] [(h0, .inr (6, [.ref h1, .ref h2, .int x1, .int x2])), (h1, .inl (gJ g, 48, .inr (.inl fm0)))] [(h2, .inl (gJ g, 32, .inr (.inl fm1)))] (fun sz => c234_X7_wholeBelow l g h0 h1 0 h2 x1 x2 fm0 i_x1 i_x2 sz) gX7_reckonOne_X7_wholeBelow rfl ⟨rfl, rfl⟩ 1 (by decide) ⟨Nat.le_of_ble_eq_true rfl, Nat.le_of_ble_eq_true rfl⟩ 1 rfl rfl [1, 2] [0] rfl rfl (by decide) (by decide) (by decide) rfl rfl (Nat.le_of_ble_eq_true rfl) ⟨Nat.le_of_ble_eq_true rfl, Nat.le_of_ble_eq_true rfl⟩ (fun r66 _ w67 => ?_)
          refine r_ws [(h2, .inl (gJ g, 32, .inr (.inl fm1))), (h0, .inr (6, [.ref h1, .ref h2, .int x1, .int x2])), (h1, .inl (gJ g, 48, .inr (.inl fm0)))] rfl ?_
          have gr66 := fb_rngL r66
          refine r_callVi 208 C dX7_reckonOne_208 [] [(h0, .inr (6, [.ref h1, .ref h2, .int x1, .int x2])), (h1, .inl (gJ g, 48, .inr (.inl fm0)))] [(h2, .inl (gJ g, 32, .inr (.inl fm1)))] (fun sz => c301_X7_pick l g h0 h1 r66 h2 x1 x2 fm0 i_x1 i_x2 sz) gX7_reckonOne_X7_pick rfl ⟨rfl, rfl⟩ 1 (by decide) ⟨Nat.le_of_ble_eq_true rfl, Nat.le_of_ble_eq_true rfl⟩ 1 rfl rfl [1, 2] [0] rfl rfl (by decide) (by decide) (by decide) rfl rfl (Nat.le_of_ble_eq_true rfl) ⟨Nat.le_of_ble_eq_true rfl, Nat.le_of_ble_eq_true rfl⟩ (fun r70 u72 w71 => ?_)
          obtain ⟨z68, f69⟩ := u72
          refine r_ws [(h2, .inl (gJ g, 32, .inr (.inl fm1))), (h0, .inr (6, [.ref h1, .ref h2, .int z68, .int x2])), (h1, .inl (gJ g, 48, .inr (.inl f69)))] rfl ?_
          have p73 : 0 ≤ (Int32.toInt r70) := w71.1
          have p74 : (Int32.toInt r70) ≤ 9 := w71.2.1
          have p75 : 0 ≤ (Int32.toInt z68) := w71.2.2.1
          have p76 : (Int32.toInt z68) ≤ 48 := w71.2.2.2
          exact r_iret 211 Rt dX7_reckonOne_211 (z68, f69) (show 0 ≤ (Int32.toInt r70) ∧ (Int32.toInt r70) ≤ 9 ∧ 0 ≤ (Int32.toInt z68) ∧ (Int32.toInt z68) ≤ 48 from ⟨(show _ ∧ _ from ⟨p73, p74⟩).1, (show _ ∧ _ from ⟨p73, p74⟩).2, (show _ ∧ _ from ⟨p75, p76⟩).1, (show _ ∧ _ from ⟨p75, p76⟩).2⟩) [1, 2, 0] (by decide) rfl (Nat.le_of_ble_eq_true rfl) (Nat.le_of_ble_eq_true rfl)
        · skip
          have k77 : ¬ ((Int32.toInt x0) = 8) := fun h_9 => c64 ((fa_eq x0 8).mpr h_9)
          by_cases c78 : x0 = 9
          · skip
            have k79 : (Int32.toInt x0) = 9 := (fa_eq x0 9).mp c78
            refine r_tableIn 7 132 9 C dX7_reckonOne_7 c78 (by decide) (by decide) rfl (by decide) ?_
            refine r_aload_n 132 1 C dX7_reckonOne_132 rfl ?_
            refine r_iconst 133 1 C dX7_reckonOne_133 (by decide) ?_
            refine r_lload_n 134 0 C dX7_reckonOne_134 rfl ?_
            obtain ⟨z80, ez80⟩ : ∃ z_9 : Int64, (if 0 < r1 then r1 else -r1) = z_9 := ⟨_, rfl⟩
            have gz80 := fb_rngL z80
            refine r_labs 135 z80 C dX7_reckonOne_135 (mg 1 rfl) (mg 2 rfl) (mg 3 rfl) (mg 4 rfl) (Nat.le_of_ble_eq_true rfl) (Nat.le_of_ble_eq_true rfl) (Nat.le_of_ble_eq_true rfl) (Nat.le_of_ble_eq_true rfl) ez80 ?_
            obtain ⟨z81, ez81⟩ : ∃ z_9, Int64.toInt32 z80 = z_9 := ⟨_, rfl⟩
            have gz81 := fb_rng z81
            refine r_l2i 138 z81 C dX7_reckonOne_138 ez81 ?_
            obtain ⟨z82, ez82⟩ : ∃ z_9, Int32.toInt64 z81 = z_9 := ⟨_, rfl⟩
            have tz82 : (Int64.toInt z82) = (Int32.toInt z81) := by rw [← ez82]; exact Int32.toInt_toInt64 _
            refine r_i2l 139 z82 C dX7_reckonOne_139 ez82 ?_
            refine r_callVi 140 C dX7_reckonOne_140 [] [(h0, .inr (6, [.ref h1, .ref h2, .int x1, .int x2])), (h1, .inl (gJ g, 48, .inr (.inl fm0)))] [(h2, .inl (gJ g, 32, .inr (.inl fm1)))] (fun sz => c238_X7_replace l g h0 h1 1 z82 h2 x1 x2 fm0 i_x1 i_x2 sz) gX7_reckonOne_X7_replace rfl ⟨rfl, rfl⟩ 2 (by decide) ⟨Nat.le_of_ble_eq_true rfl, Nat.le_of_ble_eq_true rfl⟩ 1 rfl rfl [1, 2] [0] rfl rfl (by decide) (by decide) (by decide) rfl rfl (Nat.le_of_ble_eq_true rfl) ⟨Nat.le_of_ble_eq_true rfl, Nat.le_of_ble_eq_true rfl⟩ (fun r85 u87 w86 => ?_)
            obtain ⟨z83, f84⟩ := u87
            refine r_ws [(h2, .inl (gJ g, 32, .inr (.inl fm1))), (h0, .inr (6, [.ref h1, .ref h2, .int z83, .int x2])), (h1, .inl (gJ g, 48, .inr (.inl f84)))] rfl ?_
            have p88 : 0 ≤ (Int32.toInt r85) := w86.1
            have p89 : (Int32.toInt r85) ≤ 3 := w86.2.1
            have p90 : 0 ≤ (Int32.toInt z83) := w86.2.2.1
            have p91 : (Int32.toInt z83) ≤ 48 := w86.2.2.2
            exact r_iret 143 Rt dX7_reckonOne_143 (z83, f84) (show 0 ≤ (Int32.toInt r85) ∧ (Int32.toInt r85) ≤ 9 ∧ 0 ≤ (Int32.toInt z83) ∧ (Int32.toInt z83) ≤ 48 from ⟨(iv_wide (c := 0) (d := 9) ⟨p88, p89⟩ (by decide) (by decide)).1, (iv_wide (c := 0) (d := 9) ⟨p88, p89⟩ (by decide) (by decide)).2, (show _ ∧ _ from ⟨p90, p91⟩).1, (show _ ∧ _ from ⟨p90, p91⟩).2⟩) [1, 2, 0] (by decide) rfl (Nat.le_of_ble_eq_true rfl) (Nat.le_of_ble_eq_true rfl)
          · skip
            have k92 : ¬ ((Int32.toInt x0) = 9) := fun h_9 => c78 ((fa_eq x0 9).mpr h_9)
            by_cases c93 : x0 = 10
            · skip
              have k94 : (Int32.toInt x0) = 10 := (fa_eq x0 10).mp c93
              refine r_tableIn 7 202 10 C dX7_reckonOne_7 c93 (by decide) (by decide) rfl (by decide) ?_
              refine r_aload_n 202 1 C dX7_reckonOne_202 rfl ?_
              refine r_aload_n 203 1 C dX7_reckonOne_203 rfl ?_
              refine r_iconst 204 0 C dX7_reckonOne_204 (by decide) ?_
              refine r_callVl 205 C dX7_reckonOne_205 [.ref h0] [(h0, .inr (6, [.ref h1, .ref h2, .int x1, .int x2])), (h1, .inl (gJ g, 48, .inr (.inl fm0)))] [(h2, .inl (gJ g, 32, .inr (.inl fm1)))] (fun sz => c234_X7_wholeBelow l g h0 h1 0 h2 x1 x2 fm0 i_x1 i_x2 sz) gX7_reckonOne_X7_wholeBelow rfl ⟨rfl, rfl⟩ 1 (by decide) ⟨Nat.le_of_ble_eq_true rfl, Nat.le_of_ble_eq_true rfl⟩ 1 rfl rfl [1, 2] [0] rfl rfl (by decide) (by decide) (by decide) rfl rfl (Nat.le_of_ble_eq_true rfl) ⟨Nat.le_of_ble_eq_true rfl, Nat.le_of_ble_eq_true rfl⟩ (fun r95 _ w96 => ?_)
              refine r_ws [(h2, .inl (gJ g, 32, .inr (.inl fm1))), (h0, .inr (6, [.ref h1, .ref h2, .int x1, .int x2])), (h1, .inl (gJ g, 48, .inr (.inl fm0)))] rfl ?_
              have gr95 := fb_rngL r95
              refine r_callVi 208 C dX7_reckonOne_208 [] [(h0, .inr (6, [.ref h1, .ref h2, .int x1, .int x2])), (h1, .inl (gJ g, 48, .inr (.inl fm0)))] [(h2, .inl (gJ g, 32, .inr (.inl fm1)))] (fun sz => c301_X7_pick l g h0 h1 r95 h2 x1 x2 fm0 i_x1 i_x2 sz) gX7_reckonOne_X7_pick rfl ⟨rfl, rfl⟩ 1 (by decide) ⟨Nat.le_of_ble_eq_true rfl, Nat.le_of_ble_eq_true rfl⟩ 1 rfl rfl [1, 2] [0] rfl rfl (by decide) (by decide) (by decide) rfl rfl (Nat.le_of_ble_eq_true rfl) ⟨Nat.le_of_ble_eq_true rfl, Nat.le_of_ble_eq_true rfl⟩ (fun r99 u101 w100 => ?_)
              obtain ⟨z97, f98⟩ := u101
              refine r_ws [(h2, .inl (gJ g, 32, .inr (.inl fm1))), (h0, .inr (6, [.ref h1, .ref h2, .int z97, .int x2])), (h1, .inl (gJ g, 48, .inr (.inl f98)))] rfl ?_
              have p102 : 0 ≤ (Int32.toInt r99) := w100.1
              have p103 : (Int32.toInt r99) ≤ 9 := w100.2.1
              have p104 : 0 ≤ (Int32.toInt z97) := w100.2.2.1
              have p105 : (Int32.toInt z97) ≤ 48 := w100.2.2.2
              exact r_iret 211 Rt dX7_reckonOne_211 (z97, f98) (show 0 ≤ (Int32.toInt r99) ∧ (Int32.toInt r99) ≤ 9 ∧ 0 ≤ (Int32.toInt z97) ∧ (Int32.toInt z97) ≤ 48 from ⟨(show _ ∧ _ from ⟨p102, p103⟩).1, (show _ ∧ _ from ⟨p102, p103⟩).2, (show _ ∧ _ from ⟨p104, p105⟩).1, (show _ ∧ _ from ⟨p104, p105⟩).2⟩) [1, 2, 0] (by decide) rfl (Nat.le_of_ble_eq_true rfl) (Nat.le_of_ble_eq_true rfl)
            · skip
              have k106 : ¬ ((Int32.toInt x0) = 10) := fun h_9 => c93 ((fa_eq x0 10).mpr h_9)
              by_cases c107 : x0 = 11
              · skip
                have k108 : (Int32.toInt x0) = 11 := (fa_eq x0 11).mp c107
                refine r_tableIn 7 202 11 C dX7_reckonOne_7 c107 (by decide) (by decide) rfl (by decide) ?_
                refine r_aload_n 202 1 C dX7_reckonOne_202 rfl ?_
                refine r_aload_n 203 1 C dX7_reckonOne_203 rfl ?_
                refine r_iconst 204 0 C dX7_reckonOne_204 (by decide) ?_
                refine r_callVl 205 C dX7_reckonOne_205 [.ref h0] [(h0, .inr (6, [.ref h1, .ref h2, .int x1, .int x2])), (h1, .inl (gJ g, 48, .inr (.inl fm0)))] [(h2, .inl (gJ g, 32, .inr (.inl fm1)))] (fun sz => c234_X7_wholeBelow l g h0 h1 0 h2 x1 x2 fm0 i_x1 i_x2 sz) gX7_reckonOne_X7_wholeBelow rfl ⟨rfl, rfl⟩ 1 (by decide) ⟨Nat.le_of_ble_eq_true rfl, Nat.le_of_ble_eq_true rfl⟩ 1 rfl rfl [1, 2] [0] rfl rfl (by decide) (by decide) (by decide) rfl rfl (Nat.le_of_ble_eq_true rfl) ⟨Nat.le_of_ble_eq_true rfl, Nat.le_of_ble_eq_true rfl⟩ (fun r109 _ w110 => ?_)
                refine r_ws [(h2, .inl (gJ g, 32, .inr (.inl fm1))), (h0, .inr (6, [.ref h1, .ref h2, .int x1, .int x2])), (h1, .inl (gJ g, 48, .inr (.inl fm0)))] rfl ?_
                have gr109 := fb_rngL r109
                refine r_callVi 208 C dX7_reckonOne_208 [] [(h0, .inr (6, [.ref h1, .ref h2, .int x1, .int x2])), (h1, .inl (gJ g, 48, .inr (.inl fm0)))] [(h2, .inl (gJ g, 32, .inr (.inl fm1)))] (fun sz => c301_X7_pick l g h0 h1 r109 h2 x1 x2 fm0 i_x1 i_x2 sz) gX7_reckonOne_X7_pick rfl ⟨rfl, rfl⟩ 1 (by decide) ⟨Nat.le_of_ble_eq_true rfl, Nat.le_of_ble_eq_true rfl⟩ 1 rfl rfl [1, 2] [0] rfl rfl (by decide) (by decide) (by decide) rfl rfl (Nat.le_of_ble_eq_true rfl) ⟨Nat.le_of_ble_eq_true rfl, Nat.le_of_ble_eq_true rfl⟩ (fun r113 u115 w114 => ?_)
                obtain ⟨z111, f112⟩ := u115
                refine r_ws [(h2, .inl (gJ g, 32, .inr (.inl fm1))), (h0, .inr (6, [.ref h1, .ref h2, .int z111, .int x2])), (h1, .inl (gJ g, 48, .inr (.inl f112)))] rfl ?_
                have p116 : 0 ≤ (Int32.toInt r113) := w114.1
                have p117 : (Int32.toInt r113) ≤ 9 := w114.2.1
                have p118 : 0 ≤ (Int32.toInt z111) := w114.2.2.1
                have p119 : (Int32.toInt z111) ≤ 48 := w114.2.2.2
                exact r_iret 211 Rt dX7_reckonOne_211 (z111, f112) (show 0 ≤ (Int32.toInt r113) ∧ (Int32.toInt r113) ≤ 9 ∧ 0 ≤ (Int32.toInt z111) ∧ (Int32.toInt z111) ≤ 48 from ⟨(show _ ∧ _ from ⟨p116, p117⟩).1, (show _ ∧ _ from ⟨p116, p117⟩).2, (show _ ∧ _ from ⟨p118, p119⟩).1, (show _ ∧ _ from ⟨p118, p119⟩).2⟩) [1, 2, 0] (by decide) rfl (Nat.le_of_ble_eq_true rfl) (Nat.le_of_ble_eq_true rfl)
              · skip
                have k120 : ¬ ((Int32.toInt x0) = 11) := fun h_9 => c107 ((fa_eq x0 11).mpr h_9)
                by_cases c121 : x0 = 12
                · skip
                  have k122 : (Int32.toInt x0) = 12 := (fa_eq x0 12).mp c121
                  refine r_tableIn 7 202 12 C dX7_reckonOne_7 c121 (by decide) (by decide) rfl (by decide) ?_
                  refine r_aload_n 202 1 C dX7_reckonOne_202 rfl ?_
                  refine r_aload_n 203 1 C dX7_reckonOne_203 rfl ?_
                  refine r_iconst 204 0 C dX7_reckonOne_204 (by decide) ?_
                  refine r_callVl 205 C dX7_reckonOne_205 [.ref h0] [(h0, .inr (6, [.ref h1, .ref h2, .int x1, .int x2])), (h1, .inl (gJ g, 48, .inr (.inl fm0)))] [(h2, .inl (gJ g, 32, .inr (.inl fm1)))] (fun sz => c234_X7_wholeBelow l g h0 h1 0 h2 x1 x2 fm0 i_x1 i_x2 sz) gX7_reckonOne_X7_wholeBelow rfl ⟨rfl, rfl⟩ 1 (by decide) ⟨Nat.le_of_ble_eq_true rfl, Nat.le_of_ble_eq_true rfl⟩ 1 rfl rfl [1, 2] [0] rfl rfl (by decide) (by decide) (by decide) rfl rfl (Nat.le_of_ble_eq_true rfl) ⟨Nat.le_of_ble_eq_true rfl, Nat.le_of_ble_eq_true rfl⟩ (fun r123 _ w124 => ?_)
                  refine r_ws [(h2, .inl (gJ g, 32, .inr (.inl fm1))), (h0, .inr (6, [.ref h1, .ref h2, .int x1, .int x2])), (h1, .inl (gJ g, 48, .inr (.inl fm0)))] rfl ?_
                  have gr123 := fb_rngL r123
                  refine r_callVi 208 C dX7_reckonOne_208 [] [(h0, .inr (6, [.ref h1, .ref h2, .int x1, .int x2])), (h1, .inl (gJ g, 48, .inr (.inl fm0)))] [(h2, .inl (gJ g, 32, .inr (.inl fm1)))] (fun sz => c301_X7_pick l g h0 h1 r123 h2 x1 x2 fm0 i_x1 i_x2 sz) gX7_reckonOne_X7_pick rfl ⟨rfl, rfl⟩ 1 (by decide) ⟨Nat.le_of_ble_eq_true rfl, Nat.le_of_ble_eq_true rfl⟩ 1 rfl rfl [1, 2] [0] rfl rfl (by decide) (by decide) (by decide) rfl rfl (Nat.le_of_ble_eq_true rfl) ⟨Nat.le_of_ble_eq_true rfl, Nat.le_of_ble_eq_true rfl⟩ (fun r127 u129 w128 => ?_)
                  obtain ⟨z125, f126⟩ := u129
                  refine r_ws [(h2, .inl (gJ g, 32, .inr (.inl fm1))), (h0, .inr (6, [.ref h1, .ref h2, .int z125, .int x2])), (h1, .inl (gJ g, 48, .inr (.inl f126)))] rfl ?_
                  have p130 : 0 ≤ (Int32.toInt r127) := w128.1
                  have p131 : (Int32.toInt r127) ≤ 9 := w128.2.1
                  have p132 : 0 ≤ (Int32.toInt z125) := w128.2.2.1
                  have p133 : (Int32.toInt z125) ≤ 48 := w128.2.2.2
                  exact r_iret 211 Rt dX7_reckonOne_211 (z125, f126) (show 0 ≤ (Int32.toInt r127) ∧ (Int32.toInt r127) ≤ 9 ∧ 0 ≤ (Int32.toInt z125) ∧ (Int32.toInt z125) ≤ 48 from ⟨(show _ ∧ _ from ⟨p130, p131⟩).1, (show _ ∧ _ from ⟨p130, p131⟩).2, (show _ ∧ _ from ⟨p132, p133⟩).1, (show _ ∧ _ from ⟨p132, p133⟩).2⟩) [1, 2, 0] (by decide) rfl (Nat.le_of_ble_eq_true rfl) (Nat.le_of_ble_eq_true rfl)
                · skip
                  have k134 : ¬ ((Int32.toInt x0) = 12) := fun h_9 => c121 ((fa_eq x0 12).mpr h_9)
                  by_cases c135 : x0 = 13
                  · skip
                    have k136 : (Int32.toInt x0) = 13 := (fa_eq x0 13).mp c135
                    refine r_tableIn 7 202 13 C dX7_reckonOne_7 c135 (by decide) (by decide) rfl (by decide) ?_
                    refine r_aload_n 202 1 C dX7_reckonOne_202 rfl ?_
                    refine r_aload_n 203 1 C dX7_reckonOne_203 rfl ?_
                    refine r_iconst 204 0 C dX7_reckonOne_204 (by decide) ?_
                    refine r_callVl 205 C dX7_reckonOne_205 [.ref h0] [(h0, .inr (6, [.ref h1, .ref h2, .int x1, .int x2])), (h1, .inl (gJ g, 48, .inr (.inl fm0)))] [(h2, .inl (gJ g, 32, .inr (.inl fm1)))] (fun sz => c234_X7_wholeBelow l g h0 h1 0 h2 x1 x2 fm0 i_x1 i_x2 sz) gX7_reckonOne_X7_wholeBelow rfl ⟨rfl, rfl⟩ 1 (by decide) ⟨Nat.le_of_ble_eq_true rfl, Nat.le_of_ble_eq_true rfl⟩ 1 rfl rfl [1, 2] [0] rfl rfl (by decide) (by decide) (by decide) rfl rfl (Nat.le_of_ble_eq_true rfl) ⟨Nat.le_of_ble_eq_true rfl, Nat.le_of_ble_eq_true rfl⟩ (fun r137 _ w138 => ?_)
                    refine r_ws [(h2, .inl (gJ g, 32, .inr (.inl fm1))), (h0, .inr (6, [.ref h1, .ref h2, .int x1, .int x2])), (h1, .inl (gJ g, 48, .inr (.inl fm0)))] rfl ?_
                    have gr137 := fb_rngL r137
                    refine r_callVi 208 C dX7_reckonOne_208 [] [(h0, .inr (6, [.ref h1, .ref h2, .int x1, .int x2])), (h1, .inl (gJ g, 48, .inr (.inl fm0)))] [(h2, .inl (gJ g, 32, .inr (.inl fm1)))] (fun sz => c301_X7_pick l g h0 h1 r137 h2 x1 x2 fm0 i_x1 i_x2 sz) gX7_reckonOne_X7_pick rfl ⟨rfl, rfl⟩ 1 (by decide) ⟨Nat.le_of_ble_eq_true rfl, Nat.le_of_ble_eq_true rfl⟩ 1 rfl rfl [1, 2] [0] rfl rfl (by decide) (by decide) (by decide) rfl rfl (Nat.le_of_ble_eq_true rfl) ⟨Nat.le_of_ble_eq_true rfl, Nat.le_of_ble_eq_true rfl⟩ (fun r141 u143 w142 => ?_)
                    obtain ⟨z139, f140⟩ := u143
                    refine r_ws [(h2, .inl (gJ g, 32, .inr (.inl fm1))), (h0, .inr (6, [.ref h1, .ref h2, .int z139, .int x2])), (h1, .inl (gJ g, 48, .inr (.inl f140)))] rfl ?_
                    have p144 : 0 ≤ (Int32.toInt r141) := w142.1
                    have p145 : (Int32.toInt r141) ≤ 9 := w142.2.1
                    have p146 : 0 ≤ (Int32.toInt z139) := w142.2.2.1
                    have p147 : (Int32.toInt z139) ≤ 48 := w142.2.2.2
                    exact r_iret 211 Rt dX7_reckonOne_211 (z139, f140) (show 0 ≤ (Int32.toInt r141) ∧ (Int32.toInt r141) ≤ 9 ∧ 0 ≤ (Int32.toInt z139) ∧ (Int32.toInt z139) ≤ 48 from ⟨(show _ ∧ _ from ⟨p144, p145⟩).1, (show _ ∧ _ from ⟨p144, p145⟩).2, (show _ ∧ _ from ⟨p146, p147⟩).1, (show _ ∧ _ from ⟨p146, p147⟩).2⟩) [1, 2, 0] (by decide) rfl (Nat.le_of_ble_eq_true rfl) (Nat.le_of_ble_eq_true rfl)
                  · skip
                    have k148 : ¬ ((Int32.toInt x0) = 13) := fun h_9 => c135 ((fa_eq x0 13).mpr h_9)
                    by_cases c149 : x0 = 14
                    · skip
                      have k150 : (Int32.toInt x0) = 14 := (fa_eq x0 14).mp c149
                      refine r_tableIn 7 144 14 C dX7_reckonOne_7 c149 (by decide) (by decide) rfl (by decide) ?_
                      refine r_aload_n 144 1 C dX7_reckonOne_144 rfl ?_
                      refine r_iconst 145 1 C dX7_reckonOne_145 (by decide) ?_
                      refine r_lload_n 146 0 C dX7_reckonOne_146 rfl ?_
                      obtain ⟨z151, ez151⟩ : ∃ z_9, -r1 = z_9 := ⟨_, rfl⟩
                      have gz151 := fb_rngL z151
                      refine r_lneg 147 z151 C dX7_reckonOne_147 ez151 ?_
                      obtain ⟨z152, ez152⟩ : ∃ z_9, Int64.toInt32 z151 = z_9 := ⟨_, rfl⟩
                      have gz152 := fb_rng z152
                      refine r_l2i 148 z152 C dX7_reckonOne_148 ez152 ?_
                      obtain ⟨z153, ez153⟩ : ∃ z_9, Int32.toInt64 z152 = z_9 := ⟨_, rfl⟩
                      have tz153 : (Int64.toInt z153) = (Int32.toInt z152) := by rw [← ez153]; exact Int32.toInt_toInt64 _
                      refine r_i2l 149 z153 C dX7_reckonOne_149 ez153 ?_
                      refine r_callVi 150 C dX7_reckonOne_150 [] [(h0, .inr (6, [.ref h1, .ref h2, .int x1, .int x2])), (h1, .inl (gJ g, 48, .inr (.inl fm0)))] [(h2, .inl (gJ g, 32, .inr (.inl fm1)))] (fun sz => c238_X7_replace l g h0 h1 1 z153 h2 x1 x2 fm0 i_x1 i_x2 sz) gX7_reckonOne_X7_replace rfl ⟨rfl, rfl⟩ 2 (by decide) ⟨Nat.le_of_ble_eq_true rfl, Nat.le_of_ble_eq_true rfl⟩ 1 rfl rfl [1, 2] [0] rfl rfl (by decide) (by decide) (by decide) rfl rfl (Nat.le_of_ble_eq_true rfl) ⟨Nat.le_of_ble_eq_true rfl, Nat.le_of_ble_eq_true rfl⟩ (fun r156 u158 w157 => ?_)
                      obtain ⟨z154, f155⟩ := u158
                      refine r_ws [(h2, .inl (gJ g, 32, .inr (.inl fm1))), (h0, .inr (6, [.ref h1, .ref h2, .int z154, .int x2])), (h1, .inl (gJ g, 48, .inr (.inl f155)))] rfl ?_
                      have p159 : 0 ≤ (Int32.toInt r156) := w157.1
                      have p160 : (Int32.toInt r156) ≤ 3 := w157.2.1
                      have p161 : 0 ≤ (Int32.toInt z154) := w157.2.2.1
                      have p162 : (Int32.toInt z154) ≤ 48 := w157.2.2.2
                      exact r_iret 153 Rt dX7_reckonOne_153 (z154, f155) (show 0 ≤ (Int32.toInt r156) ∧ (Int32.toInt r156) ≤ 9 ∧ 0 ≤ (Int32.toInt z154) ∧ (Int32.toInt z154) ≤ 48 from ⟨(iv_wide (c := 0) (d := 9) ⟨p159, p160⟩ (by decide) (by decide)).1, (iv_wide (c := 0) (d := 9) ⟨p159, p160⟩ (by decide) (by decide)).2, (show _ ∧ _ from ⟨p161, p162⟩).1, (show _ ∧ _ from ⟨p161, p162⟩).2⟩) [1, 2, 0] (by decide) rfl (Nat.le_of_ble_eq_true rfl) (Nat.le_of_ble_eq_true rfl)
                    · skip
                      have k163 : ¬ ((Int32.toInt x0) = 14) := fun h_9 => c149 ((fa_eq x0 14).mpr h_9)
                      by_cases c164 : x0 = 15
                      · skip
                        have k165 : (Int32.toInt x0) = 15 := (fa_eq x0 15).mp c164
                        refine r_tableIn 7 202 15 C dX7_reckonOne_7 c164 (by decide) (by decide) rfl (by decide) ?_
                        refine r_aload_n 202 1 C dX7_reckonOne_202 rfl ?_
                        refine r_aload_n 203 1 C dX7_reckonOne_203 rfl ?_
                        refine r_iconst 204 0 C dX7_reckonOne_204 (by decide) ?_
                        refine r_callVl 205 C dX7_reckonOne_205 [.ref h0] [(h0, .inr (6, [.ref h1, .ref h2, .int x1, .int x2])), (h1, .inl (gJ g, 48, .inr (.inl fm0)))] [(h2, .inl (gJ g, 32, .inr (.inl fm1)))] (fun sz => c234_X7_wholeBelow l g h0 h1 0 h2 x1 x2 fm0 i_x1 i_x2 sz) gX7_reckonOne_X7_wholeBelow rfl ⟨rfl, rfl⟩ 1 (by decide) ⟨Nat.le_of_ble_eq_true rfl, Nat.le_of_ble_eq_true rfl⟩ 1 rfl rfl [1, 2] [0] rfl rfl (by decide) (by decide) (by decide) rfl rfl (Nat.le_of_ble_eq_true rfl) ⟨Nat.le_of_ble_eq_true rfl, Nat.le_of_ble_eq_true rfl⟩ (fun r166 _ w167 => ?_)
                        refine r_ws [(h2, .inl (gJ g, 32, .inr (.inl fm1))), (h0, .inr (6, [.ref h1, .ref h2, .int x1, .int x2])), (h1, .inl (gJ g, 48, .inr (.inl fm0)))] rfl ?_
                        have gr166 := fb_rngL r166
                        refine r_callVi 208 C dX7_reckonOne_208 [] [(h0, .inr (6, [.ref h1, .ref h2, .int x1, .int x2])), (h1, .inl (gJ g, 48, .inr (.inl fm0)))] [(h2, .inl (gJ g, 32, .inr (.inl fm1)))] (fun sz => c301_X7_pick l g h0 h1 r166 h2 x1 x2 fm0 i_x1 i_x2 sz) gX7_reckonOne_X7_pick rfl ⟨rfl, rfl⟩ 1 (by decide) ⟨Nat.le_of_ble_eq_true rfl, Nat.le_of_ble_eq_true rfl⟩ 1 rfl rfl [1, 2] [0] rfl rfl (by decide) (by decide) (by decide) rfl rfl (Nat.le_of_ble_eq_true rfl) ⟨Nat.le_of_ble_eq_true rfl, Nat.le_of_ble_eq_true rfl⟩ (fun r170 u172 w171 => ?_)
                        obtain ⟨z168, f169⟩ := u172
                        refine r_ws [(h2, .inl (gJ g, 32, .inr (.inl fm1))), (h0, .inr (6, [.ref h1, .ref h2, .int z168, .int x2])), (h1, .inl (gJ g, 48, .inr (.inl f169)))] rfl ?_
                        have p173 : 0 ≤ (Int32.toInt r170) := w171.1
                        have p174 : (Int32.toInt r170) ≤ 9 := w171.2.1
                        have p175 : 0 ≤ (Int32.toInt z168) := w171.2.2.1
                        have p176 : (Int32.toInt z168) ≤ 48 := w171.2.2.2
                        exact r_iret 211 Rt dX7_reckonOne_211 (z168, f169) (show 0 ≤ (Int32.toInt r170) ∧ (Int32.toInt r170) ≤ 9 ∧ 0 ≤ (Int32.toInt z168) ∧ (Int32.toInt z168) ≤ 48 from ⟨(show _ ∧ _ from ⟨p173, p174⟩).1, (show _ ∧ _ from ⟨p173, p174⟩).2, (show _ ∧ _ from ⟨p175, p176⟩).1, (show _ ∧ _ from ⟨p175, p176⟩).2⟩) [1, 2, 0] (by decide) rfl (Nat.le_of_ble_eq_true rfl) (Nat.le_of_ble_eq_true rfl)
                      · skip
                        have k177 : ¬ ((Int32.toInt x0) = 15) := fun h_9 => c164 ((fa_eq x0 15).mpr h_9)
                        by_cases c178 : x0 = 16
                        · skip
                          have k179 : (Int32.toInt x0) = 16 := (fa_eq x0 16).mp c178
                          refine r_tableIn 7 202 16 C dX7_reckonOne_7 c178 (by decide) (by decide) rfl (by decide) ?_
                          refine r_aload_n 202 1 C dX7_reckonOne_202 rfl ?_
                          refine r_aload_n 203 1 C dX7_reckonOne_203 rfl ?_
                          refine r_iconst 204 0 C dX7_reckonOne_204 (by decide) ?_
                          refine r_callVl 205 C dX7_reckonOne_205 [.ref h0] [(h0, .inr (6, [.ref h1, .ref h2, .int x1, .int x2])), (h1, .inl (gJ g, 48, .inr (.inl fm0)))] [(h2, .inl (gJ g, 32, .inr (.inl fm1)))] (fun sz => c234_X7_wholeBelow l g h0 h1 0 h2 x1 x2 fm0 i_x1 i_x2 sz) gX7_reckonOne_X7_wholeBelow rfl ⟨rfl, rfl⟩ 1 (by decide) ⟨Nat.le_of_ble_eq_true rfl, Nat.le_of_ble_eq_true rfl⟩ 1 rfl rfl [1, 2] [0] rfl rfl (by decide) (by decide) (by decide) rfl rfl (Nat.le_of_ble_eq_true rfl) ⟨Nat.le_of_ble_eq_true rfl, Nat.le_of_ble_eq_true rfl⟩ (fun r180 _ w181 => ?_)
                          refine r_ws [(h2, .inl (gJ g, 32, .inr (.inl fm1))), (h0, .inr (6, [.ref h1, .ref h2, .int x1, .int x2])), (h1, .inl (gJ g, 48, .inr (.inl fm0)))] rfl ?_
                          have gr180 := fb_rngL r180
                          refine r_callVi 208 C dX7_reckonOne_208 [] [(h0, .inr (6, [.ref h1, .ref h2, .int x1, .int x2])), (h1, .inl (gJ g, 48, .inr (.inl fm0)))] [(h2, .inl (gJ g, 32, .inr (.inl fm1)))] (fun sz => c301_X7_pick l g h0 h1 r180 h2 x1 x2 fm0 i_x1 i_x2 sz) gX7_reckonOne_X7_pick rfl ⟨rfl, rfl⟩ 1 (by decide) ⟨Nat.le_of_ble_eq_true rfl, Nat.le_of_ble_eq_true rfl⟩ 1 rfl rfl [1, 2] [0] rfl rfl (by decide) (by decide) (by decide) rfl rfl (Nat.le_of_ble_eq_true rfl) ⟨Nat.le_of_ble_eq_true rfl, Nat.le_of_ble_eq_true rfl⟩ (fun r184 u186 w185 => ?_)
                          obtain ⟨z182, f183⟩ := u186
                          refine r_ws [(h2, .inl (gJ g, 32, .inr (.inl fm1))), (h0, .inr (6, [.ref h1, .ref h2, .int z182, .int x2])), (h1, .inl (gJ g, 48, .inr (.inl f183)))] rfl ?_
                          have p187 : 0 ≤ (Int32.toInt r184) := w185.1
                          have p188 : (Int32.toInt r184) ≤ 9 := w185.2.1
                          have p189 : 0 ≤ (Int32.toInt z182) := w185.2.2.1
                          have p190 : (Int32.toInt z182) ≤ 48 := w185.2.2.2
                          exact r_iret 211 Rt dX7_reckonOne_211 (z182, f183) (show 0 ≤ (Int32.toInt r184) ∧ (Int32.toInt r184) ≤ 9 ∧ 0 ≤ (Int32.toInt z182) ∧ (Int32.toInt z182) ≤ 48 from ⟨(show _ ∧ _ from ⟨p187, p188⟩).1, (show _ ∧ _ from ⟨p187, p188⟩).2, (show _ ∧ _ from ⟨p189, p190⟩).1, (show _ ∧ _ from ⟨p189, p190⟩).2⟩) [1, 2, 0] (by decide) rfl (Nat.le_of_ble_eq_true rfl) (Nat.le_of_ble_eq_true rfl)
                        · skip
                          have k191 : ¬ ((Int32.toInt x0) = 16) := fun h_9 => c178 ((fa_eq x0 16).mpr h_9)
                          by_cases c192 : x0 = 17
                          · skip
                            have k193 : (Int32.toInt x0) = 17 := (fa_eq x0 17).mp c192
                            refine r_tableIn 7 202 17 C dX7_reckonOne_7 c192 (by decide) (by decide) rfl (by decide) ?_
                            refine r_aload_n 202 1 C dX7_reckonOne_202 rfl ?_
                            refine r_aload_n 203 1 C dX7_reckonOne_203 rfl ?_
                            refine r_iconst 204 0 C dX7_reckonOne_204 (by decide) ?_
                            refine r_callVl 205 C dX7_reckonOne_205 [.ref h0] [(h0, .inr (6, [.ref h1, .ref h2, .int x1, .int x2])), (h1, .inl (gJ g, 48, .inr (.inl fm0)))] [(h2, .inl (gJ g, 32, .inr (.inl fm1)))] (fun sz => c234_X7_wholeBelow l g h0 h1 0 h2 x1 x2 fm0 i_x1 i_x2 sz) gX7_reckonOne_X7_wholeBelow rfl ⟨rfl, rfl⟩ 1 (by decide) ⟨Nat.le_of_ble_eq_true rfl, Nat.le_of_ble_eq_true rfl⟩ 1 rfl rfl [1, 2] [0] rfl rfl (by decide) (by decide) (by decide) rfl rfl (Nat.le_of_ble_eq_true rfl) ⟨Nat.le_of_ble_eq_true rfl, Nat.le_of_ble_eq_true rfl⟩ (fun r194 _ w195 => ?_)
                            refine r_ws [(h2, .inl (gJ g, 32, .inr (.inl fm1))), (h0, .inr (6, [.ref h1, .ref h2, .int x1, .int x2])), (h1, .inl (gJ g, 48, .inr (.inl fm0)))] rfl ?_
                            have gr194 := fb_rngL r194
                            refine r_callVi 208 C dX7_reckonOne_208 [] [(h0, .inr (6, [.ref h1, .ref h2, .int x1, .int x2])), (h1, .inl (gJ g, 48, .inr (.inl fm0)))] [(h2, .inl (gJ g, 32, .inr (.inl fm1)))] (fun sz => c301_X7_pick l g h0 h1 r194 h2 x1 x2 fm0 i_x1 i_x2 sz) gX7_reckonOne_X7_pick rfl ⟨rfl, rfl⟩ 1 (by decide) ⟨Nat.le_of_ble_eq_true rfl, Nat.le_of_ble_eq_true rfl⟩ 1 rfl rfl [1, 2] [0] rfl rfl (by decide) (by decide) (by decide) rfl rfl (Nat.le_of_ble_eq_true rfl) ⟨Nat.le_of_ble_eq_true rfl, Nat.le_of_ble_eq_true rfl⟩ (fun r198 u200 w199 => ?_)
                            obtain ⟨z196, f197⟩ := u200
                            refine r_ws [(h2, .inl (gJ g, 32, .inr (.inl fm1))), (h0, .inr (6, [.ref h1, .ref h2, .int z196, .int x2])), (h1, .inl (gJ g, 48, .inr (.inl f197)))] rfl ?_
                            have p201 : 0 ≤ (Int32.toInt r198) := w199.1
                            have p202 : (Int32.toInt r198) ≤ 9 := w199.2.1
                            have p203 : 0 ≤ (Int32.toInt z196) := w199.2.2.1
                            have p204 : (Int32.toInt z196) ≤ 48 := w199.2.2.2
                            exact r_iret 211 Rt dX7_reckonOne_211 (z196, f197) (show 0 ≤ (Int32.toInt r198) ∧ (Int32.toInt r198) ≤ 9 ∧ 0 ≤ (Int32.toInt z196) ∧ (Int32.toInt z196) ≤ 48 from ⟨(show _ ∧ _ from ⟨p201, p202⟩).1, (show _ ∧ _ from ⟨p201, p202⟩).2, (show _ ∧ _ from ⟨p203, p204⟩).1, (show _ ∧ _ from ⟨p203, p204⟩).2⟩) [1, 2, 0] (by decide) rfl (Nat.le_of_ble_eq_true rfl) (Nat.le_of_ble_eq_true rfl)
                          · skip
                            have k205 : ¬ ((Int32.toInt x0) = 17) := fun h_9 => c192 ((fa_eq x0 17).mpr h_9)
                            by_cases c206 : x0 = 18
                            · skip
                              have k207 : (Int32.toInt x0) = 18 := (fa_eq x0 18).mp c206
                              refine r_tableIn 7 154 18 C dX7_reckonOne_7 c206 (by decide) (by decide) rfl (by decide) ?_
                              refine r_aload_n 154 1 C dX7_reckonOne_154 rfl ?_
                              refine r_iconst 155 1 C dX7_reckonOne_155 (by decide) ?_
                              refine r_callVv 156 C dX7_reckonOne_156 [] [(h0, .inr (6, [.ref h1, .ref h2, .int x1, .int x2]))] [(h2, .inl (gJ g, 32, .inr (.inl fm1))), (h1, .inl (gJ g, 48, .inr (.inl fm0)))] (fun sz => c235_X7_drop l g h0 1 h1 h2 x1 x2 i_x1 i_x2 sz) gX7_reckonOne_X7_drop rfl ⟨rfl, rfl⟩ 1 (by decide) ⟨Nat.le_of_ble_eq_true rfl, Nat.le_of_ble_eq_true rfl⟩ 1 rfl rfl [1] [0, 2] rfl rfl (by decide) (by decide) (by decide) rfl rfl (Nat.le_of_ble_eq_true rfl) ⟨Nat.le_of_ble_eq_true rfl, Nat.le_of_ble_eq_true rfl⟩ (fun  z208 w209 => ?_)
                              refine r_ws [(h2, .inl (gJ g, 32, .inr (.inl fm1))), (h1, .inl (gJ g, 48, .inr (.inl fm0))), (h0, .inr (6, [.ref h1, .ref h2, .int z208, .int x2]))] rfl ?_
                              have p210 : 0 ≤ (Int32.toInt z208) := w209.1
                              have p211 : (Int32.toInt z208) ≤ 48 := w209.2
                              refine r_iconst 159 0 C dX7_reckonOne_159 (by decide) ?_
                              exact r_iret 160 Rt dX7_reckonOne_160 (z208, fm0) (show 0 ≤ (Int32.toInt 0) ∧ (Int32.toInt 0) ≤ 9 ∧ 0 ≤ (Int32.toInt z208) ∧ (Int32.toInt z208) ≤ 48 from ⟨(by ((repeat' apply And.intro) <;> first | trivial | rfl | assumption | omega | decide | exact Or.inl rfl | exact Or.inr (Or.inl rfl) | exact Or.inr (Or.inr rfl))), (by ((repeat' apply And.intro) <;> first | trivial | rfl | assumption | omega | decide | exact Or.inl rfl | exact Or.inr (Or.inl rfl) | exact Or.inr (Or.inr rfl))), (show _ ∧ _ from ⟨p210, p211⟩).1, (show _ ∧ _ from ⟨p210, p211⟩).2⟩) [2, 1, 0] (by decide) rfl (Nat.le_of_ble_eq_true rfl) (Nat.le_of_ble_eq_true rfl)
                            · skip
                              have k212 : ¬ ((Int32.toInt x0) = 18) := fun h_9 => c206 ((fa_eq x0 18).mpr h_9)
                              by_cases c213 : x0 = 19
                              · skip
                                have k214 : (Int32.toInt x0) = 19 := (fa_eq x0 19).mp c213
                                refine r_tableIn 7 202 19 C dX7_reckonOne_7 c213 (by decide) (by decide) rfl (by decide) ?_
                                refine r_aload_n 202 1 C dX7_reckonOne_202 rfl ?_
                                refine r_aload_n 203 1 C dX7_reckonOne_203 rfl ?_
                                refine r_iconst 204 0 C dX7_reckonOne_204 (by decide) ?_
                                refine r_callVl 205 C dX7_reckonOne_205 [.ref h0] [(h0, .inr (6, [.ref h1, .ref h2, .int x1, .int x2])), (h1, .inl (gJ g, 48, .inr (.inl fm0)))] [(h2, .inl (gJ g, 32, .inr (.inl fm1)))] (fun sz => c234_X7_wholeBelow l g h0 h1 0 h2 x1 x2 fm0 i_x1 i_x2 sz) gX7_reckonOne_X7_wholeBelow rfl ⟨rfl, rfl⟩ 1 (by decide) ⟨Nat.le_of_ble_eq_true rfl, Nat.le_of_ble_eq_true rfl⟩ 1 rfl rfl [1, 2] [0] rfl rfl (by decide) (by decide) (by decide) rfl rfl (Nat.le_of_ble_eq_true rfl) ⟨Nat.le_of_ble_eq_true rfl, Nat.le_of_ble_eq_true rfl⟩ (fun r215 _ w216 => ?_)
                                refine r_ws [(h2, .inl (gJ g, 32, .inr (.inl fm1))), (h0, .inr (6, [.ref h1, .ref h2, .int x1, .int x2])), (h1, .inl (gJ g, 48, .inr (.inl fm0)))] rfl ?_
                                have gr215 := fb_rngL r215
                                refine r_callVi 208 C dX7_reckonOne_208 [] [(h0, .inr (6, [.ref h1, .ref h2, .int x1, .int x2])), (h1, .inl (gJ g, 48, .inr (.inl fm0)))] [(h2, .inl (gJ g, 32, .inr (.inl fm1)))] (fun sz => c301_X7_pick l g h0 h1 r215 h2 x1 x2 fm0 i_x1 i_x2 sz) gX7_reckonOne_X7_pick rfl ⟨rfl, rfl⟩ 1 (by decide) ⟨Nat.le_of_ble_eq_true rfl, Nat.le_of_ble_eq_true rfl⟩ 1 rfl rfl [1, 2] [0] rfl rfl (by decide) (by decide) (by decide) rfl rfl (Nat.le_of_ble_eq_true rfl) ⟨Nat.le_of_ble_eq_true rfl, Nat.le_of_ble_eq_true rfl⟩ (fun r219 u221 w220 => ?_)
                                obtain ⟨z217, f218⟩ := u221
                                refine r_ws [(h2, .inl (gJ g, 32, .inr (.inl fm1))), (h0, .inr (6, [.ref h1, .ref h2, .int z217, .int x2])), (h1, .inl (gJ g, 48, .inr (.inl f218)))] rfl ?_
                                have p222 : 0 ≤ (Int32.toInt r219) := w220.1
                                have p223 : (Int32.toInt r219) ≤ 9 := w220.2.1
                                have p224 : 0 ≤ (Int32.toInt z217) := w220.2.2.1
                                have p225 : (Int32.toInt z217) ≤ 48 := w220.2.2.2
                                exact r_iret 211 Rt dX7_reckonOne_211 (z217, f218) (show 0 ≤ (Int32.toInt r219) ∧ (Int32.toInt r219) ≤ 9 ∧ 0 ≤ (Int32.toInt z217) ∧ (Int32.toInt z217) ≤ 48 from ⟨(show _ ∧ _ from ⟨p222, p223⟩).1, (show _ ∧ _ from ⟨p222, p223⟩).2, (show _ ∧ _ from ⟨p224, p225⟩).1, (show _ ∧ _ from ⟨p224, p225⟩).2⟩) [1, 2, 0] (by decide) rfl (Nat.le_of_ble_eq_true rfl) (Nat.le_of_ble_eq_true rfl)
                              · skip
                                have k226 : ¬ ((Int32.toInt x0) = 19) := fun h_9 => c213 ((fa_eq x0 19).mpr h_9)
                                by_cases c227 : x0 = 20
                                · skip
                                  have k228 : (Int32.toInt x0) = 20 := (fa_eq x0 20).mp c227
                                  refine r_tableIn 7 202 20 C dX7_reckonOne_7 c227 (by decide) (by decide) rfl (by decide) ?_
                                  refine r_aload_n 202 1 C dX7_reckonOne_202 rfl ?_
                                  refine r_aload_n 203 1 C dX7_reckonOne_203 rfl ?_
                                  refine r_iconst 204 0 C dX7_reckonOne_204 (by decide) ?_
                                  refine r_callVl 205 C dX7_reckonOne_205 [.ref h0] [(h0, .inr (6, [.ref h1, .ref h2, .int x1, .int x2])), (h1, .inl (gJ g, 48, .inr (.inl fm0)))] [(h2, .inl (gJ g, 32, .inr (.inl fm1)))] (fun sz => c234_X7_wholeBelow l g h0 h1 0 h2 x1 x2 fm0 i_x1 i_x2 sz) gX7_reckonOne_X7_wholeBelow rfl ⟨rfl, rfl⟩ 1 (by decide) ⟨Nat.le_of_ble_eq_true rfl, Nat.le_of_ble_eq_true rfl⟩ 1 rfl rfl [1, 2] [0] rfl rfl (by decide) (by decide) (by decide) rfl rfl (Nat.le_of_ble_eq_true rfl) ⟨Nat.le_of_ble_eq_true rfl, Nat.le_of_ble_eq_true rfl⟩ (fun r229 _ w230 => ?_)
                                  refine r_ws [(h2, .inl (gJ g, 32, .inr (.inl fm1))), (h0, .inr (6, [.ref h1, .ref h2, .int x1, .int x2])), (h1, .inl (gJ g, 48, .inr (.inl fm0)))] rfl ?_
                                  have gr229 := fb_rngL r229
                                  refine r_callVi 208 C dX7_reckonOne_208 [] [(h0, .inr (6, [.ref h1, .ref h2, .int x1, .int x2])), (h1, .inl (gJ g, 48, .inr (.inl fm0)))] [(h2, .inl (gJ g, 32, .inr (.inl fm1)))] (fun sz => c301_X7_pick l g h0 h1 r229 h2 x1 x2 fm0 i_x1 i_x2 sz) gX7_reckonOne_X7_pick rfl ⟨rfl, rfl⟩ 1 (by decide) ⟨Nat.le_of_ble_eq_true rfl, Nat.le_of_ble_eq_true rfl⟩ 1 rfl rfl [1, 2] [0] rfl rfl (by decide) (by decide) (by decide) rfl rfl (Nat.le_of_ble_eq_true rfl) ⟨Nat.le_of_ble_eq_true rfl, Nat.le_of_ble_eq_true rfl⟩ (fun r233 u235 w234 => ?_)
                                  obtain ⟨z231, f232⟩ := u235
                                  refine r_ws [(h2, .inl (gJ g, 32, .inr (.inl fm1))), (h0, .inr (6, [.ref h1, .ref h2, .int z231, .int x2])), (h1, .inl (gJ g, 48, .inr (.inl f232)))] rfl ?_
                                  have p236 : 0 ≤ (Int32.toInt r233) := w234.1
                                  have p237 : (Int32.toInt r233) ≤ 9 := w234.2.1
                                  have p238 : 0 ≤ (Int32.toInt z231) := w234.2.2.1
                                  have p239 : (Int32.toInt z231) ≤ 48 := w234.2.2.2
                                  exact r_iret 211 Rt dX7_reckonOne_211 (z231, f232) (show 0 ≤ (Int32.toInt r233) ∧ (Int32.toInt r233) ≤ 9 ∧ 0 ≤ (Int32.toInt z231) ∧ (Int32.toInt z231) ≤ 48 from ⟨(show _ ∧ _ from ⟨p236, p237⟩).1, (show _ ∧ _ from ⟨p236, p237⟩).2, (show _ ∧ _ from ⟨p238, p239⟩).1, (show _ ∧ _ from ⟨p238, p239⟩).2⟩) [1, 2, 0] (by decide) rfl (Nat.le_of_ble_eq_true rfl) (Nat.le_of_ble_eq_true rfl)
                                · skip
                                  have k240 : ¬ ((Int32.toInt x0) = 20) := fun h_9 => c227 ((fa_eq x0 20).mpr h_9)
                                  by_cases c241 : x0 = 21
                                  · skip
                                    have k242 : (Int32.toInt x0) = 21 := (fa_eq x0 21).mp c241
                                    refine r_tableIn 7 161 21 C dX7_reckonOne_7 c241 (by decide) (by decide) rfl (by decide) ?_
                                    refine r_aload_n 161 1 C dX7_reckonOne_161 rfl ?_
                                    refine r_aload_n 162 1 C dX7_reckonOne_162 rfl ?_
                                    refine r_iconst 163 0 C dX7_reckonOne_163 (by decide) ?_
                                    refine r_callVl 164 C dX7_reckonOne_164 [.ref h0] [(h0, .inr (6, [.ref h1, .ref h2, .int x1, .int x2])), (h1, .inl (gJ g, 48, .inr (.inl fm0)))] [(h2, .inl (gJ g, 32, .inr (.inl fm1)))] (fun sz => c234_X7_wholeBelow l g h0 h1 0 h2 x1 x2 fm0 i_x1 i_x2 sz) gX7_reckonOne_X7_wholeBelow rfl ⟨rfl, rfl⟩ 1 (by decide) ⟨Nat.le_of_ble_eq_true rfl, Nat.le_of_ble_eq_true rfl⟩ 1 rfl rfl [1, 2] [0] rfl rfl (by decide) (by decide) (by decide) rfl rfl (Nat.le_of_ble_eq_true rfl) ⟨Nat.le_of_ble_eq_true rfl, Nat.le_of_ble_eq_true rfl⟩ (fun r243 _ w244 => ?_)
                                    refine r_ws [(h2, .inl (gJ g, 32, .inr (.inl fm1))), (h0, .inr (6, [.ref h1, .ref h2, .int x1, .int x2])), (h1, .inl (gJ g, 48, .inr (.inl fm0)))] rfl ?_
                                    have gr243 := fb_rngL r243
                                    refine r_callVi 167 C dX7_reckonOne_167 [] [(h0, .inr (6, [.ref h1, .ref h2, .int x1, .int x2])), (h1, .inl (gJ g, 48, .inr (.inl fm0))), (h2, .inl (gJ g, 32, .inr (.inl fm1)))] [] (fun sz => c302_X7_fetch l g h0 h1 h2 r243 x1 x2 fm0 fm1 i_x1 i_x2 sz) gX7_reckonOne_X7_fetch rfl ⟨rfl, rfl⟩ 1 (by decide) ⟨Nat.le_of_ble_eq_true rfl, Nat.le_of_ble_eq_true rfl⟩ 1 rfl rfl [1, 2, 0] [] rfl rfl (by decide) (by decide) (by decide) rfl rfl (Nat.le_of_ble_eq_true rfl) ⟨Nat.le_of_ble_eq_true rfl, Nat.le_of_ble_eq_true rfl⟩ (fun r247 u249 w248 => ?_)
                                    obtain ⟨z245, f246⟩ := u249
                                    refine r_ws [(h0, .inr (6, [.ref h1, .ref h2, .int z245, .int x2])), (h1, .inl (gJ g, 48, .inr (.inl f246))), (h2, .inl (gJ g, 32, .inr (.inl fm1)))] rfl ?_
                                    have p250 : 0 ≤ (Int32.toInt r247) := w248.1
                                    have p251 : (Int32.toInt r247) ≤ 9 := w248.2.1
                                    have p252 : 0 ≤ (Int32.toInt z245) := w248.2.2.1
                                    have p253 : (Int32.toInt z245) ≤ 48 := w248.2.2.2
                                    exact r_iret 170 Rt dX7_reckonOne_170 (z245, f246) (show 0 ≤ (Int32.toInt r247) ∧ (Int32.toInt r247) ≤ 9 ∧ 0 ≤ (Int32.toInt z245) ∧ (Int32.toInt z245) ≤ 48 from ⟨(show _ ∧ _ from ⟨p250, p251⟩).1, (show _ ∧ _ from ⟨p250, p251⟩).2, (show _ ∧ _ from ⟨p252, p253⟩).1, (show _ ∧ _ from ⟨p252, p253⟩).2⟩) [0, 1, 2] (by decide) rfl (Nat.le_of_ble_eq_true rfl) (Nat.le_of_ble_eq_true rfl)
                                  · skip
                                    have k254 : ¬ ((Int32.toInt x0) = 21) := fun h_9 => c241 ((fa_eq x0 21).mpr h_9)
                                    by_cases c255 : x0 = 22
                                    · skip
                                      have k256 : (Int32.toInt x0) = 22 := (fa_eq x0 22).mp c255
                                      refine r_tableIn 7 202 22 C dX7_reckonOne_7 c255 (by decide) (by decide) rfl (by decide) ?_
                                      refine r_aload_n 202 1 C dX7_reckonOne_202 rfl ?_
                                      refine r_aload_n 203 1 C dX7_reckonOne_203 rfl ?_
                                      refine r_iconst 204 0 C dX7_reckonOne_204 (by decide) ?_
                                      refine r_callVl 205 C dX7_reckonOne_205 [.ref h0] [(h0, .inr (6, [.ref h1, .ref h2, .int x1, .int x2])), (h1, .inl (gJ g, 48, .inr (.inl fm0)))] [(h2, .inl (gJ g, 32, .inr (.inl fm1)))] (fun sz => c234_X7_wholeBelow l g h0 h1 0 h2 x1 x2 fm0 i_x1 i_x2 sz) gX7_reckonOne_X7_wholeBelow rfl ⟨rfl, rfl⟩ 1 (by decide) ⟨Nat.le_of_ble_eq_true rfl, Nat.le_of_ble_eq_true rfl⟩ 1 rfl rfl [1, 2] [0] rfl rfl (by decide) (by decide) (by decide) rfl rfl (Nat.le_of_ble_eq_true rfl) ⟨Nat.le_of_ble_eq_true rfl, Nat.le_of_ble_eq_true rfl⟩ (fun r257 _ w258 => ?_)
                                      refine r_ws [(h2, .inl (gJ g, 32, .inr (.inl fm1))), (h0, .inr (6, [.ref h1, .ref h2, .int x1, .int x2])), (h1, .inl (gJ g, 48, .inr (.inl fm0)))] rfl ?_
                                      have gr257 := fb_rngL r257
                                      refine r_callVi 208 C dX7_reckonOne_208 [] [(h0, .inr (6, [.ref h1, .ref h2, .int x1, .int x2])), (h1, .inl (gJ g, 48, .inr (.inl fm0)))] [(h2, .inl (gJ g, 32, .inr (.inl fm1)))] (fun sz => c301_X7_pick l g h0 h1 r257 h2 x1 x2 fm0 i_x1 i_x2 sz) gX7_reckonOne_X7_pick rfl ⟨rfl, rfl⟩ 1 (by decide) ⟨Nat.le_of_ble_eq_true rfl, Nat.le_of_ble_eq_true rfl⟩ 1 rfl rfl [1, 2] [0] rfl rfl (by decide) (by decide) (by decide) rfl rfl (Nat.le_of_ble_eq_true rfl) ⟨Nat.le_of_ble_eq_true rfl, Nat.le_of_ble_eq_true rfl⟩ (fun r261 u263 w262 => ?_)
                                      obtain ⟨z259, f260⟩ := u263
                                      refine r_ws [(h2, .inl (gJ g, 32, .inr (.inl fm1))), (h0, .inr (6, [.ref h1, .ref h2, .int z259, .int x2])), (h1, .inl (gJ g, 48, .inr (.inl f260)))] rfl ?_
                                      have p264 : 0 ≤ (Int32.toInt r261) := w262.1
                                      have p265 : (Int32.toInt r261) ≤ 9 := w262.2.1
                                      have p266 : 0 ≤ (Int32.toInt z259) := w262.2.2.1
                                      have p267 : (Int32.toInt z259) ≤ 48 := w262.2.2.2
                                      exact r_iret 211 Rt dX7_reckonOne_211 (z259, f260) (show 0 ≤ (Int32.toInt r261) ∧ (Int32.toInt r261) ≤ 9 ∧ 0 ≤ (Int32.toInt z259) ∧ (Int32.toInt z259) ≤ 48 from ⟨(show _ ∧ _ from ⟨p264, p265⟩).1, (show _ ∧ _ from ⟨p264, p265⟩).2, (show _ ∧ _ from ⟨p266, p267⟩).1, (show _ ∧ _ from ⟨p266, p267⟩).2⟩) [1, 2, 0] (by decide) rfl (Nat.le_of_ble_eq_true rfl) (Nat.le_of_ble_eq_true rfl)
                                    · skip
                                      have k268 : ¬ ((Int32.toInt x0) = 22) := fun h_9 => c255 ((fa_eq x0 22).mpr h_9)
                                      by_cases c269 : x0 = 23
                                      · skip
                                        have k270 : (Int32.toInt x0) = 23 := (fa_eq x0 23).mp c269
                                        refine r_tableIn 7 202 23 C dX7_reckonOne_7 c269 (by decide) (by decide) rfl (by decide) ?_
                                        refine r_aload_n 202 1 C dX7_reckonOne_202 rfl ?_
                                        refine r_aload_n 203 1 C dX7_reckonOne_203 rfl ?_
                                        refine r_iconst 204 0 C dX7_reckonOne_204 (by decide) ?_
                                        refine r_callVl 205 C dX7_reckonOne_205 [.ref h0] [(h0, .inr (6, [.ref h1, .ref h2, .int x1, .int x2])), (h1, .inl (gJ g, 48, .inr (.inl fm0)))] [(h2, .inl (gJ g, 32, .inr (.inl fm1)))] (fun sz => c234_X7_wholeBelow l g h0 h1 0 h2 x1 x2 fm0 i_x1 i_x2 sz) gX7_reckonOne_X7_wholeBelow rfl ⟨rfl, rfl⟩ 1 (by decide) ⟨Nat.le_of_ble_eq_true rfl, Nat.le_of_ble_eq_true rfl⟩ 1 rfl rfl [1, 2] [0] rfl rfl (by decide) (by decide) (by decide) rfl rfl (Nat.le_of_ble_eq_true rfl) ⟨Nat.le_of_ble_eq_true rfl, Nat.le_of_ble_eq_true rfl⟩ (fun r271 _ w272 => ?_)
                                        refine r_ws [(h2, .inl (gJ g, 32, .inr (.inl fm1))), (h0, .inr (6, [.ref h1, .ref h2, .int x1, .int x2])), (h1, .inl (gJ g, 48, .inr (.inl fm0)))] rfl ?_
                                        have gr271 := fb_rngL r271
                                        refine r_callVi 208 C dX7_reckonOne_208 [] [(h0, .inr (6, [.ref h1, .ref h2, .int x1, .int x2])), (h1, .inl (gJ g, 48, .inr (.inl fm0)))] [(h2, .inl (gJ g, 32, .inr (.inl fm1)))] (fun sz => c301_X7_pick l g h0 h1 r271 h2 x1 x2 fm0 i_x1 i_x2 sz) gX7_reckonOne_X7_pick rfl ⟨rfl, rfl⟩ 1 (by decide) ⟨Nat.le_of_ble_eq_true rfl, Nat.le_of_ble_eq_true rfl⟩ 1 rfl rfl [1, 2] [0] rfl rfl (by decide) (by decide) (by decide) rfl rfl (Nat.le_of_ble_eq_true rfl) ⟨Nat.le_of_ble_eq_true rfl, Nat.le_of_ble_eq_true rfl⟩ (fun r275 u277 w276 => ?_)
                                        obtain ⟨z273, f274⟩ := u277
                                        refine r_ws [(h2, .inl (gJ g, 32, .inr (.inl fm1))), (h0, .inr (6, [.ref h1, .ref h2, .int z273, .int x2])), (h1, .inl (gJ g, 48, .inr (.inl f274)))] rfl ?_
                                        have p278 : 0 ≤ (Int32.toInt r275) := w276.1
                                        have p279 : (Int32.toInt r275) ≤ 9 := w276.2.1
                                        have p280 : 0 ≤ (Int32.toInt z273) := w276.2.2.1
                                        have p281 : (Int32.toInt z273) ≤ 48 := w276.2.2.2
                                        exact r_iret 211 Rt dX7_reckonOne_211 (z273, f274) (show 0 ≤ (Int32.toInt r275) ∧ (Int32.toInt r275) ≤ 9 ∧ 0 ≤ (Int32.toInt z273) ∧ (Int32.toInt z273) ≤ 48 from ⟨(show _ ∧ _ from ⟨p278, p279⟩).1, (show _ ∧ _ from ⟨p278, p279⟩).2, (show _ ∧ _ from ⟨p280, p281⟩).1, (show _ ∧ _ from ⟨p280, p281⟩).2⟩) [1, 2, 0] (by decide) rfl (Nat.le_of_ble_eq_true rfl) (Nat.le_of_ble_eq_true rfl)
                                      · skip
                                        have k282 : ¬ ((Int32.toInt x0) = 23) := fun h_9 => c269 ((fa_eq x0 23).mpr h_9)
                                        by_cases c283 : x0 = 24
                                        · skip
                                          have k284 : (Int32.toInt x0) = 24 := (fa_eq x0 24).mp c283
                                          refine r_tableIn 7 202 24 C dX7_reckonOne_7 c283 (by decide) (by decide) rfl (by decide) ?_
                                          refine r_aload_n 202 1 C dX7_reckonOne_202 rfl ?_
                                          refine r_aload_n 203 1 C dX7_reckonOne_203 rfl ?_
                                          refine r_iconst 204 0 C dX7_reckonOne_204 (by decide) ?_
                                          refine r_callVl 205 C dX7_reckonOne_205 [.ref h0] [(h0, .inr (6, [.ref h1, .ref h2, .int x1, .int x2])), (h1, .inl (gJ g, 48, .inr (.inl fm0)))] [(h2, .inl (gJ g, 32, .inr (.inl fm1)))] (fun sz => c234_X7_wholeBelow l g h0 h1 0 h2 x1 x2 fm0 i_x1 i_x2 sz) gX7_reckonOne_X7_wholeBelow rfl ⟨rfl, rfl⟩ 1 (by decide) ⟨Nat.le_of_ble_eq_true rfl, Nat.le_of_ble_eq_true rfl⟩ 1 rfl rfl [1, 2] [0] rfl rfl (by decide) (by decide) (by decide) rfl rfl (Nat.le_of_ble_eq_true rfl) ⟨Nat.le_of_ble_eq_true rfl, Nat.le_of_ble_eq_true rfl⟩ (fun r285 _ w286 => ?_)
                                          refine r_ws [(h2, .inl (gJ g, 32, .inr (.inl fm1))), (h0, .inr (6, [.ref h1, .ref h2, .int x1, .int x2])), (h1, .inl (gJ g, 48, .inr (.inl fm0)))] rfl ?_
                                          have gr285 := fb_rngL r285
                                          refine r_callVi 208 C dX7_reckonOne_208 [] [(h0, .inr (6, [.ref h1, .ref h2, .int x1, .int x2])), (h1, .inl (gJ g, 48, .inr (.inl fm0)))] [(h2, .inl (gJ g, 32, .inr (.inl fm1)))] (fun sz => c301_X7_pick l g h0 h1 r285 h2 x1 x2 fm0 i_x1 i_x2 sz) gX7_reckonOne_X7_pick rfl ⟨rfl, rfl⟩ 1 (by decide) ⟨Nat.le_of_ble_eq_true rfl, Nat.le_of_ble_eq_true rfl⟩ 1 rfl rfl [1, 2] [0] rfl rfl (by decide) (by decide) (by decide) rfl rfl (Nat.le_of_ble_eq_true rfl) ⟨Nat.le_of_ble_eq_true rfl, Nat.le_of_ble_eq_true rfl⟩ (fun r289 u291 w290 => ?_)
                                          obtain ⟨z287, f288⟩ := u291
                                          refine r_ws [(h2, .inl (gJ g, 32, .inr (.inl fm1))), (h0, .inr (6, [.ref h1, .ref h2, .int z287, .int x2])), (h1, .inl (gJ g, 48, .inr (.inl f288)))] rfl ?_
                                          have p292 : 0 ≤ (Int32.toInt r289) := w290.1
                                          have p293 : (Int32.toInt r289) ≤ 9 := w290.2.1
                                          have p294 : 0 ≤ (Int32.toInt z287) := w290.2.2.1
                                          have p295 : (Int32.toInt z287) ≤ 48 := w290.2.2.2
                                          exact r_iret 211 Rt dX7_reckonOne_211 (z287, f288) (show 0 ≤ (Int32.toInt r289) ∧ (Int32.toInt r289) ≤ 9 ∧ 0 ≤ (Int32.toInt z287) ∧ (Int32.toInt z287) ≤ 48 from ⟨(show _ ∧ _ from ⟨p292, p293⟩).1, (show _ ∧ _ from ⟨p292, p293⟩).2, (show _ ∧ _ from ⟨p294, p295⟩).1, (show _ ∧ _ from ⟨p294, p295⟩).2⟩) [1, 2, 0] (by decide) rfl (Nat.le_of_ble_eq_true rfl) (Nat.le_of_ble_eq_true rfl)
                                        · skip
                                          have k296 : ¬ ((Int32.toInt x0) = 24) := fun h_9 => c283 ((fa_eq x0 24).mpr h_9)
                                          by_cases c297 : x0 = 25
                                          · skip
                                            have k298 : (Int32.toInt x0) = 25 := (fa_eq x0 25).mp c297
                                            refine r_tableIn 7 202 25 C dX7_reckonOne_7 c297 (by decide) (by decide) rfl (by decide) ?_
                                            refine r_aload_n 202 1 C dX7_reckonOne_202 rfl ?_
                                            refine r_aload_n 203 1 C dX7_reckonOne_203 rfl ?_
                                            refine r_iconst 204 0 C dX7_reckonOne_204 (by decide) ?_
                                            refine r_callVl 205 C dX7_reckonOne_205 [.ref h0] [(h0, .inr (6, [.ref h1, .ref h2, .int x1, .int x2])), (h1, .inl (gJ g, 48, .inr (.inl fm0)))] [(h2, .inl (gJ g, 32, .inr (.inl fm1)))] (fun sz => c234_X7_wholeBelow l g h0 h1 0 h2 x1 x2 fm0 i_x1 i_x2 sz) gX7_reckonOne_X7_wholeBelow rfl ⟨rfl, rfl⟩ 1 (by decide) ⟨Nat.le_of_ble_eq_true rfl, Nat.le_of_ble_eq_true rfl⟩ 1 rfl rfl [1, 2] [0] rfl rfl (by decide) (by decide) (by decide) rfl rfl (Nat.le_of_ble_eq_true rfl) ⟨Nat.le_of_ble_eq_true rfl, Nat.le_of_ble_eq_true rfl⟩ (fun r299 _ w300 => ?_)
                                            refine r_ws [(h2, .inl (gJ g, 32, .inr (.inl fm1))), (h0, .inr (6, [.ref h1, .ref h2, .int x1, .int x2])), (h1, .inl (gJ g, 48, .inr (.inl fm0)))] rfl ?_
                                            have gr299 := fb_rngL r299
                                            refine r_callVi 208 C dX7_reckonOne_208 [] [(h0, .inr (6, [.ref h1, .ref h2, .int x1, .int x2])), (h1, .inl (gJ g, 48, .inr (.inl fm0)))] [(h2, .inl (gJ g, 32, .inr (.inl fm1)))] (fun sz => c301_X7_pick l g h0 h1 r299 h2 x1 x2 fm0 i_x1 i_x2 sz) gX7_reckonOne_X7_pick rfl ⟨rfl, rfl⟩ 1 (by decide) ⟨Nat.le_of_ble_eq_true rfl, Nat.le_of_ble_eq_true rfl⟩ 1 rfl rfl [1, 2] [0] rfl rfl (by decide) (by decide) (by decide) rfl rfl (Nat.le_of_ble_eq_true rfl) ⟨Nat.le_of_ble_eq_true rfl, Nat.le_of_ble_eq_true rfl⟩ (fun r303 u305 w304 => ?_)
                                            obtain ⟨z301, f302⟩ := u305
                                            refine r_ws [(h2, .inl (gJ g, 32, .inr (.inl fm1))), (h0, .inr (6, [.ref h1, .ref h2, .int z301, .int x2])), (h1, .inl (gJ g, 48, .inr (.inl f302)))] rfl ?_
                                            have p306 : 0 ≤ (Int32.toInt r303) := w304.1
                                            have p307 : (Int32.toInt r303) ≤ 9 := w304.2.1
                                            have p308 : 0 ≤ (Int32.toInt z301) := w304.2.2.1
                                            have p309 : (Int32.toInt z301) ≤ 48 := w304.2.2.2
                                            exact r_iret 211 Rt dX7_reckonOne_211 (z301, f302) (show 0 ≤ (Int32.toInt r303) ∧ (Int32.toInt r303) ≤ 9 ∧ 0 ≤ (Int32.toInt z301) ∧ (Int32.toInt z301) ≤ 48 from ⟨(show _ ∧ _ from ⟨p306, p307⟩).1, (show _ ∧ _ from ⟨p306, p307⟩).2, (show _ ∧ _ from ⟨p308, p309⟩).1, (show _ ∧ _ from ⟨p308, p309⟩).2⟩) [1, 2, 0] (by decide) rfl (Nat.le_of_ble_eq_true rfl) (Nat.le_of_ble_eq_true rfl)
                                          · skip
                                            have k310 : ¬ ((Int32.toInt x0) = 25) := fun h_9 => c297 ((fa_eq x0 25).mpr h_9)
                                            by_cases c311 : x0 = 26
                                            · skip
                                              have k312 : (Int32.toInt x0) = 26 := (fa_eq x0 26).mp c311
                                              refine r_tableIn 7 171 26 C dX7_reckonOne_7 c311 (by decide) (by decide) rfl (by decide) ?_
                                              refine r_lload_n 171 0 C dX7_reckonOne_171 rfl ?_
                                              refine r_lconst 172 0 C dX7_reckonOne_172 (by decide) ?_
                                              obtain ⟨z313, ez313⟩ : ∃ z_9, lg_cmp r1 0 = z_9 := ⟨_, rfl⟩
                                              have l1z313 : (Int32.toInt z313) < 0 ↔ (Int64.toInt r1) < 0 := by rw [← ez313]; exact lgI1 r1 0
                                              have l2z313 : 0 < (Int32.toInt z313) ↔ 0 < (Int64.toInt r1) := by rw [← ez313]; exact lgI2 r1 0
                                              refine r_lcmp 173 z313 C dX7_reckonOne_173 ez313 ?_
                                              refine r_if_ge 174 182 C dX7_reckonOne_174 (by decide) (fun c314 => ?_) (fun c314 => ?_)
                                              · skip
                                                have k315 : 0 ≤ (Int32.toInt z313) := (fa_le 0 z313).mp c314
                                                refine r_aload_n 182 1 C dX7_reckonOne_182 rfl ?_
                                                refine r_iconst 183 1 C dX7_reckonOne_183 (by decide) ?_
                                                refine r_lload_n 184 0 C dX7_reckonOne_184 rfl ?_
                                                refine r_ldc2 185 65536 C dX7_reckonOne_185 (mg 5 rfl) ?_
                                                obtain ⟨z316, ez316⟩ : ∃ z_9, r1 * 65536 = z_9 := ⟨_, rfl⟩
                                                have gz316 := fb_rngL z316
                                                refine r_lmul 188 z316 C dX7_reckonOne_188 ez316 ?_
                                                refine r_callSl 189 C dX7_reckonOne_189 [.int 1, .ref h0] [] [(h2, .inl (gJ g, 32, .inr (.inl fm1))), (h0, .inr (6, [.ref h1, .ref h2, .int x1, .int x2])), (h1, .inl (gJ g, 48, .inr (.inl fm0)))] (fun sz => c303_X7_rootOf l g z316  sz) gX7_reckonOne_X7_rootOf rfl ⟨rfl, rfl⟩ 1 (by decide) ⟨Nat.le_of_ble_eq_true rfl, Nat.le_of_ble_eq_true rfl⟩ [] [0, 1, 2] rfl rfl (by decide) (by decide) (by decide) rfl rfl (Nat.le_of_ble_eq_true rfl) ⟨Nat.le_of_ble_eq_true rfl, Nat.le_of_ble_eq_true rfl⟩ (fun r317 _ w318 => ?_)
                                                refine r_ws [(h2, .inl (gJ g, 32, .inr (.inl fm1))), (h0, .inr (6, [.ref h1, .ref h2, .int x1, .int x2])), (h1, .inl (gJ g, 48, .inr (.inl fm0)))] rfl ?_
                                                have gr317 := fb_rngL r317
                                                refine r_callVi 192 C dX7_reckonOne_192 [] [(h0, .inr (6, [.ref h1, .ref h2, .int x1, .int x2])), (h1, .inl (gJ g, 48, .inr (.inl fm0)))] [(h2, .inl (gJ g, 32, .inr (.inl fm1)))] (fun sz => c238_X7_replace l g h0 h1 1 r317 h2 x1 x2 fm0 i_x1 i_x2 sz) gX7_reckonOne_X7_replace rfl ⟨rfl, rfl⟩ 2 (by decide) ⟨Nat.le_of_ble_eq_true rfl, Nat.le_of_ble_eq_true rfl⟩ 1 rfl rfl [1, 2] [0] rfl rfl (by decide) (by decide) (by decide) rfl rfl (Nat.le_of_ble_eq_true rfl) ⟨Nat.le_of_ble_eq_true rfl, Nat.le_of_ble_eq_true rfl⟩ (fun r321 u323 w322 => ?_)
                                                obtain ⟨z319, f320⟩ := u323
                                                refine r_ws [(h2, .inl (gJ g, 32, .inr (.inl fm1))), (h0, .inr (6, [.ref h1, .ref h2, .int z319, .int x2])), (h1, .inl (gJ g, 48, .inr (.inl f320)))] rfl ?_
                                                have p324 : 0 ≤ (Int32.toInt r321) := w322.1
                                                have p325 : (Int32.toInt r321) ≤ 3 := w322.2.1
                                                have p326 : 0 ≤ (Int32.toInt z319) := w322.2.2.1
                                                have p327 : (Int32.toInt z319) ≤ 48 := w322.2.2.2
                                                exact r_iret 195 Rt dX7_reckonOne_195 (z319, f320) (show 0 ≤ (Int32.toInt r321) ∧ (Int32.toInt r321) ≤ 9 ∧ 0 ≤ (Int32.toInt z319) ∧ (Int32.toInt z319) ≤ 48 from ⟨(iv_wide (c := 0) (d := 9) ⟨p324, p325⟩ (by decide) (by decide)).1, (iv_wide (c := 0) (d := 9) ⟨p324, p325⟩ (by decide) (by decide)).2, (show _ ∧ _ from ⟨p326, p327⟩).1, (show _ ∧ _ from ⟨p326, p327⟩).2⟩) [1, 2, 0] (by decide) rfl (Nat.le_of_ble_eq_true rfl) (Nat.le_of_ble_eq_true rfl)
                                              · skip
                                                have k328 : ¬ (0 ≤ (Int32.toInt z313)) := fun h_9 => c314 ((fa_le 0 z313).mpr h_9)
                                                refine r_bipush 177 9 C dX7_reckonOne_177 (by decide) ?_
                                                refine r_goto 179 195 C dX7_reckonOne_179 (by decide) ?_
                                                exact r_iret 195 Rt dX7_reckonOne_195 (x1, fm0) (show 0 ≤ (Int32.toInt 9) ∧ (Int32.toInt 9) ≤ 9 ∧ 0 ≤ (Int32.toInt x1) ∧ (Int32.toInt x1) ≤ 48 from ⟨(by ((repeat' apply And.intro) <;> first | trivial | rfl | assumption | omega | decide | exact Or.inl rfl | exact Or.inr (Or.inl rfl) | exact Or.inr (Or.inr rfl))), (by ((repeat' apply And.intro) <;> first | trivial | rfl | assumption | omega | decide | exact Or.inl rfl | exact Or.inr (Or.inl rfl) | exact Or.inr (Or.inr rfl))), i_x1.1, i_x1.2⟩) [1, 2, 0] (by decide) rfl (Nat.le_of_ble_eq_true rfl) (Nat.le_of_ble_eq_true rfl)
                                            · skip
                                              have k329 : ¬ ((Int32.toInt x0) = 26) := fun h_9 => c311 ((fa_eq x0 26).mpr h_9)
                                              by_cases c330 : x0 = 27
                                              · skip
                                                have k331 : (Int32.toInt x0) = 27 := (fa_eq x0 27).mp c330
                                                refine r_tableIn 7 196 27 C dX7_reckonOne_7 c330 (by decide) (by decide) rfl (by decide) ?_
                                                refine r_aload_n 196 1 C dX7_reckonOne_196 rfl ?_
                                                refine r_lload_n 197 0 C dX7_reckonOne_197 rfl ?_
                                                refine r_callVi 198 C dX7_reckonOne_198 [] [(h0, .inr (6, [.ref h1, .ref h2, .int x1, .int x2])), (h1, .inl (gJ g, 48, .inr (.inl fm0)))] [(h2, .inl (gJ g, 32, .inr (.inl fm1)))] (fun sz => c227_X7_push l g h0 h1 r1 h2 x1 x2 fm0 i_x1 i_x2 sz) gX7_reckonOne_X7_push rfl ⟨rfl, rfl⟩ 1 (by decide) ⟨Nat.le_of_ble_eq_true rfl, Nat.le_of_ble_eq_true rfl⟩ 1 rfl rfl [1, 2] [0] rfl rfl (by decide) (by decide) (by decide) rfl rfl (Nat.le_of_ble_eq_true rfl) ⟨Nat.le_of_ble_eq_true rfl, Nat.le_of_ble_eq_true rfl⟩ (fun r334 u336 w335 => ?_)
                                                obtain ⟨z332, f333⟩ := u336
                                                refine r_ws [(h2, .inl (gJ g, 32, .inr (.inl fm1))), (h0, .inr (6, [.ref h1, .ref h2, .int z332, .int x2])), (h1, .inl (gJ g, 48, .inr (.inl f333)))] rfl ?_
                                                have p337 : 0 ≤ (Int32.toInt r334) := w335.1
                                                have p338 : (Int32.toInt r334) ≤ 3 := w335.2.1
                                                have p339 : 0 ≤ (Int32.toInt z332) := w335.2.2.1
                                                have p340 : (Int32.toInt z332) ≤ 48 := w335.2.2.2
                                                exact r_iret 201 Rt dX7_reckonOne_201 (z332, f333) (show 0 ≤ (Int32.toInt r334) ∧ (Int32.toInt r334) ≤ 9 ∧ 0 ≤ (Int32.toInt z332) ∧ (Int32.toInt z332) ≤ 48 from ⟨(iv_wide (c := 0) (d := 9) ⟨p337, p338⟩ (by decide) (by decide)).1, (iv_wide (c := 0) (d := 9) ⟨p337, p338⟩ (by decide) (by decide)).2, (show _ ∧ _ from ⟨p339, p340⟩).1, (show _ ∧ _ from ⟨p339, p340⟩).2⟩) [1, 2, 0] (by decide) rfl (Nat.le_of_ble_eq_true rfl) (Nat.le_of_ble_eq_true rfl)
                                              · skip
                                                have k341 : ¬ ((Int32.toInt x0) = 27) := fun h_9 => c330 ((fa_eq x0 27).mpr h_9)
                                                refine r_tableOut 7 202 C dX7_reckonOne_7 (by omega) (by decide) ?_
                                                refine r_aload_n 202 1 C dX7_reckonOne_202 rfl ?_
                                                refine r_aload_n 203 1 C dX7_reckonOne_203 rfl ?_
                                                refine r_iconst 204 0 C dX7_reckonOne_204 (by decide) ?_
                                                refine r_callVl 205 C dX7_reckonOne_205 [.ref h0] [(h0, .inr (6, [.ref h1, .ref h2, .int x1, .int x2])), (h1, .inl (gJ g, 48, .inr (.inl fm0)))] [(h2, .inl (gJ g, 32, .inr (.inl fm1)))] (fun sz => c234_X7_wholeBelow l g h0 h1 0 h2 x1 x2 fm0 i_x1 i_x2 sz) gX7_reckonOne_X7_wholeBelow rfl ⟨rfl, rfl⟩ 1 (by decide) ⟨Nat.le_of_ble_eq_true rfl, Nat.le_of_ble_eq_true rfl⟩ 1 rfl rfl [1, 2] [0] rfl rfl (by decide) (by decide) (by decide) rfl rfl (Nat.le_of_ble_eq_true rfl) ⟨Nat.le_of_ble_eq_true rfl, Nat.le_of_ble_eq_true rfl⟩ (fun r342 _ w343 => ?_)
                                                refine r_ws [(h2, .inl (gJ g, 32, .inr (.inl fm1))), (h0, .inr (6, [.ref h1, .ref h2, .int x1, .int x2])), (h1, .inl (gJ g, 48, .inr (.inl fm0)))] rfl ?_
                                                have gr342 := fb_rngL r342
                                                refine r_callVi 208 C dX7_reckonOne_208 [] [(h0, .inr (6, [.ref h1, .ref h2, .int x1, .int x2])), (h1, .inl (gJ g, 48, .inr (.inl fm0)))] [(h2, .inl (gJ g, 32, .inr (.inl fm1)))] (fun sz => c301_X7_pick l g h0 h1 r342 h2 x1 x2 fm0 i_x1 i_x2 sz) gX7_reckonOne_X7_pick rfl ⟨rfl, rfl⟩ 1 (by decide) ⟨Nat.le_of_ble_eq_true rfl, Nat.le_of_ble_eq_true rfl⟩ 1 rfl rfl [1, 2] [0] rfl rfl (by decide) (by decide) (by decide) rfl rfl (Nat.le_of_ble_eq_true rfl) ⟨Nat.le_of_ble_eq_true rfl, Nat.le_of_ble_eq_true rfl⟩ (fun r346 u348 w347 => ?_)
                                                obtain ⟨z344, f345⟩ := u348
                                                refine r_ws [(h2, .inl (gJ g, 32, .inr (.inl fm1))), (h0, .inr (6, [.ref h1, .ref h2, .int z344, .int x2])), (h1, .inl (gJ g, 48, .inr (.inl f345)))] rfl ?_
                                                have p349 : 0 ≤ (Int32.toInt r346) := w347.1
                                                have p350 : (Int32.toInt r346) ≤ 9 := w347.2.1
                                                have p351 : 0 ≤ (Int32.toInt z344) := w347.2.2.1
                                                have p352 : (Int32.toInt z344) ≤ 48 := w347.2.2.2
                                                exact r_iret 211 Rt dX7_reckonOne_211 (z344, f345) (show 0 ≤ (Int32.toInt r346) ∧ (Int32.toInt r346) ≤ 9 ∧ 0 ≤ (Int32.toInt z344) ∧ (Int32.toInt z344) ≤ 48 from ⟨(show _ ∧ _ from ⟨p349, p350⟩).1, (show _ ∧ _ from ⟨p349, p350⟩).2, (show _ ∧ _ from ⟨p351, p352⟩).1, (show _ ∧ _ from ⟨p351, p352⟩).2⟩) [1, 2, 0] (by decide) rfl (Nat.le_of_ble_eq_true rfl) (Nat.le_of_ble_eq_true rfl)
set_option maxHeartbeats 4000000 in
set_option maxRecDepth 100000 in
theorem c305_J9_floorMod_f86c9 (l : Launch) (g : GD) (y0 : Int64) (y1 : Int64) (i_y1 : (1 ≤ (Int64.toInt y1) ∧ (Int64.toInt y1) ≤ 9223372036854775807)) (sz : Nat) : Met l yJ9_floorMod_f86c9 wsJ9_floorMod_f86c9 ({ frames := 0, cells := 0, slots := 0, locals := 0 }) (va_Pc [.long y0, .long y1] (PW g [] sz)) (va_Ql (fun (r : Int64) (_ : Unit) => True) (BW g (va_A [] sz) (fun _ : Unit => [])) (va_A [] sz)) 0 0 (va_A [] sz) := by
  refine met_lF RJ9 (by decide +kernel) rfl rfl (Nat.le_of_ble_eq_true rfl) [(0, .long y0), (2, .long y1)] rfl ?_
  intro p e s m args below meth c A Q C hnm Rt
  refine r_lload_n 0 0 C dJ9_floorMod_f86c9_0 rfl ?_
  refine r_lload_n 1 1 C dJ9_floorMod_f86c9_1 rfl ?_
  obtain ⟨z1, ez1⟩ : ∃ z_9, y0 - y0 / y1 * y1 = z_9 := ⟨_, rfl⟩
  have gz1 := fb_rngL z1
  refine r_lrem 2 z1 C dJ9_floorMod_f86c9_2 (fun h_9 => by have h_8 : (Int64.toInt y1) = 0 := (fa_eq64 y1 0).mp h_9; omega) ez1 ?_
  refine r_lstore 3 C dJ9_floorMod_f86c9_3 [(4, .long z1), (0, .long y0), (2, .long y1)] (by decide) rfl ?_
  refine r_lload_n 5 1 C dJ9_floorMod_f86c9_5 rfl ?_
  refine r_lload_n 6 2 C dJ9_floorMod_f86c9_6 rfl ?_
  obtain ⟨z2, ez2⟩ : ∃ z_9, y0 ^^^ y1 = z_9 := ⟨_, rfl⟩
  have gz2 := fb_rngL z2
  refine r_lxor 7 z2 C dJ9_floorMod_f86c9_7 ez2 ?_
  refine r_lconst 8 0 C dJ9_floorMod_f86c9_8 (by decide) ?_
  obtain ⟨z3, ez3⟩ : ∃ z_9, lg_cmp z2 0 = z_9 := ⟨_, rfl⟩
  have l1z3 : (Int32.toInt z3) < 0 ↔ (Int64.toInt z2) < 0 := by rw [← ez3]; exact lgI1 z2 0
  have l2z3 : 0 < (Int32.toInt z3) ↔ 0 < (Int64.toInt z2) := by rw [← ez3]; exact lgI2 z2 0
  refine r_lcmp 9 z3 C dJ9_floorMod_f86c9_9 ez3 ?_
  refine r_if_ge 10 25 C dJ9_floorMod_f86c9_10 (by decide) (fun c4 => ?_) (fun c4 => ?_)
  · skip
    have k5 : 0 ≤ (Int32.toInt z3) := (fa_le 0 z3).mp c4
    refine r_lload 25 0 C dJ9_floorMod_f86c9_25 rfl ?_
    exact r_lret 27 Rt dJ9_floorMod_f86c9_27 () trivial [] (by decide) rfl (Nat.le_of_ble_eq_true rfl) (Nat.le_of_ble_eq_true rfl)
  · skip
    have k6 : ¬ (0 ≤ (Int32.toInt z3)) := fun h_9 => c4 ((fa_le 0 z3).mpr h_9)
    refine r_lload 13 0 C dJ9_floorMod_f86c9_13 rfl ?_
    refine r_lconst 15 0 C dJ9_floorMod_f86c9_15 (by decide) ?_
    obtain ⟨z7, ez7⟩ : ∃ z_9, lg_cmp z1 0 = z_9 := ⟨_, rfl⟩
    have l1z7 : (Int32.toInt z7) < 0 ↔ (Int64.toInt z1) < 0 := by rw [← ez7]; exact lgI1 z1 0
    have l2z7 : 0 < (Int32.toInt z7) ↔ 0 < (Int64.toInt z1) := by rw [← ez7]; exact lgI2 z1 0
    refine r_lcmp 16 z7 C dJ9_floorMod_f86c9_16 ez7 ?_
    refine r_if_eq 17 25 C dJ9_floorMod_f86c9_17 (by decide) (fun c8 => ?_) (fun c8 => ?_)
    · skip
      have k9 : (Int32.toInt z7) = 0 := (fa_eq z7 0).mp c8
      refine r_lload 25 0 C dJ9_floorMod_f86c9_25 rfl ?_
      exact r_lret 27 Rt dJ9_floorMod_f86c9_27 () trivial [] (by decide) rfl (Nat.le_of_ble_eq_true rfl) (Nat.le_of_ble_eq_true rfl)
    · skip
      have k10 : ¬ ((Int32.toInt z7) = 0) := fun h_9 => c8 ((fa_eq z7 0).mpr h_9)
      refine r_lload 20 0 C dJ9_floorMod_f86c9_20 rfl ?_
      refine r_lload_n 22 2 C dJ9_floorMod_f86c9_22 rfl ?_
      obtain ⟨z11, ez11⟩ : ∃ z_9, z1 + y1 = z_9 := ⟨_, rfl⟩
      have gz11 := fb_rngL z11
      refine r_ladd 23 z11 C dJ9_floorMod_f86c9_23 ez11 ?_
      exact r_lret 24 Rt dJ9_floorMod_f86c9_24 () trivial [] (by decide) rfl (Nat.le_of_ble_eq_true rfl) (Nat.le_of_ble_eq_true rfl)
set_option maxHeartbeats 4000000 in
set_option maxRecDepth 100000 in
theorem c306_X7_turnRound (l : Launch) (g : GD) (h0 : Nat) (h1 : Nat) (x0 : Int32) (x1 : Int32) (h2 : Nat) (x2 : Int32) (x3 : Int32) (fm0 : Nat → Int64) (i_x2 : (0 ≤ (Int32.toInt x2) ∧ (Int32.toInt x2) ≤ 48)) (i_x3 : (0 ≤ (Int32.toInt x3) ∧ (Int32.toInt x3) ≤ 48)) (sz : Nat) : Met l yX7_turnRound wsX7_turnRound ({ frames := 0, cells := 0, slots := 0, locals := 0 }) (va_Pc [.ref h0, .int x0, .int x1] (PW g [(h0, .inr (6, [.ref h1, .ref h2, .int x2, .int x3])), (h1, .inl (gJ g, 48, .inr (.inl fm0)))] sz)) (va_Qv (fun (u : (Nat → Int64)) => True) (BW g (va_A [(h0, .inr (6, [.ref h1, .ref h2, .int x2, .int x3])), (h1, .inl (gJ g, 48, .inr (.inl fm0)))] sz) (fun u : (Nat → Int64) => [(h0, .inr (6, [.ref h1, .ref h2, .int x2, .int x3])), (h1, .inl (gJ g, 48, .inr (.inl u)))])) (va_A [(h0, .inr (6, [.ref h1, .ref h2, .int x2, .int x3])), (h1, .inl (gJ g, 48, .inr (.inl fm0)))] sz)) 0 0 (va_A [(h0, .inr (6, [.ref h1, .ref h2, .int x2, .int x3])), (h1, .inl (gJ g, 48, .inr (.inl fm0)))] sz) := by
  refine met_v RX7 (by decide) rfl rfl (Nat.le_of_ble_eq_true rfl) [(0, .ref h0), (1, .int x0), (2, .int x1)] rfl ?_
  intro p e s m args below meth c A Q C hnm Rt
  have hiX7 : ∀ w ∈ wsX70, w ∈ wsX7_turnRound := fun w h => List.mem_cons_of_mem _ (List.mem_append_right _ (h))
  refine r_iload_n 0 1 C dX7_turnRound_0 rfl ?_
  refine r_istore_n 1 C dX7_turnRound_1 [(3, .int x0), (0, .ref h0), (1, .int x0), (2, .int x1)] (by decide) rfl ?_
  refine r_iload_n 2 3 C dX7_turnRound_2 rfl ?_
  refine r_iconst 3 1 C dX7_turnRound_3 (by decide) ?_
  obtain ⟨z1, ez1⟩ : ∃ z_9, x1 - 1 = z_9 := ⟨_, rfl⟩
  have gz1 := fb_rng z1
  refine r_isub 4 z1 C dX7_turnRound_4 ez1 ?_
  refine r_istore 5 C dX7_turnRound_5 [(4, .int z1), (3, .int x0), (0, .ref h0), (1, .int x0), (2, .int x1)] (by decide) rfl ?_
  have lp6 : ∀ (n5 : Nat) (z2 : Int32) (z3 : Int32) (f4 : Nat → Int64), Int.toNat ((Int32.toInt z2) - (-2147483648)) < n5 → WW p l e ({ frames := 0, cells := 0, slots := 0, locals := 0 } : Room) s m args below meth c A Q g 7 0 0 [(h0, .inr (6, [.ref h1, .ref h2, .int x2, .int x3])), (h1, .inl (gJ g, 48, .inr (.inl f4)))] 7 [(4, .int z2), (3, .int z3), (0, .ref h0), (1, .int x0), (2, .int x1)] [] := by
    intro n5
    induction n5 with
    | zero => intro z2 z3 f4  hm8; exact absurd hm8 (Nat.not_lt_zero _)
    | succ n5 ih7 =>
      intro z2 z3 f4  hm8
      have gz2 := fb_rng z2
      have gz3 := fb_rng z3
      refine r_iload_n 7 1 C dX7_turnRound_7 rfl ?_
      refine r_if_lt 8 65 C dX7_turnRound_8 (by decide) (fun c9 => ?_) (fun c9 => ?_)
      · skip
        have k10 : (Int32.toInt z3) < 0 := (fa_lt z3 0).mp c9
        exact r_vret 65 Rt dX7_turnRound_65 f4 trivial [0, 1] (by decide) rfl (Nat.le_of_ble_eq_true rfl) (Nat.le_of_ble_eq_true rfl)
      · skip
        have k11 : ¬ ((Int32.toInt z3) < 0) := fun h_9 => c9 ((fa_lt z3 0).mpr h_9)
        refine r_iload_n 11 1 C dX7_turnRound_11 rfl ?_
        refine r_iload 12 0 C dX7_turnRound_12 rfl ?_
        refine r_icmp_ge 14 65 C dX7_turnRound_14 (by decide) (fun c12 => ?_) (fun c12 => ?_)
        · skip
          have k13 : (Int32.toInt z2) ≤ (Int32.toInt z3) := (fa_le z2 z3).mp c12
          exact r_vret 65 Rt dX7_turnRound_65 f4 trivial [0, 1] (by decide) rfl (Nat.le_of_ble_eq_true rfl) (Nat.le_of_ble_eq_true rfl)
        · skip
          have k14 : ¬ ((Int32.toInt z2) ≤ (Int32.toInt z3)) := fun h_9 => c12 ((fa_le z2 z3).mpr h_9)
          refine r_iload 17 0 C dX7_turnRound_17 rfl ?_
          refine r_aload_n 19 2 C dX7_turnRound_19 rfl ?_
          refine r_get 20 C dX7_turnRound_20 (k := 2) 0 rfl rfl hiX7 (by decide) rfl (mg 1 rfl) (Or.inl rfl) rfl ?_
          refine r_icmp_ge 23 65 C dX7_turnRound_23 (by decide) (fun c15 => ?_) (fun c15 => ?_)
          · skip
            have k16 : (Int32.toInt x2) ≤ (Int32.toInt z2) := (fa_le x2 z2).mp c15
            exact r_vret 65 Rt dX7_turnRound_65 f4 trivial [0, 1] (by decide) rfl (Nat.le_of_ble_eq_true rfl) (Nat.le_of_ble_eq_true rfl)
          · skip
            have k17 : ¬ ((Int32.toInt x2) ≤ (Int32.toInt z2)) := fun h_9 => c15 ((fa_le x2 z2).mpr h_9)
            refine r_aload_n 26 2 C dX7_turnRound_26 rfl ?_
            refine r_get 27 C dX7_turnRound_27 (k := 0) 0 rfl rfl hiX7 (by decide) rfl (mg 2 rfl) (Or.inl rfl) rfl ?_
            refine r_iload_n 30 1 C dX7_turnRound_30 rfl ?_
            obtain ⟨z18, ez18⟩ : ∃ z_9, f4 (Int32.toNatClampNeg z3) = z_9 := ⟨_, rfl⟩
            refine r_lald 31 z18 C dX7_turnRound_31 1 rfl (vinI (by omega) (by omega)) ez18 ?_
            have gz18 := fb_rngL z18
            refine r_lstore 32 C dX7_turnRound_32 [(5, .long z18), (4, .int z2), (3, .int z3), (0, .ref h0), (1, .int x0), (2, .int x1)] (by decide) rfl ?_
            refine r_aload_n 34 3 C dX7_turnRound_34 rfl ?_
            refine r_get 35 C dX7_turnRound_35 (k := 0) 0 rfl rfl hiX7 (by decide) rfl (mg 2 rfl) (Or.inl rfl) rfl ?_
            refine r_iload_n 38 2 C dX7_turnRound_38 rfl ?_
            refine r_aload_n 39 3 C dX7_turnRound_39 rfl ?_
            refine r_get 40 C dX7_turnRound_40 (k := 0) 0 rfl rfl hiX7 (by decide) rfl (mg 2 rfl) (Or.inl rfl) rfl ?_
            refine r_iload 43 1 C dX7_turnRound_43 rfl ?_
            obtain ⟨z19, ez19⟩ : ∃ z_9, f4 (Int32.toNatClampNeg z2) = z_9 := ⟨_, rfl⟩
            refine r_lald 45 z19 C dX7_turnRound_45 1 rfl (vinI (by omega) (by omega)) ez19 ?_
            have gz19 := fb_rngL z19
            obtain ⟨f20, ef20⟩ : ∃ f_9, vp_updL f4 (Int32.toNatClampNeg z3) z19 = f_9 := ⟨_, rfl⟩
            refine r_last 46 C dX7_turnRound_46 1 rfl (vinI (by omega) (by omega)) f20 ef20 [(h0, .inr (6, [.ref h1, .ref h2, .int x2, .int x3])), (h1, .inl (gJ g, 48, .inr (.inl f20)))] rfl ?_
            refine r_aload_n 47 3 C dX7_turnRound_47 rfl ?_
            refine r_get 48 C dX7_turnRound_48 (k := 0) 0 rfl rfl hiX7 (by decide) rfl (mg 2 rfl) (Or.inl rfl) rfl ?_
            refine r_iload 51 1 C dX7_turnRound_51 rfl ?_
            refine r_lload 53 0 C dX7_turnRound_53 rfl ?_
            obtain ⟨f21, ef21⟩ : ∃ f_9, vp_updL f20 (Int32.toNatClampNeg z2) z18 = f_9 := ⟨_, rfl⟩
            refine r_last 55 C dX7_turnRound_55 1 rfl (vinI (by omega) (by omega)) f21 ef21 [(h0, .inr (6, [.ref h1, .ref h2, .int x2, .int x3])), (h1, .inl (gJ g, 48, .inr (.inl f21)))] rfl ?_
            obtain ⟨z22, ez22⟩ : ∃ z_9, z3 + Int32.ofInt 1 = z_9 := ⟨_, rfl⟩
            have tz22 : (Int32.toInt z22) = (Int32.toInt z3) + 1 := by rw [← ez22]; exact fb_addI (by show -2147483648 ≤ (Int32.toInt z3) + 1; omega) (by show (Int32.toInt z3) + 1 < 2147483648; omega)
            refine r_iinc 56 2 z22 C dX7_turnRound_56 rfl ez22 [(3, .int z22), (5, .long z18), (4, .int z2), (0, .ref h0), (1, .int x0), (2, .int x1)] (by decide) rfl ?_
            obtain ⟨z23, ez23⟩ : ∃ z_9, z2 + Int32.ofInt (-1) = z_9 := ⟨_, rfl⟩
            have tz23 : (Int32.toInt z23) = (Int32.toInt z2) + (-1) := by rw [← ez23]; exact fb_addI (by show -2147483648 ≤ (Int32.toInt z2) + (-1); omega) (by show (Int32.toInt z2) + (-1) < 2147483648; omega)
            refine r_iinc 59 2 z23 C dX7_turnRound_59 rfl ez23 [(4, .int z23), (3, .int z22), (5, .long z18), (0, .ref h0), (1, .int x0), (2, .int x1)] (by decide) rfl ?_
            refine r_goto 62 7 C dX7_turnRound_62 (by decide) ?_
            refine r_lv [(4, .int z23), (3, .int z22), (0, .ref h0), (1, .int x0), (2, .int x1)] [0, 1, 3, 4, 5] rfl ?_
            exact ih7 z23 z22 f21  (by omega)
  exact lp6 _ z1 x0 fm0  (Nat.lt_succ_self _)
set_option maxHeartbeats 4000000 in
set_option maxRecDepth 100000 in
theorem c307_X7_roll (l : Launch) (g : GD) (h0 : Nat) (h1 : Nat) (y0 : Int64) (y1 : Int64) (h2 : Nat) (x0 : Int32) (x1 : Int32) (fm0 : Nat → Int64) (i_x0 : (0 ≤ (Int32.toInt x0) ∧ (Int32.toInt x0) ≤ 48)) (i_x1 : (0 ≤ (Int32.toInt x1) ∧ (Int32.toInt x1) ≤ 48)) (sz : Nat) : Met l yX7_roll wsX7_roll ({ frames := 1, cells := 0, slots := 0, locals := 26 }) (va_Pc [.ref h0, .long y0, .long y1] (PW g [(h0, .inr (6, [.ref h1, .ref h2, .int x0, .int x1])), (h1, .inl (gJ g, 48, .inr (.inl fm0)))] sz)) (va_Qi (fun (r : Int32) (u : (Int32) × (Nat → Int64)) => 0 ≤ (Int32.toInt r) ∧ (Int32.toInt r) ≤ 9 ∧ 0 ≤ (Int32.toInt (u.1)) ∧ (Int32.toInt (u.1)) ≤ 48) (BW g (va_A [(h0, .inr (6, [.ref h1, .ref h2, .int x0, .int x1])), (h1, .inl (gJ g, 48, .inr (.inl fm0)))] sz) (fun u : (Int32) × (Nat → Int64) => [(h0, .inr (6, [.ref h1, .ref h2, .int u.1, .int x1])), (h1, .inl (gJ g, 48, .inr (.inl u.2)))])) (va_A [(h0, .inr (6, [.ref h1, .ref h2, .int x0, .int x1])), (h1, .inl (gJ g, 48, .inr (.inl fm0)))] sz)) 0 0 (va_A [(h0, .inr (6, [.ref h1, .ref h2, .int x0, .int x1])), (h1, .inl (gJ g, 48, .inr (.inl fm0)))] sz) := by
  refine met_i RX7 (by decide) rfl rfl (Nat.le_of_ble_eq_true rfl) [(0, .ref h0), (1, .long y0), (3, .long y1)] rfl ?_
  intro p e s m args below meth c A Q C hnm Rt
  have gy0 := fb_rngL y0
  have hiX7 : ∀ w ∈ wsX70, w ∈ wsX7_roll := fun w h => List.mem_cons_of_mem _ (List.mem_append_right _ (h))
  refine r_lload_n 0 1 C dX7_roll_0 rfl ?_
  refine r_lconst 1 0 C dX7_roll_1 (by decide) ?_
  obtain ⟨z1, ez1⟩ : ∃ z_9, lg_cmp y0 0 = z_9 := ⟨_, rfl⟩
  have l1z1 : (Int32.toInt z1) < 0 ↔ (Int64.toInt y0) < 0 := by rw [← ez1]; exact lgI1 y0 0
  have l2z1 : 0 < (Int32.toInt z1) ↔ 0 < (Int64.toInt y0) := by rw [← ez1]; exact lgI2 y0 0
  refine r_lcmp 2 z1 C dX7_roll_2 ez1 ?_
  refine r_if_ge 3 9 C dX7_roll_3 (by decide) (fun c2 => ?_) (fun c2 => ?_)
  · skip
    have k3 : 0 ≤ (Int32.toInt z1) := (fa_le 0 z1).mp c2
    refine r_lload_n 9 1 C dX7_roll_9 rfl ?_
    refine r_aload_n 10 0 C dX7_roll_10 rfl ?_
    refine r_get 11 C dX7_roll_11 (k := 2) 0 rfl rfl hiX7 (by decide) rfl (mg 1 rfl) (Or.inl rfl) rfl ?_
    refine r_iconst 14 2 C dX7_roll_14 (by decide) ?_
    obtain ⟨z4, ez4⟩ : ∃ z_9, x0 - 2 = z_9 := ⟨_, rfl⟩
    have tz4 : (Int32.toInt z4) = (Int32.toInt x0) - 2 := by rw [← ez4]; exact fb_subIv (a := 0) (b := 48) (c := 2) (d := 2) i_x0 ⟨by decide, by decide⟩ (by decide) (by decide)
    refine r_isub 15 z4 C dX7_roll_15 ez4 ?_
    obtain ⟨z5, ez5⟩ : ∃ z_9, Int32.toInt64 z4 = z_9 := ⟨_, rfl⟩
    have tz5 : (Int64.toInt z5) = (Int32.toInt z4) := by rw [← ez5]; exact Int32.toInt_toInt64 _
    refine r_i2l 16 z5 C dX7_roll_16 ez5 ?_
    obtain ⟨z6, ez6⟩ : ∃ z_9, lg_cmp y0 z5 = z_9 := ⟨_, rfl⟩
    have l1z6 : (Int32.toInt z6) < 0 ↔ (Int64.toInt y0) < (Int64.toInt z5) := by rw [← ez6]; exact lgI1 y0 z5
    have l2z6 : 0 < (Int32.toInt z6) ↔ (Int64.toInt z5) < (Int64.toInt y0) := by rw [← ez6]; exact lgI2 y0 z5
    refine r_lcmp 17 z6 C dX7_roll_17 ez6 ?_
    refine r_if_le 18 23 C dX7_roll_18 (by decide) (fun c7 => ?_) (fun c7 => ?_)
    · skip
      have k8 : (Int32.toInt z6) ≤ 0 := (fa_le z6 0).mp c7
      refine r_aload_n 23 0 C dX7_roll_23 rfl ?_
      refine r_iconst 24 2 C dX7_roll_24 (by decide) ?_
      refine r_callVv 25 C dX7_roll_25 [] [(h0, .inr (6, [.ref h1, .ref h2, .int x0, .int x1]))] [(h1, .inl (gJ g, 48, .inr (.inl fm0)))] (fun sz => c235_X7_drop l g h0 2 h1 h2 x0 x1 i_x0 i_x1 sz) gX7_roll_X7_drop rfl ⟨rfl, rfl⟩ 1 (by decide) ⟨Nat.le_of_ble_eq_true rfl, Nat.le_of_ble_eq_true rfl⟩ 0 rfl rfl [0] [1] rfl rfl (by decide) (by decide) (by decide) rfl rfl (Nat.le_of_ble_eq_true rfl) ⟨Nat.le_of_ble_eq_true rfl, Nat.le_of_ble_eq_true rfl⟩ (fun  z9 w10 => ?_)
      refine r_ws [(h1, .inl (gJ g, 48, .inr (.inl fm0))), (h0, .inr (6, [.ref h1, .ref h2, .int z9, .int x1]))] rfl ?_
      have p11 : 0 ≤ (Int32.toInt z9) := w10.1
      have p12 : (Int32.toInt z9) ≤ 48 := w10.2
      refine r_lload_n 28 1 C dX7_roll_28 rfl ?_
      refine r_lconst 29 0 C dX7_roll_29 (by decide) ?_
      obtain ⟨z13, ez13⟩ : ∃ z_9, lg_cmp y0 0 = z_9 := ⟨_, rfl⟩
      have l1z13 : (Int32.toInt z13) < 0 ↔ (Int64.toInt y0) < 0 := by rw [← ez13]; exact lgI1 y0 0
      have l2z13 : 0 < (Int32.toInt z13) ↔ 0 < (Int64.toInt y0) := by rw [← ez13]; exact lgI2 y0 0
      refine r_lcmp 30 z13 C dX7_roll_30 ez13 ?_
      refine r_if_le 31 82 C dX7_roll_31 (by decide) (fun c14 => ?_) (fun c14 => ?_)
      · skip
        have k15 : (Int32.toInt z13) ≤ 0 := (fa_le z13 0).mp c14
        refine r_iconst 82 0 C dX7_roll_82 (by decide) ?_
        exact r_iret 83 Rt dX7_roll_83 (z9, fm0) (show 0 ≤ (Int32.toInt 0) ∧ (Int32.toInt 0) ≤ 9 ∧ 0 ≤ (Int32.toInt z9) ∧ (Int32.toInt z9) ≤ 48 from ⟨(by ((repeat' apply And.intro) <;> first | trivial | rfl | assumption | omega | decide | exact Or.inl rfl | exact Or.inr (Or.inl rfl) | exact Or.inr (Or.inr rfl))), (by ((repeat' apply And.intro) <;> first | trivial | rfl | assumption | omega | decide | exact Or.inl rfl | exact Or.inr (Or.inl rfl) | exact Or.inr (Or.inr rfl))), (show _ ∧ _ from ⟨p11, p12⟩).1, (show _ ∧ _ from ⟨p11, p12⟩).2⟩) [1, 0] (by decide) rfl (Nat.le_of_ble_eq_true rfl) (Nat.le_of_ble_eq_true rfl)
      · skip
        have k16 : ¬ ((Int32.toInt z13) ≤ 0) := fun h_9 => c14 ((fa_le z13 0).mpr h_9)
        refine r_aload_n 34 0 C dX7_roll_34 rfl ?_
        refine r_get 35 C dX7_roll_35 (k := 2) 1 rfl rfl hiX7 (by decide) rfl (mg 1 rfl) (Or.inl rfl) rfl ?_
        refine r_lload_n 38 1 C dX7_roll_38 rfl ?_
        obtain ⟨z17, ez17⟩ : ∃ z_9, Int64.toInt32 y0 = z_9 := ⟨_, rfl⟩
        have tz17 : (Int32.toInt z17) = (Int64.toInt y0) := by rw [← ez17]; exact l2i_in (by omega) (by omega)
        refine r_l2i 39 z17 C dX7_roll_39 ez17 ?_
        obtain ⟨z18, ez18⟩ : ∃ z_9, z9 - z17 = z_9 := ⟨_, rfl⟩
        have tz18 : (Int32.toInt z18) = (Int32.toInt z9) - (Int32.toInt z17) := by rw [← ez18]; exact fb_subI (by show -2147483648 ≤ (Int32.toInt z9) - (Int32.toInt z17); omega) (by show (Int32.toInt z9) - (Int32.toInt z17) < 2147483648; omega)
        refine r_isub 40 z18 C dX7_roll_40 ez18 ?_
        refine r_istore 41 C dX7_roll_41 [(5, .int z18), (0, .ref h0), (1, .long y0), (3, .long y1)] (by decide) rfl ?_
        refine r_iload 43 0 C dX7_roll_43 rfl ?_
        refine r_lload_n 45 3 C dX7_roll_45 rfl ?_
        refine r_lload_n 46 2 C dX7_roll_46 rfl ?_
        refine r_callSl 47 C dX7_roll_47 [.int z18] [] [(h1, .inl (gJ g, 48, .inr (.inl fm0))), (h0, .inr (6, [.ref h1, .ref h2, .int z9, .int x1]))] (fun sz => c305_J9_floorMod_f86c9 l g y1 y0 ⟨by omega, by omega⟩ sz) gX7_roll_J9_floorMod_f86c9 rfl ⟨rfl, rfl⟩ 2 (by decide) ⟨Nat.le_of_ble_eq_true rfl, Nat.le_of_ble_eq_true rfl⟩ [] [0, 1] rfl rfl (by decide) (by decide) (by decide) rfl rfl (Nat.le_of_ble_eq_true rfl) ⟨Nat.le_of_ble_eq_true rfl, Nat.le_of_ble_eq_true rfl⟩ (fun r19 _ w20 => ?_)
        refine r_ws [(h1, .inl (gJ g, 48, .inr (.inl fm0))), (h0, .inr (6, [.ref h1, .ref h2, .int z9, .int x1]))] rfl ?_
        have gr19 := fb_rngL r19
        obtain ⟨z21, ez21⟩ : ∃ z_9, Int64.toInt32 r19 = z_9 := ⟨_, rfl⟩
        have gz21 := fb_rng z21
        refine r_l2i 50 z21 C dX7_roll_50 ez21 ?_
        obtain ⟨z22, ez22⟩ : ∃ z_9, z18 + z21 = z_9 := ⟨_, rfl⟩
        have gz22 := fb_rng z22
        refine r_iadd 51 z22 C dX7_roll_51 ez22 ?_
        refine r_istore 52 C dX7_roll_52 [(6, .int z22), (5, .int z18), (0, .ref h0), (1, .long y0), (3, .long y1)] (by decide) rfl ?_
        refine r_aload_n 54 2 C dX7_roll_54 rfl ?_
        refine r_iload 55 1 C dX7_roll_55 rfl ?_
        refine r_aload_n 57 2 C dX7_roll_57 rfl ?_
        refine r_get 58 C dX7_roll_58 (k := 2) 1 rfl rfl hiX7 (by decide) rfl (mg 1 rfl) (Or.inl rfl) rfl ?_
        refine r_callVv 61 C dX7_roll_61 [] [(h0, .inr (6, [.ref h1, .ref h2, .int z9, .int x1])), (h1, .inl (gJ g, 48, .inr (.inl fm0)))] [] (fun sz => c306_X7_turnRound l g h0 h1 z18 z9 h2 z9 x1 fm0 ⟨p11, p12⟩ i_x1 sz) gX7_roll_X7_turnRound rfl ⟨rfl, rfl⟩ 2 (by decide) ⟨Nat.le_of_ble_eq_true rfl, Nat.le_of_ble_eq_true rfl⟩ 1 rfl rfl [1, 0] [] rfl rfl (by decide) (by decide) (by decide) rfl rfl (Nat.le_of_ble_eq_true rfl) ⟨Nat.le_of_ble_eq_true rfl, Nat.le_of_ble_eq_true rfl⟩ (fun  f23 w24 => ?_)
        refine r_ws [(h0, .inr (6, [.ref h1, .ref h2, .int z9, .int x1])), (h1, .inl (gJ g, 48, .inr (.inl f23)))] rfl ?_
        refine r_aload_n 64 2 C dX7_roll_64 rfl ?_
        refine r_iload 65 1 C dX7_roll_65 rfl ?_
        refine r_iload 67 0 C dX7_roll_67 rfl ?_
        refine r_callVv 69 C dX7_roll_69 [] [(h0, .inr (6, [.ref h1, .ref h2, .int z9, .int x1])), (h1, .inl (gJ g, 48, .inr (.inl f23)))] [] (fun sz => c306_X7_turnRound l g h0 h1 z18 z22 h2 z9 x1 f23 ⟨p11, p12⟩ i_x1 sz) gX7_roll_X7_turnRound rfl ⟨rfl, rfl⟩ 2 (by decide) ⟨Nat.le_of_ble_eq_true rfl, Nat.le_of_ble_eq_true rfl⟩ 0 rfl rfl [0, 1] [] rfl rfl (by decide) (by decide) (by decide) rfl rfl (Nat.le_of_ble_eq_true rfl) ⟨Nat.le_of_ble_eq_true rfl, Nat.le_of_ble_eq_true rfl⟩ (fun  f25 w26 => ?_)
        refine r_ws [(h0, .inr (6, [.ref h1, .ref h2, .int z9, .int x1])), (h1, .inl (gJ g, 48, .inr (.inl f25)))] rfl ?_
        refine r_aload_n 72 2 C dX7_roll_72 rfl ?_
        refine r_iload 73 0 C dX7_roll_73 rfl ?_
        refine r_aload_n 75 2 C dX7_roll_75 rfl ?_
        refine r_get 76 C dX7_roll_76 (k := 2) 0 rfl rfl hiX7 (by decide) rfl (mg 1 rfl) (Or.inl rfl) rfl ?_
        refine r_callVv 79 C dX7_roll_79 [] [(h0, .inr (6, [.ref h1, .ref h2, .int z9, .int x1])), (h1, .inl (gJ g, 48, .inr (.inl f25)))] [] (fun sz => c306_X7_turnRound l g h0 h1 z22 z9 h2 z9 x1 f25 ⟨p11, p12⟩ i_x1 sz) gX7_roll_X7_turnRound rfl ⟨rfl, rfl⟩ 2 (by decide) ⟨Nat.le_of_ble_eq_true rfl, Nat.le_of_ble_eq_true rfl⟩ 0 rfl rfl [0, 1] [] rfl rfl (by decide) (by decide) (by decide) rfl rfl (Nat.le_of_ble_eq_true rfl) ⟨Nat.le_of_ble_eq_true rfl, Nat.le_of_ble_eq_true rfl⟩ (fun  f27 w28 => ?_)
        refine r_ws [(h0, .inr (6, [.ref h1, .ref h2, .int z9, .int x1])), (h1, .inl (gJ g, 48, .inr (.inl f27)))] rfl ?_
        refine r_iconst 82 0 C dX7_roll_82 (by decide) ?_
        exact r_iret 83 Rt dX7_roll_83 (z9, f27) (show 0 ≤ (Int32.toInt 0) ∧ (Int32.toInt 0) ≤ 9 ∧ 0 ≤ (Int32.toInt z9) ∧ (Int32.toInt z9) ≤ 48 from ⟨(by ((repeat' apply And.intro) <;> first | trivial | rfl | assumption | omega | decide | exact Or.inl rfl | exact Or.inr (Or.inl rfl) | exact Or.inr (Or.inr rfl))), (by ((repeat' apply And.intro) <;> first | trivial | rfl | assumption | omega | decide | exact Or.inl rfl | exact Or.inr (Or.inl rfl) | exact Or.inr (Or.inr rfl))), (show _ ∧ _ from ⟨p11, p12⟩).1, (show _ ∧ _ from ⟨p11, p12⟩).2⟩) [0, 1] (by decide) rfl (Nat.le_of_ble_eq_true rfl) (Nat.le_of_ble_eq_true rfl)
    · skip
      have k29 : ¬ ((Int32.toInt z6) ≤ 0) := fun h_9 => c7 ((fa_le z6 0).mpr h_9)
      refine r_iconst 21 2 C dX7_roll_21 (by decide) ?_
      exact r_iret 22 Rt dX7_roll_22 (x0, fm0) (show 0 ≤ (Int32.toInt 2) ∧ (Int32.toInt 2) ≤ 9 ∧ 0 ≤ (Int32.toInt x0) ∧ (Int32.toInt x0) ≤ 48 from ⟨(by ((repeat' apply And.intro) <;> first | trivial | rfl | assumption | omega | decide | exact Or.inl rfl | exact Or.inr (Or.inl rfl) | exact Or.inr (Or.inr rfl))), (by ((repeat' apply And.intro) <;> first | trivial | rfl | assumption | omega | decide | exact Or.inl rfl | exact Or.inr (Or.inl rfl) | exact Or.inr (Or.inr rfl))), i_x0.1, i_x0.2⟩) [0, 1] (by decide) rfl (Nat.le_of_ble_eq_true rfl) (Nat.le_of_ble_eq_true rfl)
  · skip
    have k30 : ¬ (0 ≤ (Int32.toInt z1)) := fun h_9 => c2 ((fa_le 0 z1).mpr h_9)
    refine r_bipush 6 9 C dX7_roll_6 (by decide) ?_
    exact r_iret 8 Rt dX7_roll_8 (x0, fm0) (show 0 ≤ (Int32.toInt 9) ∧ (Int32.toInt 9) ≤ 9 ∧ 0 ≤ (Int32.toInt x0) ∧ (Int32.toInt x0) ≤ 48 from ⟨(by ((repeat' apply And.intro) <;> first | trivial | rfl | assumption | omega | decide | exact Or.inl rfl | exact Or.inr (Or.inl rfl) | exact Or.inr (Or.inr rfl))), (by ((repeat' apply And.intro) <;> first | trivial | rfl | assumption | omega | decide | exact Or.inl rfl | exact Or.inr (Or.inl rfl) | exact Or.inr (Or.inr rfl))), i_x0.1, i_x0.2⟩) [0, 1] (by decide) rfl (Nat.le_of_ble_eq_true rfl) (Nat.le_of_ble_eq_true rfl)
