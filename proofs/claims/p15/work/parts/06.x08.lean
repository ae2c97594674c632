set_option maxHeartbeats 4000000 in
set_option maxRecDepth 100000 in
theorem c247_X9_endFlex (l : Launch) (g : GD) (h0 : Nat) (h1 : Nat) (h2 : Nat) (h3 : Nat) (h4 : Nat) (h5 : Nat) (h6 : Nat) (h7 : Nat) (h8 : Nat) (h9 : Nat) (x0 : Int32) (x1 : Int32) (y0 : Int64) (x2 : Int32) (x3 : Int32) (x4 : Int32) (x5 : Int32) (h10 : Nat) (h11 : Nat) (h12 : Nat) (x6 : Int32) (x7 : Int32) (x8 : Int32) (x9 : Int32) (h13 : Nat) (x10 : Int32) (x11 : Int32) (x12 : Int32) (x13 : Int32) (y1 : Int64) (y2 : Int64) (x14 : Int32) (fm0 : Nat → Int64) (fm1 : Nat → Int64) (fm2 : Nat → Int64) (fm3 : Nat → Int64) (fn0 : Nat → Int32) (fm4 : Nat → Int64) (i_x5 : (0 ≤ (Int32.toInt x5) ∧ (Int32.toInt x5) ≤ 1)) (i_x6 : (0 ≤ (Int32.toInt x6) ∧ (Int32.toInt x6) ≤ 10)) (i_x7 : (0 ≤ (Int32.toInt x7) ∧ (Int32.toInt x7) ≤ 1)) (i_x8 : (0 ≤ (Int32.toInt x8) ∧ (Int32.toInt x8) ≤ 7)) (i_x9 : (0 ≤ (Int32.toInt x9) ∧ (Int32.toInt x9) ≤ 24)) (i_x10 : (0 ≤ (Int32.toInt x10) ∧ (Int32.toInt x10) ≤ 48)) (i_x11 : (0 ≤ (Int32.toInt x11) ∧ (Int32.toInt x11) ≤ 48)) (i_x12 : (0 ≤ (Int32.toInt x12) ∧ (Int32.toInt x12) ≤ 400)) (i_x13 : (0 ≤ (Int32.toInt x13) ∧ (Int32.toInt x13) ≤ 400)) (i_x14 : (0 ≤ (Int32.toInt x14) ∧ (Int32.toInt x14) ≤ 1)) (sz : Nat) : Met l yX9_endFlex wsX9_endFlex ({ frames := 2, cells := 0, slots := 0, locals := 55 }) (va_Pc [.ref h0] (PW g [(h0, .inr (8, [.ref h1, .ref h2, .ref h9, .int x0, .int x1, .long y0, .int x2, .int x3, .int x4, .int x5, .ref h10, .ref h11, .ref h12, .int x6, .int x7, .ref h3, .ref h4, .int x8, .ref h5, .int x9])), (h1, .inr (6, [.ref h6, .ref h13, .int x10, .int x11])), (h2, .inr (5, [.ref h7, .ref h8, .int x12, .int x13, .long y1, .long y2, .int x14])), (h3, .inl (gJ g, 7, .inr (.inl fm0))), (h4, .inl (gJ g, 7, .inr (.inl fm1))), (h5, .inl (gJ g, 24, .inr (.inl fm2))), (h6, .inl (gJ g, 48, .inr (.inl fm3))), (h7, .inl (gB g, 400, .inl fn0)), (h8, .inl (gJ g, 2400, .inr (.inl fm4)))] sz)) (va_Qi (fun (r : Int32) (u : (Int32) × (Int32) × (Int32) × (Int64) × (Int64) × (Int32) × (Nat → Int64) × (Nat → Int32) × (Nat → Int64)) => 0 ≤ (Int32.toInt r) ∧ (Int32.toInt r) ≤ 9 ∧ 0 ≤ (Int32.toInt (u.1)) ∧ (Int32.toInt (u.1)) ≤ 1 ∧ 0 ≤ (Int32.toInt (u.2.1)) ∧ (Int32.toInt (u.2.1)) ≤ 24 ∧ 0 ≤ (Int32.toInt (u.2.2.1)) ∧ (Int32.toInt (u.2.2.1)) ≤ 400 ∧ 0 ≤ (Int32.toInt (u.2.2.2.2.2.1)) ∧ (Int32.toInt (u.2.2.2.2.2.1)) ≤ 1) (BW g (va_A [(h0, .inr (8, [.ref h1, .ref h2, .ref h9, .int x0, .int x1, .long y0, .int x2, .int x3, .int x4, .int x5, .ref h10, .ref h11, .ref h12, .int x6, .int x7, .ref h3, .ref h4, .int x8, .ref h5, .int x9])), (h1, .inr (6, [.ref h6, .ref h13, .int x10, .int x11])), (h2, .inr (5, [.ref h7, .ref h8, .int x12, .int x13, .long y1, .long y2, .int x14])), (h3, .inl (gJ g, 7, .inr (.inl fm0))), (h4, .inl (gJ g, 7, .inr (.inl fm1))), (h5, .inl (gJ g, 24, .inr (.inl fm2))), (h6, .inl (gJ g, 48, .inr (.inl fm3))), (h7, .inl (gB g, 400, .inl fn0)), (h8, .inl (gJ g, 2400, .inr (.inl fm4)))] sz) (fun u : (Int32) × (Int32) × (Int32) × (Int64) × (Int64) × (Int32) × (Nat → Int64) × (Nat → Int32) × (Nat → Int64) => [(h0, .inr (8, [.ref h1, .ref h2, .ref h9, .int x0, .int x1, .long y0, .int x2, .int x3, .int x4, .int x5, .ref h10, .ref h11, .ref h12, .int x6, .int u.1, .ref h3, .ref h4, .int x8, .ref h5, .int u.2.1])), (h1, .inr (6, [.ref h6, .ref h13, .int x10, .int x11])), (h2, .inr (5, [.ref h7, .ref h8, .int u.2.2.1, .int x13, .long u.2.2.2.1, .long u.2.2.2.2.1, .int u.2.2.2.2.2.1])), (h3, .inl (gJ g, 7, .inr (.inl fm0))), (h4, .inl (gJ g, 7, .inr (.inl fm1))), (h5, .inl (gJ g, 24, .inr (.inl u.2.2.2.2.2.2.1))), (h6, .inl (gJ g, 48, .inr (.inl fm3))), (h7, .inl (gB g, 400, .inl u.2.2.2.2.2.2.2.1)), (h8, .inl (gJ g, 2400, .inr (.inl u.2.2.2.2.2.2.2.2)))])) (va_A [(h0, .inr (8, [.ref h1, .ref h2, .ref h9, .int x0, .int x1, .long y0, .int x2, .int x3, .int x4, .int x5, .ref h10, .ref h11, .ref h12, .int x6, .int x7, .ref h3, .ref h4, .int x8, .ref h5, .int x9])), (h1, .inr (6, [.ref h6, .ref h13, .int x10, .int x11])), (h2, .inr (5, [.ref h7, .ref h8, .int x12, .int x13, .long y1, .long y2, .int x14])), (h3, .inl (gJ g, 7, .inr (.inl fm0))), (h4, .inl (gJ g, 7, .inr (.inl fm1))), (h5, .inl (gJ g, 24, .inr (.inl fm2))), (h6, .inl (gJ g, 48, .inr (.inl fm3))), (h7, .inl (gB g, 400, .inl fn0)), (h8, .inl (gJ g, 2400, .inr (.inl fm4)))] sz)) 0 0 (va_A [(h0, .inr (8, [.ref h1, .ref h2, .ref h9, .int x0, .int x1, .long y0, .int x2, .int x3, .int x4, .int x5, .ref h10, .ref h11, .ref h12, .int x6, .int x7, .ref h3, .ref h4, .int x8, .ref h5, .int x9])), (h1, .inr (6, [.ref h6, .ref h13, .int x10, .int x11])), (h2, .inr (5, [.ref h7, .ref h8, .int x12, .int x13, .long y1, .long y2, .int x14])), (h3, .inl (gJ g, 7, .inr (.inl fm0))), (h4, .inl (gJ g, 7, .inr (.inl fm1))), (h5, .inl (gJ g, 24, .inr (.inl fm2))), (h6, .inl (gJ g, 48, .inr (.inl fm3))), (h7, .inl (gB g, 400, .inl fn0)), (h8, .inl (gJ g, 2400, .inr (.inl fm4)))] sz) := by
  refine met_i RX9 (by decide) rfl rfl (Nat.le_of_ble_eq_true rfl) [(0, .ref h0)] rfl ?_
  intro p e s m args below meth c A Q C hnm Rt
  have hiX9 : ∀ w ∈ wsX90, w ∈ wsX9_endFlex := fun w h => List.mem_cons_of_mem _ (List.mem_append_left _ (List.mem_append_left _ (List.mem_append_left _ (List.mem_append_right _ (h)))))
  have hiX6 : ∀ w ∈ wsX60, w ∈ wsX9_endFlex := fun w h => List.mem_cons_of_mem _ (List.mem_append_left _ (List.mem_append_right _ (h)))
  refine r_aload_n 0 0 C dX9_endFlex_0 rfl ?_
  refine r_get 1 C dX9_endFlex_1 (k := 14) 0 rfl rfl hiX9 (by decide) rfl (mg 1 rfl) (Or.inl rfl) rfl ?_
  refine r_if_eq 4 16 C dX9_endFlex_4 (by decide) (fun c1 => ?_) (fun c1 => ?_)
  · skip
    have k2 : (Int32.toInt x7) = 0 := (fa_eq x7 0).mp c1
    refine r_bipush 16 9 C dX9_endFlex_16 (by decide) ?_
    exact r_iret 18 Rt dX9_endFlex_18 (x7, x9, x12, y1, y2, x14, fm2, fn0, fm4) (show 0 ≤ (Int32.toInt 9) ∧ (Int32.toInt 9) ≤ 9 ∧ 0 ≤ (Int32.toInt x7) ∧ (Int32.toInt x7) ≤ 1 ∧ 0 ≤ (Int32.toInt x9) ∧ (Int32.toInt x9) ≤ 24 ∧ 0 ≤ (Int32.toInt x12) ∧ (Int32.toInt x12) ≤ 400 ∧ 0 ≤ (Int32.toInt x14) ∧ (Int32.toInt x14) ≤ 1 from ⟨(by ((repeat' apply And.intro) <;> first | trivial | rfl | assumption | omega | decide | exact Or.inl rfl | exact Or.inr (Or.inl rfl) | exact Or.inr (Or.inr rfl))), (by ((repeat' apply And.intro) <;> first | trivial | rfl | assumption | omega | decide | exact Or.inl rfl | exact Or.inr (Or.inl rfl) | exact Or.inr (Or.inr rfl))), i_x7.1, i_x7.2, i_x9.1, i_x9.2, i_x12.1, i_x12.2, i_x14.1, i_x14.2⟩) [0, 1, 2, 3, 4, 5, 6, 7, 8] (by decide) rfl (Nat.le_of_ble_eq_true rfl) (Nat.le_of_ble_eq_true rfl)
  · skip
    have k3 : ¬ ((Int32.toInt x7) = 0) := fun h_9 => c1 ((fa_eq x7 0).mpr h_9)
    refine r_aload_n 7 0 C dX9_endFlex_7 rfl ?_
    refine r_get 8 C dX9_endFlex_8 (k := 17) 0 rfl rfl hiX9 (by decide) rfl (mg 2 rfl) (Or.inl rfl) rfl ?_
    refine r_bipush 11 7 C dX9_endFlex_11 (by decide) ?_
    refine r_icmp_eq 13 19 C dX9_endFlex_13 (by decide) (fun c4 => ?_) (fun c4 => ?_)
    · skip
      have k5 : (Int32.toInt x8) = 7 := (fa_eq x8 7).mp c4
      refine r_aload_n 19 0 C dX9_endFlex_19 rfl ?_
      refine r_iconst 20 0 C dX9_endFlex_20 (by decide) ?_
      refine r_put 21 C dX9_endFlex_21 (k := 14) 0 rfl rfl hiX9 tyX9 tyX9_ok nmX9 (by decide) rfl (mg 1 rfl) (Or.inl rfl) rfl rfl rfl rfl (Nat.le_of_ble_eq_true rfl) [(h0, .inr (8, [.ref h1, .ref h2, .ref h9, .int x0, .int x1, .long y0, .int x2, .int x3, .int x4, .int x5, .ref h10, .ref h11, .ref h12, .int x6, .int 0, .ref h3, .ref h4, .int x8, .ref h5, .int x9])), (h1, .inr (6, [.ref h6, .ref h13, .int x10, .int x11])), (h2, .inr (5, [.ref h7, .ref h8, .int x12, .int x13, .long y1, .long y2, .int x14])), (h3, .inl (gJ g, 7, .inr (.inl fm0))), (h4, .inl (gJ g, 7, .inr (.inl fm1))), (h5, .inl (gJ g, 24, .inr (.inl fm2))), (h6, .inl (gJ g, 48, .inr (.inl fm3))), (h7, .inl (gB g, 400, .inl fn0)), (h8, .inl (gJ g, 2400, .inr (.inl fm4)))] rfl ?_
      refine r_aload_n 24 0 C dX9_endFlex_24 rfl ?_
      refine r_aload_n 25 0 C dX9_endFlex_25 rfl ?_
      refine r_get 26 C dX9_endFlex_26 (k := 0) 0 rfl rfl hiX9 (by decide) rfl (mg 3 rfl) (Or.inr (mg 4 rfl)) rfl ?_
      refine r_iconst 29 0 C dX9_endFlex_29 (by decide) ?_
      refine r_callVl 30 C dX9_endFlex_30 [.ref h0] [(h1, .inr (6, [.ref h6, .ref h13, .int x10, .int x11])), (h6, .inl (gJ g, 48, .inr (.inl fm3)))] [(h0, .inr (8, [.ref h1, .ref h2, .ref h9, .int x0, .int x1, .long y0, .int x2, .int x3, .int x4, .int x5, .ref h10, .ref h11, .ref h12, .int x6, .int 0, .ref h3, .ref h4, .int x8, .ref h5, .int x9])), (h2, .inr (5, [.ref h7, .ref h8, .int x12, .int x13, .long y1, .long y2, .int x14])), (h3, .inl (gJ g, 7, .inr (.inl fm0))), (h4, .inl (gJ g, 7, .inr (.inl fm1))), (h5, .inl (gJ g, 24, .inr (.inl fm2))), (h7, .inl (gB g, 400, .inl fn0)), (h8, .inl (gJ g, 2400, .inr (.inl fm4)))] (fun sz => c233_X7_below l g h1 h6 0 h13 x10 x11 fm3 i_x10 i_x11 sz) gX9_endFlex_X7_below rfl ⟨rfl, rfl⟩ 1 (by decide) ⟨Nat.le_of_ble_eq_true rfl, Nat.le_of_ble_eq_true rfl⟩ 1 rfl rfl [1, 6] [0, 2, 3, 4, 5, 7, 8] rfl rfl (by decide) (by decide) (by decide) rfl rfl (Nat.le_of_ble_eq_true rfl) ⟨Nat.le_of_ble_eq_true rfl, Nat.le_of_ble_eq_true rfl⟩ (fun r6 _ w7 => ?_)
      refine r_ws [(h0, .inr (8, [.ref h1, .ref h2, .ref h9, .int x0, .int x1, .long y0, .int x2, .int x3, .int x4, .int x5, .ref h10, .ref h11, .ref h12, .int x6, .int 0, .ref h3, .ref h4, .int x8, .ref h5, .int x9])), (h2, .inr (5, [.ref h7, .ref h8, .int x12, .int x13, .long y1, .long y2, .int x14])), (h3, .inl (gJ g, 7, .inr (.inl fm0))), (h4, .inl (gJ g, 7, .inr (.inl fm1))), (h5, .inl (gJ g, 24, .inr (.inl fm2))), (h7, .inl (gB g, 400, .inl fn0)), (h8, .inl (gJ g, 2400, .inr (.inl fm4))), (h1, .inr (6, [.ref h6, .ref h13, .int x10, .int x11])), (h6, .inl (gJ g, 48, .inr (.inl fm3)))] rfl ?_
      have gr6 := fb_rngL r6
      refine r_callVv 33 C dX9_endFlex_33 [] [(h0, .inr (8, [.ref h1, .ref h2, .ref h9, .int x0, .int x1, .long y0, .int x2, .int x3, .int x4, .int x5, .ref h10, .ref h11, .ref h12, .int x6, .int 0, .ref h3, .ref h4, .int x8, .ref h5, .int x9])), (h5, .inl (gJ g, 24, .inr (.inl fm2)))] [(h2, .inr (5, [.ref h7, .ref h8, .int x12, .int x13, .long y1, .long y2, .int x14])), (h3, .inl (gJ g, 7, .inr (.inl fm0))), (h4, .inl (gJ g, 7, .inr (.inl fm1))), (h7, .inl (gB g, 400, .inl fn0)), (h8, .inl (gJ g, 2400, .inr (.inl fm4))), (h1, .inr (6, [.ref h6, .ref h13, .int x10, .int x11])), (h6, .inl (gJ g, 48, .inr (.inl fm3)))] (fun sz => c240_X9_putOneBy l g h0 h5 r6 h1 h2 h9 x0 x1 y0 x2 x3 x4 x5 h10 h11 h12 x6 0 h3 h4 x8 x9 fm2 i_x5 i_x6 (by decide) i_x8 i_x9 sz) gX9_endFlex_X9_putOneBy rfl ⟨rfl, rfl⟩ 1 (by decide) ⟨Nat.le_of_ble_eq_true rfl, Nat.le_of_ble_eq_true rfl⟩ 0 rfl rfl [0, 4] [1, 2, 3, 5, 6, 7, 8] rfl rfl (by decide) (by decide) (by decide) rfl rfl (Nat.le_of_ble_eq_true rfl) ⟨Nat.le_of_ble_eq_true rfl, Nat.le_of_ble_eq_true rfl⟩ (fun  u11 w10 => ?_)
      obtain ⟨z8, f9⟩ := u11
      refine r_ws [(h2, .inr (5, [.ref h7, .ref h8, .int x12, .int x13, .long y1, .long y2, .int x14])), (h3, .inl (gJ g, 7, .inr (.inl fm0))), (h4, .inl (gJ g, 7, .inr (.inl fm1))), (h7, .inl (gB g, 400, .inl fn0)), (h8, .inl (gJ g, 2400, .inr (.inl fm4))), (h1, .inr (6, [.ref h6, .ref h13, .int x10, .int x11])), (h6, .inl (gJ g, 48, .inr (.inl fm3))), (h0, .inr (8, [.ref h1, .ref h2, .ref h9, .int x0, .int x1, .long y0, .int x2, .int x3, .int x4, .int x5, .ref h10, .ref h11, .ref h12, .int x6, .int 0, .ref h3, .ref h4, .int x8, .ref h5, .int z8])), (h5, .inl (gJ g, 24, .inr (.inl f9)))] rfl ?_
      have p12 : 0 ≤ (Int32.toInt z8) := w10.1
      have p13 : (Int32.toInt z8) ≤ 24 := w10.2
      refine r_aload_n 36 0 C dX9_endFlex_36 rfl ?_
      refine r_aload_n 37 0 C dX9_endFlex_37 rfl ?_
      refine r_get 38 C dX9_endFlex_38 (k := 0) 7 rfl rfl hiX9 (by decide) rfl (mg 3 rfl) (Or.inr (mg 4 rfl)) rfl ?_
      refine r_iconst 41 1 C dX9_endFlex_41 (by decide) ?_
      refine r_callVl 42 C dX9_endFlex_42 [.ref h0] [(h1, .inr (6, [.ref h6, .ref h13, .int x10, .int x11])), (h6, .inl (gJ g, 48, .inr (.inl fm3)))] [(h2, .inr (5, [.ref h7, .ref h8, .int x12, .int x13, .long y1, .long y2, .int x14])), (h3, .inl (gJ g, 7, .inr (.inl fm0))), (h4, .inl (gJ g, 7, .inr (.inl fm1))), (h7, .inl (gB g, 400, .inl fn0)), (h8, .inl (gJ g, 2400, .inr (.inl fm4))), (h0, .inr (8, [.ref h1, .ref h2, .ref h9, .int x0, .int x1, .long y0, .int x2, .int x3, .int x4, .int x5, .ref h10, .ref h11, .ref h12, .int x6, .int 0, .ref h3, .ref h4, .int x8, .ref h5, .int z8])), (h5, .inl (gJ g, 24, .inr (.inl f9)))] (fun sz => c233_X7_below l g h1 h6 1 h13 x10 x11 fm3 i_x10 i_x11 sz) gX9_endFlex_X7_below rfl ⟨rfl, rfl⟩ 1 (by decide) ⟨Nat.le_of_ble_eq_true rfl, Nat.le_of_ble_eq_true rfl⟩ 5 rfl rfl [5, 6] [0, 1, 2, 3, 4, 7, 8] rfl rfl (by decide) (by decide) (by decide) rfl rfl (Nat.le_of_ble_eq_true rfl) ⟨Nat.le_of_ble_eq_true rfl, Nat.le_of_ble_eq_true rfl⟩ (fun r14 _ w15 => ?_)
      refine r_ws [(h2, .inr (5, [.ref h7, .ref h8, .int x12, .int x13, .long y1, .long y2, .int x14])), (h3, .inl (gJ g, 7, .inr (.inl fm0))), (h4, .inl (gJ g, 7, .inr (.inl fm1))), (h7, .inl (gB g, 400, .inl fn0)), (h8, .inl (gJ g, 2400, .inr (.inl fm4))), (h0, .inr (8, [.ref h1, .ref h2, .ref h9, .int x0, .int x1, .long y0, .int x2, .int x3, .int x4, .int x5, .ref h10, .ref h11, .ref h12, .int x6, .int 0, .ref h3, .ref h4, .int x8, .ref h5, .int z8])), (h5, .inl (gJ g, 24, .inr (.inl f9))), (h1, .inr (6, [.ref h6, .ref h13, .int x10, .int x11])), (h6, .inl (gJ g, 48, .inr (.inl fm3)))] rfl ?_
      have gr14 := fb_rngL r14
      refine r_callVv 45 C dX9_endFlex_45 [] [(h0, .inr (8, [.ref h1, .ref h2, .ref h9, .int x0, .int x1, .long y0, .int x2, .int x3, .int x4, .int x5, .ref h10, .ref h11, .ref h12, .int x6, .int 0, .ref h3, .ref h4, .int x8, .ref h5, .int z8])), (h5, .inl (gJ g, 24, .inr (.inl f9)))] [(h2, .inr (5, [.ref h7, .ref h8, .int x12, .int x13, .long y1, .long y2, .int x14])), (h3, .inl (gJ g, 7, .inr (.inl fm0))), (h4, .inl (gJ g, 7, .inr (.inl fm1))), (h7, .inl (gB g, 400, .inl fn0)), (h8, .inl (gJ g, 2400, .inr (.inl fm4))), (h1, .inr (6, [.ref h6, .ref h13, .int x10, .int x11])), (h6, .inl (gJ g, 48, .inr (.inl fm3)))] (fun sz => c240_X9_putOneBy l g h0 h5 r14 h1 h2 h9 x0 x1 y0 x2 x3 x4 x5 h10 h11 h12 x6 0 h3 h4 x8 z8 f9 i_x5 i_x6 (by decide) i_x8 ⟨p12, p13⟩ sz) gX9_endFlex_X9_putOneBy rfl ⟨rfl, rfl⟩ 1 (by decide) ⟨Nat.le_of_ble_eq_true rfl, Nat.le_of_ble_eq_true rfl⟩ 5 rfl rfl [5, 6] [0, 1, 2, 3, 4, 7, 8] rfl rfl (by decide) (by decide) (by decide) rfl rfl (Nat.le_of_ble_eq_true rfl) ⟨Nat.le_of_ble_eq_true rfl, Nat.le_of_ble_eq_true rfl⟩ (fun  u19 w18 => ?_)
      obtain ⟨z16, f17⟩ := u19
      refine r_ws [(h2, .inr (5, [.ref h7, .ref h8, .int x12, .int x13, .long y1, .long y2, .int x14])), (h3, .inl (gJ g, 7, .inr (.inl fm0))), (h4, .inl (gJ g, 7, .inr (.inl fm1))), (h7, .inl (gB g, 400, .inl fn0)), (h8, .inl (gJ g, 2400, .inr (.inl fm4))), (h1, .inr (6, [.ref h6, .ref h13, .int x10, .int x11])), (h6, .inl (gJ g, 48, .inr (.inl fm3))), (h0, .inr (8, [.ref h1, .ref h2, .ref h9, .int x0, .int x1, .long y0, .int x2, .int x3, .int x4, .int x5, .ref h10, .ref h11, .ref h12, .int x6, .int 0, .ref h3, .ref h4, .int x8, .ref h5, .int z16])), (h5, .inl (gJ g, 24, .inr (.inl f17)))] rfl ?_
      have p20 : 0 ≤ (Int32.toInt z16) := w18.1
      have p21 : (Int32.toInt z16) ≤ 24 := w18.2
      refine r_iconst 48 0 C dX9_endFlex_48 (by decide) ?_
      refine r_istore_n 49 C dX9_endFlex_49 [(1, .int 0), (0, .ref h0)] (by decide) rfl ?_
      refine r_iconst 50 1 C dX9_endFlex_50 (by decide) ?_
      refine r_istore_n 51 C dX9_endFlex_51 [(2, .int 1), (1, .int 0), (0, .ref h0)] (by decide) rfl ?_
      have lp31 : ∀ (n30 : Nat) (z22 : Int32) (z23 : Int32) (z24 : Int32) (z25 : Int64) (z26 : Int64) (z27 : Int32) (f28 : Nat → Int32) (f29 : Nat → Int64), (1 ≤ (Int32.toInt z22) ∧ (Int32.toInt z22) ≤ 7) → (0 ≤ (Int32.toInt z23) ∧ (Int32.toInt z23) ≤ 6) → (0 ≤ (Int32.toInt z24) ∧ (Int32.toInt z24) ≤ 400) → (0 ≤ (Int32.toInt z27) ∧ (Int32.toInt z27) ≤ 1) → Int.toNat (7 - (Int32.toInt z22)) < n30 → WW p l e ({ frames := 2, cells := 0, slots := 0, locals := 55 } : Room) s m args below meth c A Q g 3 0 0 [(h2, .inr (5, [.ref h7, .ref h8, .int z24, .int x13, .long z25, .long z26, .int z27])), (h3, .inl (gJ g, 7, .inr (.inl fm0))), (h4, .inl (gJ g, 7, .inr (.inl fm1))), (h7, .inl (gB g, 400, .inl f28)), (h8, .inl (gJ g, 2400, .inr (.inl f29))), (h1, .inr (6, [.ref h6, .ref h13, .int x10, .int x11])), (h6, .inl (gJ g, 48, .inr (.inl fm3))), (h0, .inr (8, [.ref h1, .ref h2, .ref h9, .int x0, .int x1, .long y0, .int x2, .int x3, .int x4, .int x5, .ref h10, .ref h11, .ref h12, .int x6, .int 0, .ref h3, .ref h4, .int x8, .ref h5, .int z16])), (h5, .inl (gJ g, 24, .inr (.inl f17)))] 52 [(2, .int z22), (1, .int z23), (0, .ref h0)] [] := by
        intro n30
        induction n30 with
        | zero => intro z22 z23 z24 z25 z26 z27 f28 f29 i34 i35 i36 i37 hm33; exact absurd hm33 (Nat.not_lt_zero _)
        | succ n30 ih32 =>
          intro z22 z23 z24 z25 z26 z27 f28 f29 i34 i35 i36 i37 hm33
          obtain ⟨i34a, i34b⟩ := i34
          obtain ⟨i35a, i35b⟩ := i35
          obtain ⟨i36a, i36b⟩ := i36
          obtain ⟨i37a, i37b⟩ := i37
          have gz25 := fb_rngL z25
          have gz26 := fb_rngL z26
          refine r_iload_n 52 0 C dX9_endFlex_52 rfl ?_
          refine r_iconst 53 3 C dX9_endFlex_53 (by decide) ?_
          obtain ⟨z38, ez38⟩ : ∃ z_9, z22 + 3 = z_9 := ⟨_, rfl⟩
          have tz38 : (Int32.toInt z38) = (Int32.toInt z22) + 3 := by rw [← ez38]; exact fb_addIv (a := 1) (b := 7) (c := 3) (d := 3) ⟨i34a, i34b⟩ ⟨by decide, by decide⟩ (by decide) (by decide)
          refine r_iadd 54 z38 C dX9_endFlex_54 ez38 ?_
          refine r_bipush 55 7 C dX9_endFlex_55 (by decide) ?_
          refine r_icmp_gt 57 170 C dX9_endFlex_57 (by decide) (fun c39 => ?_) (fun c39 => ?_)
          · skip
            have k40 : 7 < (Int32.toInt z38) := (fa_lt 7 z38).mp c39
            refine r_iload_n 170 1 C dX9_endFlex_170 rfl ?_
            exact r_iret 171 Rt dX9_endFlex_171 (0, z16, z24, z25, z26, z27, f17, f28, f29) (show 0 ≤ (Int32.toInt z23) ∧ (Int32.toInt z23) ≤ 9 ∧ 0 ≤ (Int32.toInt 0) ∧ (Int32.toInt 0) ≤ 1 ∧ 0 ≤ (Int32.toInt z16) ∧ (Int32.toInt z16) ≤ 24 ∧ 0 ≤ (Int32.toInt z24) ∧ (Int32.toInt z24) ≤ 400 ∧ 0 ≤ (Int32.toInt z27) ∧ (Int32.toInt z27) ≤ 1 from ⟨(iv_wide (c := 0) (d := 9) ⟨i35a, i35b⟩ (by decide) (by decide)).1, (iv_wide (c := 0) (d := 9) ⟨i35a, i35b⟩ (by decide) (by decide)).2, (by ((repeat' apply And.intro) <;> first | trivial | rfl | assumption | omega | decide | exact Or.inl rfl | exact Or.inr (Or.inl rfl) | exact Or.inr (Or.inr rfl))), (by ((repeat' apply And.intro) <;> first | trivial | rfl | assumption | omega | decide | exact Or.inl rfl | exact Or.inr (Or.inl rfl) | exact Or.inr (Or.inr rfl))), (show _ ∧ _ from ⟨p20, p21⟩).1, (show _ ∧ _ from ⟨p20, p21⟩).2, (show _ ∧ _ from ⟨i36a, i36b⟩).1, (show _ ∧ _ from ⟨i36a, i36b⟩).2, (show _ ∧ _ from ⟨i37a, i37b⟩).1, (show _ ∧ _ from ⟨i37a, i37b⟩).2⟩) [7, 5, 0, 1, 2, 8, 6, 3, 4] (by decide) rfl (Nat.le_of_ble_eq_true rfl) (Nat.le_of_ble_eq_true rfl)
          · skip
            have k41 : ¬ (7 < (Int32.toInt z38)) := fun h_9 => c39 ((fa_lt 7 z38).mpr h_9)
            refine r_iload_n 60 1 C dX9_endFlex_60 rfl ?_
            refine r_if_ne 61 170 C dX9_endFlex_61 (by decide) (fun c42 => ?_) (fun c42 => ?_)
            · skip
              have k43 : ¬ ((Int32.toInt z23) = 0) := fun h_9 => c42 ((fa_eq z23 0).mpr h_9)
              refine r_iload_n 170 1 C dX9_endFlex_170 rfl ?_
              exact r_iret 171 Rt dX9_endFlex_171 (0, z16, z24, z25, z26, z27, f17, f28, f29) (show 0 ≤ (Int32.toInt z23) ∧ (Int32.toInt z23) ≤ 9 ∧ 0 ≤ (Int32.toInt 0) ∧ (Int32.toInt 0) ≤ 1 ∧ 0 ≤ (Int32.toInt z16) ∧ (Int32.toInt z16) ≤ 24 ∧ 0 ≤ (Int32.toInt z24) ∧ (Int32.toInt z24) ≤ 400 ∧ 0 ≤ (Int32.toInt z27) ∧ (Int32.toInt z27) ≤ 1 from ⟨(iv_wide (c := 0) (d := 9) ⟨i35a, i35b⟩ (by decide) (by decide)).1, (iv_wide (c := 0) (d := 9) ⟨i35a, i35b⟩ (by decide) (by decide)).2, (by ((repeat' apply And.intro) <;> first | trivial | rfl | assumption | omega | decide | exact Or.inl rfl | exact Or.inr (Or.inl rfl) | exact Or.inr (Or.inr rfl))), (by ((repeat' apply And.intro) <;> first | trivial | rfl | assumption | omega | decide | exact Or.inl rfl | exact Or.inr (Or.inl rfl) | exact Or.inr (Or.inr rfl))), (show _ ∧ _ from ⟨p20, p21⟩).1, (show _ ∧ _ from ⟨p20, p21⟩).2, (show _ ∧ _ from ⟨i36a, i36b⟩).1, (show _ ∧ _ from ⟨i36a, i36b⟩).2, (show _ ∧ _ from ⟨i37a, i37b⟩).1, (show _ ∧ _ from ⟨i37a, i37b⟩).2⟩) [7, 5, 0, 1, 2, 8, 6, 3, 4] (by decide) rfl (Nat.le_of_ble_eq_true rfl) (Nat.le_of_ble_eq_true rfl)
            · skip
              have k44 : (Int32.toInt z23) = 0 := (fa_eq z23 0).mp c42
              refine r_aload_n 64 2 C dX9_endFlex_64 rfl ?_
              refine r_get 65 C dX9_endFlex_65 (k := 1) 7 rfl rfl hiX9 (by decide) rfl (mg 5 rfl) (Or.inr (mg 6 rfl)) rfl ?_
              refine r_aload_n 68 2 C dX9_endFlex_68 rfl ?_
              refine r_get 69 C dX9_endFlex_69 (k := 15) 7 rfl rfl hiX9 (by decide) rfl (mg 7 rfl) (Or.inl rfl) rfl ?_
              refine r_iload_n 72 0 C dX9_endFlex_72 rfl ?_
              obtain ⟨z45, ez45⟩ : ∃ z_9, fm0 (Int32.toNatClampNeg z22) = z_9 := ⟨_, rfl⟩
              refine r_lald 73 z45 C dX9_endFlex_73 1 rfl (vinI (by omega) (by omega)) ez45 ?_
              have gz45 := fb_rngL z45
              refine r_aload_n 74 2 C dX9_endFlex_74 rfl ?_
              refine r_get 75 C dX9_endFlex_75 (k := 1) 7 rfl rfl hiX9 (by decide) rfl (mg 5 rfl) (Or.inr (mg 6 rfl)) rfl ?_
              refine r_getN 78 C dX9_endFlex_78 (k := 4) 0 rfl rfl hiX6 (by decide) rfl (mg 19 rfl) rfl rfl ?_
              obtain ⟨z46, ez46⟩ : ∃ z_9, z45 - z25 = z_9 := ⟨_, rfl⟩
              have gz46 := fb_rngL z46
              refine r_lsub 81 z46 C dX9_endFlex_81 ez46 ?_
              refine r_aload_n 82 2 C dX9_endFlex_82 rfl ?_
              refine r_get 83 C dX9_endFlex_83 (k := 16) 7 rfl rfl hiX9 (by decide) rfl (mg 8 rfl) (Or.inl rfl) rfl ?_
              refine r_iload_n 86 0 C dX9_endFlex_86 rfl ?_
              obtain ⟨z47, ez47⟩ : ∃ z_9, fm1 (Int32.toNatClampNeg z22) = z_9 := ⟨_, rfl⟩
              refine r_lald 87 z47 C dX9_endFlex_87 2 rfl (vinI (by omega) (by omega)) ez47 ?_
              have gz47 := fb_rngL z47
              refine r_aload_n 88 2 C dX9_endFlex_88 rfl ?_
              refine r_get 89 C dX9_endFlex_89 (k := 1) 7 rfl rfl hiX9 (by decide) rfl (mg 5 rfl) (Or.inr (mg 6 rfl)) rfl ?_
              refine r_getN 92 C dX9_endFlex_92 (k := 5) 0 rfl rfl hiX6 (by decide) rfl (mg 20 rfl) rfl rfl ?_
              obtain ⟨z48, ez48⟩ : ∃ z_9, z47 - z26 = z_9 := ⟨_, rfl⟩
              have gz48 := fb_rngL z48
              refine r_lsub 95 z48 C dX9_endFlex_95 ez48 ?_
              refine r_aload_n 96 2 C dX9_endFlex_96 rfl ?_
              refine r_get 97 C dX9_endFlex_97 (k := 15) 7 rfl rfl hiX9 (by decide) rfl (mg 7 rfl) (Or.inl rfl) rfl ?_
              refine r_iload_n 100 0 C dX9_endFlex_100 rfl ?_
              refine r_iconst 101 1 C dX9_endFlex_101 (by decide) ?_
              obtain ⟨z49, ez49⟩ : ∃ z_9, z22 + 1 = z_9 := ⟨_, rfl⟩
              have tz49 : (Int32.toInt z49) = (Int32.toInt z22) + 1 := by rw [← ez49]; exact fb_addIv (a := 1) (b := 7) (c := 1) (d := 1) ⟨i34a, i34b⟩ ⟨by decide, by decide⟩ (by decide) (by decide)
              refine r_iadd 102 z49 C dX9_endFlex_102 ez49 ?_
              obtain ⟨z50, ez50⟩ : ∃ z_9, fm0 (Int32.toNatClampNeg z49) = z_9 := ⟨_, rfl⟩
              refine r_lald 103 z50 C dX9_endFlex_103 1 rfl (vinI (by omega) (by omega)) ez50 ?_
              have gz50 := fb_rngL z50
              refine r_aload_n 104 2 C dX9_endFlex_104 rfl ?_
              refine r_get 105 C dX9_endFlex_105 (k := 15) 7 rfl rfl hiX9 (by decide) rfl (mg 7 rfl) (Or.inl rfl) rfl ?_
              refine r_iload_n 108 0 C dX9_endFlex_108 rfl ?_
              obtain ⟨z51, ez51⟩ : ∃ z_9, fm0 (Int32.toNatClampNeg z22) = z_9 := ⟨_, rfl⟩
              refine r_lald 109 z51 C dX9_endFlex_109 1 rfl (vinI (by omega) (by omega)) ez51 ?_
              have gz51 := fb_rngL z51
              obtain ⟨z52, ez52⟩ : ∃ z_9, z50 - z51 = z_9 := ⟨_, rfl⟩
              have gz52 := fb_rngL z52
              refine r_lsub 110 z52 C dX9_endFlex_110 ez52 ?_
              refine r_aload_n 111 2 C dX9_endFlex_111 rfl ?_
              refine r_get 112 C dX9_endFlex_112 (k := 16) 7 rfl rfl hiX9 (by decide) rfl (mg 8 rfl) (Or.inl rfl) rfl ?_
              refine r_iload_n 115 0 C dX9_endFlex_115 rfl ?_
              refine r_iconst 116 1 C dX9_endFlex_116 (by decide) ?_
              obtain ⟨z53, ez53⟩ : ∃ z_9, z22 + 1 = z_9 := ⟨_, rfl⟩
              have tz53 : (Int32.toInt z53) = (Int32.toInt z22) + 1 := by rw [← ez53]; exact fb_addIv (a := 1) (b := 7) (c := 1) (d := 1) ⟨i34a, i34b⟩ ⟨by decide, by decide⟩ (by decide) (by decide)
              refine r_iadd 117 z53 C dX9_endFlex_117 ez53 ?_
              obtain ⟨z54, ez54⟩ : ∃ z_9, fm1 (Int32.toNatClampNeg z53) = z_9 := ⟨_, rfl⟩
              refine r_lald 118 z54 C dX9_endFlex_118 2 rfl (vinI (by omega) (by omega)) ez54 ?_
              have gz54 := fb_rngL z54
              refine r_aload_n 119 2 C dX9_endFlex_119 rfl ?_
              refine r_get 120 C dX9_endFlex_120 (k := 16) 7 rfl rfl hiX9 (by decide) rfl (mg 8 rfl) (Or.inl rfl) rfl ?_
              refine r_iload_n 123 0 C dX9_endFlex_123 rfl ?_
              obtain ⟨z55, ez55⟩ : ∃ z_9, fm1 (Int32.toNatClampNeg z22) = z_9 := ⟨_, rfl⟩
              refine r_lald 124 z55 C dX9_endFlex_124 2 rfl (vinI (by omega) (by omega)) ez55 ?_
              have gz55 := fb_rngL z55
              obtain ⟨z56, ez56⟩ : ∃ z_9, z54 - z55 = z_9 := ⟨_, rfl⟩
              have gz56 := fb_rngL z56
              refine r_lsub 125 z56 C dX9_endFlex_125 ez56 ?_
              refine r_aload_n 126 2 C dX9_endFlex_126 rfl ?_
              refine r_get 127 C dX9_endFlex_127 (k := 15) 7 rfl rfl hiX9 (by decide) rfl (mg 7 rfl) (Or.inl rfl) rfl ?_
              refine r_iload_n 130 0 C dX9_endFlex_130 rfl ?_
              refine r_iconst 131 2 C dX9_endFlex_131 (by decide) ?_
              obtain ⟨z57, ez57⟩ : ∃ z_9, z22 + 2 = z_9 := ⟨_, rfl⟩
              have tz57 : (Int32.toInt z57) = (Int32.toInt z22) + 2 := by rw [← ez57]; exact fb_addIv (a := 1) (b := 7) (c := 2) (d := 2) ⟨i34a, i34b⟩ ⟨by decide, by decide⟩ (by decide) (by decide)
              refine r_iadd 132 z57 C dX9_endFlex_132 ez57 ?_
              obtain ⟨z58, ez58⟩ : ∃ z_9, fm0 (Int32.toNatClampNeg z57) = z_9 := ⟨_, rfl⟩
              refine r_lald 133 z58 C dX9_endFlex_133 1 rfl (vinI (by omega) (by omega)) ez58 ?_
              have gz58 := fb_rngL z58
              refine r_aload_n 134 2 C dX9_endFlex_134 rfl ?_
              refine r_get 135 C dX9_endFlex_135 (k := 15) 7 rfl rfl hiX9 (by decide) rfl (mg 7 rfl) (Or.inl rfl) rfl ?_
              refine r_iload_n 138 0 C dX9_endFlex_138 rfl ?_
              refine r_iconst 139 1 C dX9_endFlex_139 (by decide) ?_
              obtain ⟨z59, ez59⟩ : ∃ z_9, z22 + 1 = z_9 := ⟨_, rfl⟩
              have tz59 : (Int32.toInt z59) = (Int32.toInt z22) + 1 := by rw [← ez59]; exact fb_addIv (a := 1) (b := 7) (c := 1) (d := 1) ⟨i34a, i34b⟩ ⟨by decide, by decide⟩ (by decide) (by decide)
              refine r_iadd 140 z59 C dX9_endFlex_140 ez59 ?_
              obtain ⟨z60, ez60⟩ : ∃ z_9, fm0 (Int32.toNatClampNeg z59) = z_9 := ⟨_, rfl⟩
              refine r_lald 141 z60 C dX9_endFlex_141 1 rfl (vinI (by omega) (by omega)) ez60 ?_
              have gz60 := fb_rngL z60
              obtain ⟨z61, ez61⟩ : ∃ z_9, z58 - z60 = z_9 := ⟨_, rfl⟩
              have gz61 := fb_rngL z61
              refine r_lsub 142 z61 C dX9_endFlex_142 ez61 ?_
              refine r_aload_n 143 2 C dX9_endFlex_143 rfl ?_
              refine r_get 144 C dX9_endFlex_144 (k := 16) 7 rfl rfl hiX9 (by decide) rfl (mg 8 rfl) (Or.inl rfl) rfl ?_
              refine r_iload_n 147 0 C dX9_endFlex_147 rfl ?_
              refine r_iconst 148 2 C dX9_endFlex_148 (by decide) ?_
              obtain ⟨z62, ez62⟩ : ∃ z_9, z22 + 2 = z_9 := ⟨_, rfl⟩
              have tz62 : (Int32.toInt z62) = (Int32.toInt z22) + 2 := by rw [← ez62]; exact fb_addIv (a := 1) (b := 7) (c := 2) (d := 2) ⟨i34a, i34b⟩ ⟨by decide, by decide⟩ (by decide) (by decide)
              refine r_iadd 149 z62 C dX9_endFlex_149 ez62 ?_
              obtain ⟨z63, ez63⟩ : ∃ z_9, fm1 (Int32.toNatClampNeg z62) = z_9 := ⟨_, rfl⟩
              refine r_lald 150 z63 C dX9_endFlex_150 2 rfl (vinI (by omega) (by omega)) ez63 ?_
              have gz63 := fb_rngL z63
              refine r_aload_n 151 2 C dX9_endFlex_151 rfl ?_
              refine r_get 152 C dX9_endFlex_152 (k := 16) 7 rfl rfl hiX9 (by decide) rfl (mg 8 rfl) (Or.inl rfl) rfl ?_
              refine r_iload_n 155 0 C dX9_endFlex_155 rfl ?_
              refine r_iconst 156 1 C dX9_endFlex_156 (by decide) ?_
              obtain ⟨z64, ez64⟩ : ∃ z_9, z22 + 1 = z_9 := ⟨_, rfl⟩
              have tz64 : (Int32.toInt z64) = (Int32.toInt z22) + 1 := by rw [← ez64]; exact fb_addIv (a := 1) (b := 7) (c := 1) (d := 1) ⟨i34a, i34b⟩ ⟨by decide, by decide⟩ (by decide) (by decide)
              refine r_iadd 157 z64 C dX9_endFlex_157 ez64 ?_
              obtain ⟨z65, ez65⟩ : ∃ z_9, fm1 (Int32.toNatClampNeg z64) = z_9 := ⟨_, rfl⟩
              refine r_lald 158 z65 C dX9_endFlex_158 2 rfl (vinI (by omega) (by omega)) ez65 ?_
              have gz65 := fb_rngL z65
              obtain ⟨z66, ez66⟩ : ∃ z_9, z63 - z65 = z_9 := ⟨_, rfl⟩
              have gz66 := fb_rngL z66
              refine r_lsub 159 z66 C dX9_endFlex_159 ez66 ?_
              refine r_callVi 160 C dX9_endFlex_160 [] [(h2, .inr (5, [.ref h7, .ref h8, .int z24, .int x13, .long z25, .long z26, .int z27])), (h7, .inl (gB g, 400, .inl f28)), (h8, .inl (gJ g, 2400, .inr (.inl f29)))] [(h3, .inl (gJ g, 7, .inr (.inl fm0))), (h4, .inl (gJ g, 7, .inr (.inl fm1))), (h1, .inr (6, [.ref h6, .ref h13, .int x10, .int x11])), (h6, .inl (gJ g, 48, .inr (.inl fm3))), (h0, .inr (8, [.ref h1, .ref h2, .ref h9, .int x0, .int x1, .long y0, .int x2, .int x3, .int x4, .int x5, .ref h10, .ref h11, .ref h12, .int x6, .int 0, .ref h3, .ref h4, .int x8, .ref h5, .int z16])), (h5, .inl (gJ g, 24, .inr (.inl f17)))] (fun sz => c246_X6_curveBy l g h2 h7 h8 z46 z48 z52 z56 z61 z66 z24 x13 z25 z26 z27 f28 f29 ⟨i36a, i36b⟩ i_x13 ⟨i37a, i37b⟩ sz) gX9_endFlex_X6_curveBy rfl ⟨rfl, rfl⟩ 6 (by decide) ⟨Nat.le_of_ble_eq_true rfl, Nat.le_of_ble_eq_true rfl⟩ 0 rfl rfl [0, 3, 4] [1, 2, 5, 6, 7, 8] rfl rfl (by decide) (by decide) (by decide) rfl rfl (Nat.le_of_ble_eq_true rfl) ⟨Nat.le_of_ble_eq_true rfl, Nat.le_of_ble_eq_true rfl⟩ (fun r72 u74 w73 => ?_)
              obtain ⟨z67, z68, z69, f70, f71⟩ := u74
              refine r_ws [(h3, .inl (gJ g, 7, .inr (.inl fm0))), (h4, .inl (gJ g, 7, .inr (.inl fm1))), (h1, .inr (6, [.ref h6, .ref h13, .int x10, .int x11])), (h6, .inl (gJ g, 48, .inr (.inl fm3))), (h0, .inr (8, [.ref h1, .ref h2, .ref h9, .int x0, .int x1, .long y0, .int x2, .int x3, .int x4, .int x5, .ref h10, .ref h11, .ref h12, .int x6, .int 0, .ref h3, .ref h4, .int x8, .ref h5, .int z16])), (h5, .inl (gJ g, 24, .inr (.inl f17))), (h2, .inr (5, [.ref h7, .ref h8, .int z67, .int x13, .long z68, .long z69, .int 1])), (h7, .inl (gB g, 400, .inl f70)), (h8, .inl (gJ g, 2400, .inr (.inl f71)))] rfl ?_
              have gz68 := fb_rngL z68
              have gz69 := fb_rngL z69
              have p75 : 0 ≤ (Int32.toInt r72) := w73.1
              have p76 : (Int32.toInt r72) ≤ 6 := w73.2.1
              have p77 : 0 ≤ (Int32.toInt z67) := w73.2.2.1
              have p78 : (Int32.toInt z67) ≤ 400 := w73.2.2.2
              refine r_istore_n 163 C dX9_endFlex_163 [(1, .int r72), (2, .int z22), (0, .ref h0)] (by decide) rfl ?_
              obtain ⟨z79, ez79⟩ : ∃ z_9, z22 + Int32.ofInt 3 = z_9 := ⟨_, rfl⟩
              have tz79 : (Int32.toInt z79) = (Int32.toInt z22) + 3 := by rw [← ez79]; exact fb_addIv (a := 1) (b := 7) (c := 3) (d := 3) ⟨i34a, i34b⟩ ⟨by decide, by decide⟩ (by decide) (by decide)
              refine r_iinc 164 1 z79 C dX9_endFlex_164 rfl ez79 [(2, .int z79), (1, .int r72), (0, .ref h0)] (by decide) rfl ?_
              refine r_goto 167 52 C dX9_endFlex_167 (by decide) ?_
              refine r_pick [(h2, .inr (5, [.ref h7, .ref h8, .int z67, .int x13, .long z68, .long z69, .int 1])), (h3, .inl (gJ g, 7, .inr (.inl fm0))), (h4, .inl (gJ g, 7, .inr (.inl fm1))), (h7, .inl (gB g, 400, .inl f70)), (h8, .inl (gJ g, 2400, .inr (.inl f71))), (h1, .inr (6, [.ref h6, .ref h13, .int x10, .int x11])), (h6, .inl (gJ g, 48, .inr (.inl fm3))), (h0, .inr (8, [.ref h1, .ref h2, .ref h9, .int x0, .int x1, .long y0, .int x2, .int x3, .int x4, .int x5, .ref h10, .ref h11, .ref h12, .int x6, .int 0, .ref h3, .ref h4, .int x8, .ref h5, .int z16])), (h5, .inl (gJ g, 24, .inr (.inl f17)))] [6, 0, 1, 7, 8, 2, 3, 4, 5] (by decide) rfl ?_
              exact ih32 z79 r72 z67 z68 z69 1 f70 f71 ⟨by omega, by omega⟩ ⟨p75, p76⟩ ⟨p77, p78⟩ (by decide) (by omega)
      exact lp31 _ 1 0 x12 y1 y2 x14 fn0 fm4 (by decide) (by decide) i_x12 i_x14 (Nat.lt_succ_self _)
    · skip
      have k80 : ¬ ((Int32.toInt x8) = 7) := fun h_9 => c4 ((fa_eq x8 7).mpr h_9)
      refine r_bipush 16 9 C dX9_endFlex_16 (by decide) ?_
      exact r_iret 18 Rt dX9_endFlex_18 (x7, x9, x12, y1, y2, x14, fm2, fn0, fm4) (show 0 ≤ (Int32.toInt 9) ∧ (Int32.toInt 9) ≤ 9 ∧ 0 ≤ (Int32.toInt x7) ∧ (Int32.toInt x7) ≤ 1 ∧ 0 ≤ (Int32.toInt x9) ∧ (Int32.toInt x9) ≤ 24 ∧ 0 ≤ (Int32.toInt x12) ∧ (Int32.toInt x12) ≤ 400 ∧ 0 ≤ (Int32.toInt x14) ∧ (Int32.toInt x14) ≤ 1 from ⟨(by ((repeat' apply And.intro) <;> first | trivial | rfl | assumption | omega | decide | exact Or.inl rfl | exact Or.inr (Or.inl rfl) | exact Or.inr (Or.inr rfl))), (by ((repeat' apply And.intro) <;> first | trivial | rfl | assumption | omega | decide | exact Or.inl rfl | exact Or.inr (Or.inl rfl) | exact Or.inr (Or.inr rfl))), i_x7.1, i_x7.2, i_x9.1, i_x9.2, i_x12.1, i_x12.2, i_x14.1, i_x14.2⟩) [0, 1, 2, 3, 4, 5, 6, 7, 8] (by decide) rfl (Nat.le_of_ble_eq_true rfl) (Nat.le_of_ble_eq_true rfl)
set_option maxHeartbeats 4000000 in
set_option maxRecDepth 100000 in
theorem c248_X9_callOther (l : Launch) (g : GD) (h0 : Nat) (h1 : Nat) (h2 : Nat) (h3 : Nat) (h4 : Nat) (h5 : Nat) (h6 : Nat) (h7 : Nat) (h8 : Nat) (h9 : Nat) (x0 : Int32) (x1 : Int32) (y0 : Int64) (x2 : Int32) (x3 : Int32) (x4 : Int32) (x5 : Int32) (h10 : Nat) (h11 : Nat) (h12 : Nat) (x6 : Int32) (x7 : Int32) (x8 : Int32) (x9 : Int32) (h13 : Nat) (x10 : Int32) (x11 : Int32) (x12 : Int32) (x13 : Int32) (y1 : Int64) (y2 : Int64) (x14 : Int32) (fm0 : Nat → Int64) (fm1 : Nat → Int64) (fm2 : Nat → Int64) (fm3 : Nat → Int64) (fn0 : Nat → Int32) (fm4 : Nat → Int64) (i_x5 : (0 ≤ (Int32.toInt x5) ∧ (Int32.toInt x5) ≤ 1)) (i_x6 : (0 ≤ (Int32.toInt x6) ∧ (Int32.toInt x6) ≤ 10)) (i_x7 : (0 ≤ (Int32.toInt x7) ∧ (Int32.toInt x7) ≤ 1)) (i_x8 : (0 ≤ (Int32.toInt x8) ∧ (Int32.toInt x8) ≤ 7)) (i_x9 : (0 ≤ (Int32.toInt x9) ∧ (Int32.toInt x9) ≤ 24)) (i_x10 : (0 ≤ (Int32.toInt x10) ∧ (Int32.toInt x10) ≤ 48)) (i_x11 : (0 ≤ (Int32.toInt x11) ∧ (Int32.toInt x11) ≤ 48)) (i_x12 : (0 ≤ (Int32.toInt x12) ∧ (Int32.toInt x12) ≤ 400)) (i_x13 : (0 ≤ (Int32.toInt x13) ∧ (Int32.toInt x13) ≤ 400)) (i_x14 : (0 ≤ (Int32.toInt x14) ∧ (Int32.toInt x14) ≤ 1)) (sz : Nat) : Met l yX9_callOther wsX9_callOther ({ frames := 3, cells := 0, slots := 0, locals := 77 }) (va_Pc [.ref h0] (PW g [(h0, .inr (8, [.ref h1, .ref h2, .ref h9, .int x0, .int x1, .long y0, .int x2, .int x3, .int x4, .int x5, .ref h10, .ref h11, .ref h12, .int x6, .int x7, .ref h3, .ref h4, .int x8, .ref h5, .int x9])), (h1, .inr (6, [.ref h6, .ref h13, .int x10, .int x11])), (h2, .inr (5, [.ref h7, .ref h8, .int x12, .int x13, .long y1, .long y2, .int x14])), (h3, .inl (gJ g, 7, .inr (.inl fm0))), (h4, .inl (gJ g, 7, .inr (.inl fm1))), (h5, .inl (gJ g, 24, .inr (.inl fm2))), (h6, .inl (gJ g, 48, .inr (.inl fm3))), (h7, .inl (gB g, 400, .inl fn0)), (h8, .inl (gJ g, 2400, .inr (.inl fm4)))] sz)) (va_Qi (fun (r : Int32) (u : (Int32) × (Int32) × (Int32) × (Int32) × (Int32) × (Int64) × (Int64) × (Int32) × (Nat → Int64) × (Nat → Int64) × (Nat → Int64) × (Nat → Int32) × (Nat → Int64)) => 0 ≤ (Int32.toInt r) ∧ (Int32.toInt r) ≤ 9 ∧ 0 ≤ (Int32.toInt (u.1)) ∧ (Int32.toInt (u.1)) ≤ 1 ∧ 0 ≤ (Int32.toInt (u.2.1)) ∧ (Int32.toInt (u.2.1)) ≤ 7 ∧ 0 ≤ (Int32.toInt (u.2.2.1)) ∧ (Int32.toInt (u.2.2.1)) ≤ 24 ∧ 0 ≤ (Int32.toInt (u.2.2.2.1)) ∧ (Int32.toInt (u.2.2.2.1)) ≤ 48 ∧ 0 ≤ (Int32.toInt (u.2.2.2.2.1)) ∧ (Int32.toInt (u.2.2.2.2.1)) ≤ 400 ∧ 0 ≤ (Int32.toInt (u.2.2.2.2.2.2.2.1)) ∧ (Int32.toInt (u.2.2.2.2.2.2.2.1)) ≤ 1) (BW g (va_A [(h0, .inr (8, [.ref h1, .ref h2, .ref h9, .int x0, .int x1, .long y0, .int x2, .int x3, .int x4, .int x5, .ref h10, .ref h11, .ref h12, .int x6, .int x7, .ref h3, .ref h4, .int x8, .ref h5, .int x9])), (h1, .inr (6, [.ref h6, .ref h13, .int x10, .int x11])), (h2, .inr (5, [.ref h7, .ref h8, .int x12, .int x13, .long y1, .long y2, .int x14])), (h3, .inl (gJ g, 7, .inr (.inl fm0))), (h4, .inl (gJ g, 7, .inr (.inl fm1))), (h5, .inl (gJ g, 24, .inr (.inl fm2))), (h6, .inl (gJ g, 48, .inr (.inl fm3))), (h7, .inl (gB g, 400, .inl fn0)), (h8, .inl (gJ g, 2400, .inr (.inl fm4)))] sz) (fun u : (Int32) × (Int32) × (Int32) × (Int32) × (Int32) × (Int64) × (Int64) × (Int32) × (Nat → Int64) × (Nat → Int64) × (Nat → Int64) × (Nat → Int32) × (Nat → Int64) => [(h0, .inr (8, [.ref h1, .ref h2, .ref h9, .int x0, .int x1, .long y0, .int x2, .int x3, .int x4, .int x5, .ref h10, .ref h11, .ref h12, .int x6, .int u.1, .ref h3, .ref h4, .int u.2.1, .ref h5, .int u.2.2.1])), (h1, .inr (6, [.ref h6, .ref h13, .int u.2.2.2.1, .int x11])), (h2, .inr (5, [.ref h7, .ref h8, .int u.2.2.2.2.1, .int x13, .long u.2.2.2.2.2.1, .long u.2.2.2.2.2.2.1, .int u.2.2.2.2.2.2.2.1])), (h3, .inl (gJ g, 7, .inr (.inl u.2.2.2.2.2.2.2.2.1))), (h4, .inl (gJ g, 7, .inr (.inl u.2.2.2.2.2.2.2.2.2.1))), (h5, .inl (gJ g, 24, .inr (.inl u.2.2.2.2.2.2.2.2.2.2.1))), (h6, .inl (gJ g, 48, .inr (.inl fm3))), (h7, .inl (gB g, 400, .inl u.2.2.2.2.2.2.2.2.2.2.2.1)), (h8, .inl (gJ g, 2400, .inr (.inl u.2.2.2.2.2.2.2.2.2.2.2.2)))])) (va_A [(h0, .inr (8, [.ref h1, .ref h2, .ref h9, .int x0, .int x1, .long y0, .int x2, .int x3, .int x4, .int x5, .ref h10, .ref h11, .ref h12, .int x6, .int x7, .ref h3, .ref h4, .int x8, .ref h5, .int x9])), (h1, .inr (6, [.ref h6, .ref h13, .int x10, .int x11])), (h2, .inr (5, [.ref h7, .ref h8, .int x12, .int x13, .long y1, .long y2, .int x14])), (h3, .inl (gJ g, 7, .inr (.inl fm0))), (h4, .inl (gJ g, 7, .inr (.inl fm1))), (h5, .inl (gJ g, 24, .inr (.inl fm2))), (h6, .inl (gJ g, 48, .inr (.inl fm3))), (h7, .inl (gB g, 400, .inl fn0)), (h8, .inl (gJ g, 2400, .inr (.inl fm4)))] sz)) 0 0 (va_A [(h0, .inr (8, [.ref h1, .ref h2, .ref h9, .int x0, .int x1, .long y0, .int x2, .int x3, .int x4, .int x5, .ref h10, .ref h11, .ref h12, .int x6, .int x7, .ref h3, .ref h4, .int x8, .ref h5, .int x9])), (h1, .inr (6, [.ref h6, .ref h13, .int x10, .int x11])), (h2, .inr (5, [.ref h7, .ref h8, .int x12, .int x13, .long y1, .long y2, .int x14])), (h3, .inl (gJ g, 7, .inr (.inl fm0))), (h4, .inl (gJ g, 7, .inr (.inl fm1))), (h5, .inl (gJ g, 24, .inr (.inl fm2))), (h6, .inl (gJ g, 48, .inr (.inl fm3))), (h7, .inl (gB g, 400, .inl fn0)), (h8, .inl (gJ g, 2400, .inr (.inl fm4)))] sz) := by
  refine met_i RX9 (by decide) rfl rfl (Nat.le_of_ble_eq_true rfl) [(0, .ref h0)] rfl ?_
  intro p e s m args below meth c A Q C hnm Rt
  have hiX9 : ∀ w ∈ wsX90, w ∈ wsX9_callOther := fun w h => List.mem_cons_of_mem _ (List.mem_append_left _ (List.mem_append_left _ (List.mem_append_right _ (h))))
  refine r_aload_n 0 0 C dX9_callOther_0 rfl ?_
  refine r_get 1 C dX9_callOther_1 (k := 0) 0 rfl rfl hiX9 (by decide) rfl (mg 1 rfl) (Or.inr (mg 2 rfl)) rfl ?_
  refine r_callVi 4 C dX9_callOther_4 [] [(h1, .inr (6, [.ref h6, .ref h13, .int x10, .int x11]))] [(h0, .inr (8, [.ref h1, .ref h2, .ref h9, .int x0, .int x1, .long y0, .int x2, .int x3, .int x4, .int x5, .ref h10, .ref h11, .ref h12, .int x6, .int x7, .ref h3, .ref h4, .int x8, .ref h5, .int x9])), (h2, .inr (5, [.ref h7, .ref h8, .int x12, .int x13, .long y1, .long y2, .int x14])), (h3, .inl (gJ g, 7, .inr (.inl fm0))), (h4, .inl (gJ g, 7, .inr (.inl fm1))), (h5, .inl (gJ g, 24, .inr (.inl fm2))), (h6, .inl (gJ g, 48, .inr (.inl fm3))), (h7, .inl (gB g, 400, .inl fn0)), (h8, .inl (gJ g, 2400, .inr (.inl fm4)))] (fun sz => c231_X7_size l g h1 h6 h13 x10 x11 i_x10 i_x11 sz) gX9_callOther_X7_size rfl ⟨rfl, rfl⟩ 0 (by decide) ⟨Nat.le_of_ble_eq_true rfl, Nat.le_of_ble_eq_true rfl⟩ 1 rfl rfl [1] [0, 2, 3, 4, 5, 6, 7, 8] rfl rfl (by decide) (by decide) (by decide) rfl rfl (Nat.le_of_ble_eq_true rfl) ⟨Nat.le_of_ble_eq_true rfl, Nat.le_of_ble_eq_true rfl⟩ (fun r1 _ w2 => ?_)
  refine r_ws [(h0, .inr (8, [.ref h1, .ref h2, .ref h9, .int x0, .int x1, .long y0, .int x2, .int x3, .int x4, .int x5, .ref h10, .ref h11, .ref h12, .int x6, .int x7, .ref h3, .ref h4, .int x8, .ref h5, .int x9])), (h2, .inr (5, [.ref h7, .ref h8, .int x12, .int x13, .long y1, .long y2, .int x14])), (h3, .inl (gJ g, 7, .inr (.inl fm0))), (h4, .inl (gJ g, 7, .inr (.inl fm1))), (h5, .inl (gJ g, 24, .inr (.inl fm2))), (h6, .inl (gJ g, 48, .inr (.inl fm3))), (h7, .inl (gB g, 400, .inl fn0)), (h8, .inl (gJ g, 2400, .inr (.inl fm4))), (h1, .inr (6, [.ref h6, .ref h13, .int x10, .int x11]))] rfl ?_
  have p3 : x10 = r1 := (w2).symm
  subst p3
  refine r_iconst 7 2 C dX9_callOther_7 (by decide) ?_
  refine r_icmp_ge 8 13 C dX9_callOther_8 (by decide) (fun c4 => ?_) (fun c4 => ?_)
  · skip
    have k5 : 2 ≤ (Int32.toInt x10) := (fa_le 2 x10).mp c4
    refine r_aload_n 13 0 C dX9_callOther_13 rfl ?_
    refine r_get 14 C dX9_callOther_14 (k := 0) 0 rfl rfl hiX9 (by decide) rfl (mg 1 rfl) (Or.inr (mg 2 rfl)) rfl ?_
    refine r_iconst 17 0 C dX9_callOther_17 (by decide) ?_
    refine r_callVl 18 C dX9_callOther_18 [] [(h1, .inr (6, [.ref h6, .ref h13, .int x10, .int x11])), (h6, .inl (gJ g, 48, .inr (.inl fm3)))] [(h0, .inr (8, [.ref h1, .ref h2, .ref h9, .int x0, .int x1, .long y0, .int x2, .int x3, .int x4, .int x5, .ref h10, .ref h11, .ref h12, .int x6, .int x7, .ref h3, .ref h4, .int x8, .ref h5, .int x9])), (h2, .inr (5, [.ref h7, .ref h8, .int x12, .int x13, .long y1, .long y2, .int x14])), (h3, .inl (gJ g, 7, .inr (.inl fm0))), (h4, .inl (gJ g, 7, .inr (.inl fm1))), (h5, .inl (gJ g, 24, .inr (.inl fm2))), (h7, .inl (gB g, 400, .inl fn0)), (h8, .inl (gJ g, 2400, .inr (.inl fm4)))] (fun sz => c234_X7_wholeBelow l g h1 h6 0 h13 x10 x11 fm3 i_x10 i_x11 sz) gX9_callOther_X7_wholeBelow rfl ⟨rfl, rfl⟩ 1 (by decide) ⟨Nat.le_of_ble_eq_true rfl, Nat.le_of_ble_eq_true rfl⟩ 8 rfl rfl [8, 5] [0, 1, 2, 3, 4, 6, 7] rfl rfl (by decide) (by decide) (by decide) rfl rfl (Nat.le_of_ble_eq_true rfl) ⟨Nat.le_of_ble_eq_true rfl, Nat.le_of_ble_eq_true rfl⟩ (fun r6 _ w7 => ?_)
    refine r_ws [(h0, .inr (8, [.ref h1, .ref h2, .ref h9, .int x0, .int x1, .long y0, .int x2, .int x3, .int x4, .int x5, .ref h10, .ref h11, .ref h12, .int x6, .int x7, .ref h3, .ref h4, .int x8, .ref h5, .int x9])), (h2, .inr (5, [.ref h7, .ref h8, .int x12, .int x13, .long y1, .long y2, .int x14])), (h3, .inl (gJ g, 7, .inr (.inl fm0))), (h4, .inl (gJ g, 7, .inr (.inl fm1))), (h5, .inl (gJ g, 24, .inr (.inl fm2))), (h7, .inl (gB g, 400, .inl fn0)), (h8, .inl (gJ g, 2400, .inr (.inl fm4))), (h1, .inr (6, [.ref h6, .ref h13, .int x10, .int x11])), (h6, .inl (gJ g, 48, .inr (.inl fm3)))] rfl ?_
    have gr6 := fb_rngL r6
    refine r_lstore_n 21 C dX9_callOther_21 [(1, .long r6), (0, .ref h0)] (by decide) rfl ?_
    refine r_aload_n 22 1 C dX9_callOther_22 rfl ?_
    refine r_get 23 C dX9_callOther_23 (k := 0) 0 rfl rfl hiX9 (by decide) rfl (mg 1 rfl) (Or.inr (mg 2 rfl)) rfl ?_
    refine r_iconst 26 1 C dX9_callOther_26 (by decide) ?_
    refine r_callVl 27 C dX9_callOther_27 [] [(h1, .inr (6, [.ref h6, .ref h13, .int x10, .int x11])), (h6, .inl (gJ g, 48, .inr (.inl fm3)))] [(h0, .inr (8, [.ref h1, .ref h2, .ref h9, .int x0, .int x1, .long y0, .int x2, .int x3, .int x4, .int x5, .ref h10, .ref h11, .ref h12, .int x6, .int x7, .ref h3, .ref h4, .int x8, .ref h5, .int x9])), (h2, .inr (5, [.ref h7, .ref h8, .int x12, .int x13, .long y1, .long y2, .int x14])), (h3, .inl (gJ g, 7, .inr (.inl fm0))), (h4, .inl (gJ g, 7, .inr (.inl fm1))), (h5, .inl (gJ g, 24, .inr (.inl fm2))), (h7, .inl (gB g, 400, .inl fn0)), (h8, .inl (gJ g, 2400, .inr (.inl fm4)))] (fun sz => c234_X7_wholeBelow l g h1 h6 1 h13 x10 x11 fm3 i_x10 i_x11 sz) gX9_callOther_X7_wholeBelow rfl ⟨rfl, rfl⟩ 1 (by decide) ⟨Nat.le_of_ble_eq_true rfl, Nat.le_of_ble_eq_true rfl⟩ 7 rfl rfl [7, 8] [0, 1, 2, 3, 4, 5, 6] rfl rfl (by decide) (by decide) (by decide) rfl rfl (Nat.le_of_ble_eq_true rfl) ⟨Nat.le_of_ble_eq_true rfl, Nat.le_of_ble_eq_true rfl⟩ (fun r8 _ w9 => ?_)
    refine r_ws [(h0, .inr (8, [.ref h1, .ref h2, .ref h9, .int x0, .int x1, .long y0, .int x2, .int x3, .int x4, .int x5, .ref h10, .ref h11, .ref h12, .int x6, .int x7, .ref h3, .ref h4, .int x8, .ref h5, .int x9])), (h2, .inr (5, [.ref h7, .ref h8, .int x12, .int x13, .long y1, .long y2, .int x14])), (h3, .inl (gJ g, 7, .inr (.inl fm0))), (h4, .inl (gJ g, 7, .inr (.inl fm1))), (h5, .inl (gJ g, 24, .inr (.inl fm2))), (h7, .inl (gB g, 400, .inl fn0)), (h8, .inl (gJ g, 2400, .inr (.inl fm4))), (h1, .inr (6, [.ref h6, .ref h13, .int x10, .int x11])), (h6, .inl (gJ g, 48, .inr (.inl fm3)))] rfl ?_
    have gr8 := fb_rngL r8
    refine r_lstore_n 30 C dX9_callOther_30 [(3, .long r8), (1, .long r6), (0, .ref h0)] (by decide) rfl ?_
    refine r_lload_n 31 0 C dX9_callOther_31 rfl ?_
    refine r_lconst 32 0 C dX9_callOther_32 (by decide) ?_
    obtain ⟨z10, ez10⟩ : ∃ z_9, lg_cmp r8 0 = z_9 := ⟨_, rfl⟩
    have l1z10 : (Int32.toInt z10) < 0 ↔ (Int64.toInt r8) < 0 := by rw [← ez10]; exact lgI1 r8 0
    have l2z10 : 0 < (Int32.toInt z10) ↔ 0 < (Int64.toInt r8) := by rw [← ez10]; exact lgI2 r8 0
    refine r_lcmp 33 z10 C dX9_callOther_33 ez10 ?_
    refine r_if_ge 34 40 C dX9_callOther_34 (by decide) (fun c11 => ?_) (fun c11 => ?_)
    · skip
      have k12 : 0 ≤ (Int32.toInt z10) := (fa_le 0 z10).mp c11
      refine r_lload_n 40 0 C dX9_callOther_40 rfl ?_
      refine r_aload_n 41 2 C dX9_callOther_41 rfl ?_
      refine r_get 42 C dX9_callOther_42 (k := 0) 0 rfl rfl hiX9 (by decide) rfl (mg 1 rfl) (Or.inr (mg 2 rfl)) rfl ?_
      refine r_callVi 45 C dX9_callOther_45 [.long r8] [(h1, .inr (6, [.ref h6, .ref h13, .int x10, .int x11]))] [(h0, .inr (8, [.ref h1, .ref h2, .ref h9, .int x0, .int x1, .long y0, .int x2, .int x3, .int x4, .int x5, .ref h10, .ref h11, .ref h12, .int x6, .int x7, .ref h3, .ref h4, .int x8, .ref h5, .int x9])), (h2, .inr (5, [.ref h7, .ref h8, .int x12, .int x13, .long y1, .long y2, .int x14])), (h3, .inl (gJ g, 7, .inr (.inl fm0))), (h4, .inl (gJ g, 7, .inr (.inl fm1))), (h5, .inl (gJ g, 24, .inr (.inl fm2))), (h7, .inl (gB g, 400, .inl fn0)), (h8, .inl (gJ g, 2400, .inr (.inl fm4))), (h6, .inl (gJ g, 48, .inr (.inl fm3)))] (fun sz => c231_X7_size l g h1 h6 h13 x10 x11 i_x10 i_x11 sz) gX9_callOther_X7_size rfl ⟨rfl, rfl⟩ 0 (by decide) ⟨Nat.le_of_ble_eq_true rfl, Nat.le_of_ble_eq_true rfl⟩ 7 rfl rfl [7] [0, 1, 2, 3, 4, 5, 6, 8] rfl rfl (by decide) (by decide) (by decide) rfl rfl (Nat.le_of_ble_eq_true rfl) ⟨Nat.le_of_ble_eq_true rfl, Nat.le_of_ble_eq_true rfl⟩ (fun r13 _ w14 => ?_)
      refine r_ws [(h0, .inr (8, [.ref h1, .ref h2, .ref h9, .int x0, .int x1, .long y0, .int x2, .int x3, .int x4, .int x5, .ref h10, .ref h11, .ref h12, .int x6, .int x7, .ref h3, .ref h4, .int x8, .ref h5, .int x9])), (h2, .inr (5, [.ref h7, .ref h8, .int x12, .int x13, .long y1, .long y2, .int x14])), (h3, .inl (gJ g, 7, .inr (.inl fm0))), (h4, .inl (gJ g, 7, .inr (.inl fm1))), (h5, .inl (gJ g, 24, .inr (.inl fm2))), (h7, .inl (gB g, 400, .inl fn0)), (h8, .inl (gJ g, 2400, .inr (.inl fm4))), (h6, .inl (gJ g, 48, .inr (.inl fm3))), (h1, .inr (6, [.ref h6, .ref h13, .int x10, .int x11]))] rfl ?_
      have p15 : x10 = r13 := (w14).symm
      subst p15
      refine r_iconst 48 2 C dX9_callOther_48 (by decide) ?_
      obtain ⟨z16, ez16⟩ : ∃ z_9, x10 - 2 = z_9 := ⟨_, rfl⟩
      have tz16 : (Int32.toInt z16) = (Int32.toInt x10) - 2 := by rw [← ez16]; exact fb_subIv (a := 0) (b := 48) (c := 2) (d := 2) i_x10 ⟨by decide, by decide⟩ (by decide) (by decide)
      refine r_isub 49 z16 C dX9_callOther_49 ez16 ?_
      obtain ⟨z17, ez17⟩ : ∃ z_9, Int32.toInt64 z16 = z_9 := ⟨_, rfl⟩
      have tz17 : (Int64.toInt z17) = (Int32.toInt z16) := by rw [← ez17]; exact Int32.toInt_toInt64 _
      refine r_i2l 50 z17 C dX9_callOther_50 ez17 ?_
      obtain ⟨z18, ez18⟩ : ∃ z_9, lg_cmp r8 z17 = z_9 := ⟨_, rfl⟩
      have l1z18 : (Int32.toInt z18) < 0 ↔ (Int64.toInt r8) < (Int64.toInt z17) := by rw [← ez18]; exact lgI1 r8 z17
      have l2z18 : 0 < (Int32.toInt z18) ↔ (Int64.toInt z17) < (Int64.toInt r8) := by rw [← ez18]; exact lgI2 r8 z17
      refine r_lcmp 51 z18 C dX9_callOther_51 ez18 ?_
      refine r_if_le 52 57 C dX9_callOther_52 (by decide) (fun c19 => ?_) (fun c19 => ?_)
      · skip
        have k20 : (Int32.toInt z18) ≤ 0 := (fa_le z18 0).mp c19
        refine r_aload_n 57 2 C dX9_callOther_57 rfl ?_
        refine r_get 58 C dX9_callOther_58 (k := 0) 0 rfl rfl hiX9 (by decide) rfl (mg 1 rfl) (Or.inr (mg 2 rfl)) rfl ?_
        refine r_iconst 61 2 C dX9_callOther_61 (by decide) ?_
        refine r_callVv 62 C dX9_callOther_62 [] [(h1, .inr (6, [.ref h6, .ref h13, .int x10, .int x11]))] [(h0, .inr (8, [.ref h1, .ref h2, .ref h9, .int x0, .int x1, .long y0, .int x2, .int x3, .int x4, .int x5, .ref h10, .ref h11, .ref h12, .int x6, .int x7, .ref h3, .ref h4, .int x8, .ref h5, .int x9])), (h2, .inr (5, [.ref h7, .ref h8, .int x12, .int x13, .long y1, .long y2, .int x14])), (h3, .inl (gJ g, 7, .inr (.inl fm0))), (h4, .inl (gJ g, 7, .inr (.inl fm1))), (h5, .inl (gJ g, 24, .inr (.inl fm2))), (h7, .inl (gB g, 400, .inl fn0)), (h8, .inl (gJ g, 2400, .inr (.inl fm4))), (h6, .inl (gJ g, 48, .inr (.inl fm3)))] (fun sz => c235_X7_drop l g h1 2 h6 h13 x10 x11 i_x10 i_x11 sz) gX9_callOther_X7_drop rfl ⟨rfl, rfl⟩ 1 (by decide) ⟨Nat.le_of_ble_eq_true rfl, Nat.le_of_ble_eq_true rfl⟩ 8 rfl rfl [8] [0, 1, 2, 3, 4, 5, 6, 7] rfl rfl (by decide) (by decide) (by decide) rfl rfl (Nat.le_of_ble_eq_true rfl) ⟨Nat.le_of_ble_eq_true rfl, Nat.le_of_ble_eq_true rfl⟩ (fun  z21 w22 => ?_)
        refine r_ws [(h0, .inr (8, [.ref h1, .ref h2, .ref h9, .int x0, .int x1, .long y0, .int x2, .int x3, .int x4, .int x5, .ref h10, .ref h11, .ref h12, .int x6, .int x7, .ref h3, .ref h4, .int x8, .ref h5, .int x9])), (h2, .inr (5, [.ref h7, .ref h8, .int x12, .int x13, .long y1, .long y2, .int x14])), (h3, .inl (gJ g, 7, .inr (.inl fm0))), (h4, .inl (gJ g, 7, .inr (.inl fm1))), (h5, .inl (gJ g, 24, .inr (.inl fm2))), (h7, .inl (gB g, 400, .inl fn0)), (h8, .inl (gJ g, 2400, .inr (.inl fm4))), (h6, .inl (gJ g, 48, .inr (.inl fm3))), (h1, .inr (6, [.ref h6, .ref h13, .int z21, .int x11]))] rfl ?_
        have p23 : 0 ≤ (Int32.toInt z21) := w22.1
        have p24 : (Int32.toInt z21) ≤ 48 := w22.2
        refine r_aload_n 65 2 C dX9_callOther_65 rfl ?_
        refine r_iconst 66 0 C dX9_callOther_66 (by decide) ?_
        refine r_put 67 C dX9_callOther_67 (k := 19) 0 rfl rfl hiX9 tyX9 tyX9_ok nmX9 (by decide) rfl (mg 3 rfl) (Or.inl rfl) rfl rfl rfl rfl (Nat.le_of_ble_eq_true rfl) [(h0, .inr (8, [.ref h1, .ref h2, .ref h9, .int x0, .int x1, .long y0, .int x2, .int x3, .int x4, .int x5, .ref h10, .ref h11, .ref h12, .int x6, .int x7, .ref h3, .ref h4, .int x8, .ref h5, .int 0])), (h2, .inr (5, [.ref h7, .ref h8, .int x12, .int x13, .long y1, .long y2, .int x14])), (h3, .inl (gJ g, 7, .inr (.inl fm0))), (h4, .inl (gJ g, 7, .inr (.inl fm1))), (h5, .inl (gJ g, 24, .inr (.inl fm2))), (h7, .inl (gB g, 400, .inl fn0)), (h8, .inl (gJ g, 2400, .inr (.inl fm4))), (h6, .inl (gJ g, 48, .inr (.inl fm3))), (h1, .inr (6, [.ref h6, .ref h13, .int z21, .int x11]))] rfl ?_
        refine r_lload_n 70 0 C dX9_callOther_70 rfl ?_
        obtain ⟨z25, ez25⟩ : ∃ z_9, Int64.toInt32 r8 = z_9 := ⟨_, rfl⟩
        have tz25 : (Int32.toInt z25) = (Int64.toInt r8) := by rw [← ez25]; exact l2i_in (by omega) (by omega)
        refine r_l2i 71 z25 C dX9_callOther_71 ez25 ?_
        refine r_istore 72 C dX9_callOther_72 [(5, .int z25), (3, .long r8), (1, .long r6), (0, .ref h0)] (by decide) rfl ?_
        refine r_iconst 74 0 C dX9_callOther_74 (by decide) ?_
        refine r_istore 75 C dX9_callOther_75 [(6, .int 0), (5, .int z25), (3, .long r8), (1, .long r6), (0, .ref h0)] (by decide) rfl ?_
        refine r_lload_n 77 3 C dX9_callOther_77 rfl ?_
        refine r_lconst 78 0 C dX9_callOther_78 (by decide) ?_
        obtain ⟨z26, ez26⟩ : ∃ z_9, lg_cmp r6 0 = z_9 := ⟨_, rfl⟩
        have l1z26 : (Int32.toInt z26) < 0 ↔ (Int64.toInt r6) < 0 := by rw [← ez26]; exact lgI1 r6 0
        have l2z26 : 0 < (Int32.toInt z26) ↔ 0 < (Int64.toInt r6) := by rw [← ez26]; exact lgI2 r6 0
        refine r_lcmp 79 z26 C dX9_callOther_79 ez26 ?_
        refine r_if_lt 80 91 C dX9_callOther_80 (by decide) (fun c27 => ?_) (fun c27 => ?_)
        · skip
          have k28 : (Int32.toInt z26) < 0 := (fa_lt z26 0).mp c27
          refine r_aload_n 91 4 C dX9_callOther_91 rfl ?_
          refine r_iload 92 1 C dX9_callOther_92 rfl ?_
          refine r_callVv 94 C dX9_callOther_94 [] [(h0, .inr (8, [.ref h1, .ref h2, .ref h9, .int x0, .int x1, .long y0, .int x2, .int x3, .int x4, .int x5, .ref h10, .ref h11, .ref h12, .int x6, .int x7, .ref h3, .ref h4, .int x8, .ref h5, .int 0])), (h1, .inr (6, [.ref h6, .ref h13, .int z21, .int x11])), (h5, .inl (gJ g, 24, .inr (.inl fm2))), (h6, .inl (gJ g, 48, .inr (.inl fm3)))] [(h2, .inr (5, [.ref h7, .ref h8, .int x12, .int x13, .long y1, .long y2, .int x14])), (h3, .inl (gJ g, 7, .inr (.inl fm0))), (h4, .inl (gJ g, 7, .inr (.inl fm1))), (h7, .inl (gB g, 400, .inl fn0)), (h8, .inl (gJ g, 2400, .inr (.inl fm4)))] (fun sz => c241_X9_putAllBy l g h0 h1 h5 h6 z25 h2 h9 x0 x1 y0 x2 x3 x4 x5 h10 h11 h12 x6 x7 h3 h4 x8 0 h13 z21 x11 fm2 fm3 i_x5 i_x6 i_x7 i_x8 (by decide) ⟨p23, p24⟩ i_x11 sz) gX9_callOther_X9_putAllBy rfl ⟨rfl, rfl⟩ 1 (by decide) ⟨Nat.le_of_ble_eq_true rfl, Nat.le_of_ble_eq_true rfl⟩ 0 rfl rfl [0, 8, 4, 7] [1, 2, 3, 5, 6] rfl rfl (by decide) (by decide) (by decide) rfl rfl (Nat.le_of_ble_eq_true rfl) ⟨Nat.le_of_ble_eq_true rfl, Nat.le_of_ble_eq_true rfl⟩ (fun  u32 w31 => ?_)
          obtain ⟨z29, f30⟩ := u32
          refine r_ws [(h2, .inr (5, [.ref h7, .ref h8, .int x12, .int x13, .long y1, .long y2, .int x14])), (h3, .inl (gJ g, 7, .inr (.inl fm0))), (h4, .inl (gJ g, 7, .inr (.inl fm1))), (h7, .inl (gB g, 400, .inl fn0)), (h8, .inl (gJ g, 2400, .inr (.inl fm4))), (h0, .inr (8, [.ref h1, .ref h2, .ref h9, .int x0, .int x1, .long y0, .int x2, .int x3, .int x4, .int x5, .ref h10, .ref h11, .ref h12, .int x6, .int x7, .ref h3, .ref h4, .int x8, .ref h5, .int z29])), (h1, .inr (6, [.ref h6, .ref h13, .int z21, .int x11])), (h5, .inl (gJ g, 24, .inr (.inl f30))), (h6, .inl (gJ g, 48, .inr (.inl fm3)))] rfl ?_
          have p33 : 0 ≤ (Int32.toInt z29) := w31.1
          have p34 : (Int32.toInt z29) ≤ 24 := w31.2
          refine r_goto 97 169 C dX9_callOther_97 (by decide) ?_
          refine r_aload_n 169 4 C dX9_callOther_169 rfl ?_
          refine r_get 170 C dX9_callOther_170 (k := 0) 5 rfl rfl hiX9 (by decide) rfl (mg 1 rfl) (Or.inr (mg 2 rfl)) rfl ?_
          refine r_iload 173 1 C dX9_callOther_173 rfl ?_
          refine r_callVv 175 C dX9_callOther_175 [] [(h1, .inr (6, [.ref h6, .ref h13, .int z21, .int x11]))] [(h2, .inr (5, [.ref h7, .ref h8, .int x12, .int x13, .long y1, .long y2, .int x14])), (h3, .inl (gJ g, 7, .inr (.inl fm0))), (h4, .inl (gJ g, 7, .inr (.inl fm1))), (h7, .inl (gB g, 400, .inl fn0)), (h8, .inl (gJ g, 2400, .inr (.inl fm4))), (h0, .inr (8, [.ref h1, .ref h2, .ref h9, .int x0, .int x1, .long y0, .int x2, .int x3, .int x4, .int x5, .ref h10, .ref h11, .ref h12, .int x6, .int x7, .ref h3, .ref h4, .int x8, .ref h5, .int z29])), (h5, .inl (gJ g, 24, .inr (.inl f30))), (h6, .inl (gJ g, 48, .inr (.inl fm3)))] (fun sz => c235_X7_drop l g h1 z25 h6 h13 z21 x11 ⟨p23, p24⟩ i_x11 sz) gX9_callOther_X7_drop rfl ⟨rfl, rfl⟩ 1 (by decide) ⟨Nat.le_of_ble_eq_true rfl, Nat.le_of_ble_eq_true rfl⟩ 6 rfl rfl [6] [0, 1, 2, 3, 4, 5, 7, 8] rfl rfl (by decide) (by decide) (by decide) rfl rfl (Nat.le_of_ble_eq_true rfl) ⟨Nat.le_of_ble_eq_true rfl, Nat.le_of_ble_eq_true rfl⟩ (fun  z35 w36 => ?_)
          refine r_ws [(h2, .inr (5, [.ref h7, .ref h8, .int x12, .int x13, .long y1, .long y2, .int x14])), (h3, .inl (gJ g, 7, .inr (.inl fm0))), (h4, .inl (gJ g, 7, .inr (.inl fm1))), (h7, .inl (gB g, 400, .inl fn0)), (h8, .inl (gJ g, 2400, .inr (.inl fm4))), (h0, .inr (8, [.ref h1, .ref h2, .ref h9, .int x0, .int x1, .long y0, .int x2, .int x3, .int x4, .int x5, .ref h10, .ref h11, .ref h12, .int x6, .int x7, .ref h3, .ref h4, .int x8, .ref h5, .int z29])), (h5, .inl (gJ g, 24, .inr (.inl f30))), (h6, .inl (gJ g, 48, .inr (.inl fm3))), (h1, .inr (6, [.ref h6, .ref h13, .int z35, .int x11]))] rfl ?_
          have p37 : 0 ≤ (Int32.toInt z35) := w36.1
          have p38 : (Int32.toInt z35) ≤ 48 := w36.2
          refine r_iload 178 0 C dX9_callOther_178 rfl ?_
          exact r_iret 180 Rt dX9_callOther_180 (x7, x8, z29, z35, x12, y1, y2, x14, fm0, fm1, f30, fn0, fm4) (show 0 ≤ (Int32.toInt 0) ∧ (Int32.toInt 0) ≤ 9 ∧ 0 ≤ (Int32.toInt x7) ∧ (Int32.toInt x7) ≤ 1 ∧ 0 ≤ (Int32.toInt x8) ∧ (Int32.toInt x8) ≤ 7 ∧ 0 ≤ (Int32.toInt z29) ∧ (Int32.toInt z29) ≤ 24 ∧ 0 ≤ (Int32.toInt z35) ∧ (Int32.toInt z35) ≤ 48 ∧ 0 ≤ (Int32.toInt x12) ∧ (Int32.toInt x12) ≤ 400 ∧ 0 ≤ (Int32.toInt x14) ∧ (Int32.toInt x14) ≤ 1 from ⟨(by ((repeat' apply And.intro) <;> first | trivial | rfl | assumption | omega | decide | exact Or.inl rfl | exact Or.inr (Or.inl rfl) | exact Or.inr (Or.inr rfl))), (by ((repeat' apply And.intro) <;> first | trivial | rfl | assumption | omega | decide | exact Or.inl rfl | exact Or.inr (Or.inl rfl) | exact Or.inr (Or.inr rfl))), i_x7.1, i_x7.2, i_x8.1, i_x8.2, (show _ ∧ _ from ⟨p33, p34⟩).1, (show _ ∧ _ from ⟨p33, p34⟩).2, (show _ ∧ _ from ⟨p37, p38⟩).1, (show _ ∧ _ from ⟨p37, p38⟩).2, i_x12.1, i_x12.2, i_x14.1, i_x14.2⟩) [5, 8, 0, 1, 2, 6, 7, 3, 4] (by decide) rfl (Nat.le_of_ble_eq_true rfl) (Nat.le_of_ble_eq_true rfl)
        · skip
          have k39 : ¬ ((Int32.toInt z26) < 0) := fun h_9 => c27 ((fa_lt z26 0).mpr h_9)
          refine r_lload_n 83 3 C dX9_callOther_83 rfl ?_
          refine r_ldc2 84 3 C dX9_callOther_84 (mg 4 rfl) ?_
          obtain ⟨z40, ez40⟩ : ∃ z_9, lg_cmp r6 3 = z_9 := ⟨_, rfl⟩
          have l1z40 : (Int32.toInt z40) < 0 ↔ (Int64.toInt r6) < 3 := by rw [← ez40]; exact lgI1 r6 3
          have l2z40 : 0 < (Int32.toInt z40) ↔ 3 < (Int64.toInt r6) := by rw [← ez40]; exact lgI2 r6 3
          refine r_lcmp 87 z40 C dX9_callOther_87 ez40 ?_
          refine r_if_le 88 100 C dX9_callOther_88 (by decide) (fun c41 => ?_) (fun c41 => ?_)
          · skip
            have k42 : (Int32.toInt z40) ≤ 0 := (fa_le z40 0).mp c41
            refine r_iload 100 1 C dX9_callOther_100 rfl ?_
            refine r_lload_n 102 3 C dX9_callOther_102 rfl ?_
            obtain ⟨z43, ez43⟩ : ∃ z_9, Int64.toInt32 r6 = z_9 := ⟨_, rfl⟩
            have tz43 : (Int32.toInt z43) = (Int64.toInt r6) := by rw [← ez43]; exact l2i_in (by omega) (by omega)
            refine r_l2i 103 z43 C dX9_callOther_103 ez43 ?_
            refine r_callSi 104 C dX9_callOther_104 [.int z25] [] [(h0, .inr (8, [.ref h1, .ref h2, .ref h9, .int x0, .int x1, .long y0, .int x2, .int x3, .int x4, .int x5, .ref h10, .ref h11, .ref h12, .int x6, .int x7, .ref h3, .ref h4, .int x8, .ref h5, .int 0])), (h2, .inr (5, [.ref h7, .ref h8, .int x12, .int x13, .long y1, .long y2, .int x14])), (h3, .inl (gJ g, 7, .inr (.inl fm0))), (h4, .inl (gJ g, 7, .inr (.inl fm1))), (h5, .inl (gJ g, 24, .inr (.inl fm2))), (h7, .inl (gB g, 400, .inl fn0)), (h8, .inl (gJ g, 2400, .inr (.inl fm4))), (h6, .inl (gJ g, 48, .inr (.inl fm3))), (h1, .inr (6, [.ref h6, .ref h13, .int z21, .int x11]))] (fun sz => c242_X9_takenBy l g z43  sz) gX9_callOther_X9_takenBy rfl ⟨rfl, rfl⟩ 1 (by decide) ⟨Nat.le_of_ble_eq_true rfl, Nat.le_of_ble_eq_true rfl⟩ [] [0, 1, 2, 3, 4, 5, 6, 7, 8] rfl rfl (by decide) (by decide) (by decide) rfl rfl (Nat.le_of_ble_eq_true rfl) ⟨Nat.le_of_ble_eq_true rfl, Nat.le_of_ble_eq_true rfl⟩ (fun r44 _ w45 => ?_)
            refine r_ws [(h0, .inr (8, [.ref h1, .ref h2, .ref h9, .int x0, .int x1, .long y0, .int x2, .int x3, .int x4, .int x5, .ref h10, .ref h11, .ref h12, .int x6, .int x7, .ref h3, .ref h4, .int x8, .ref h5, .int 0])), (h2, .inr (5, [.ref h7, .ref h8, .int x12, .int x13, .long y1, .long y2, .int x14])), (h3, .inl (gJ g, 7, .inr (.inl fm0))), (h4, .inl (gJ g, 7, .inr (.inl fm1))), (h5, .inl (gJ g, 24, .inr (.inl fm2))), (h7, .inl (gB g, 400, .inl fn0)), (h8, .inl (gJ g, 2400, .inr (.inl fm4))), (h6, .inl (gJ g, 48, .inr (.inl fm3))), (h1, .inr (6, [.ref h6, .ref h13, .int z21, .int x11]))] rfl ?_
            have p46 : 0 ≤ (Int32.toInt r44) := w45.1
            have p47 : (Int32.toInt r44) ≤ 3 := w45.2
            refine r_icmp_eq 107 117 C dX9_callOther_107 (by decide) (fun c48 => ?_) (fun c48 => ?_)
            · skip
              have k49 : (Int32.toInt z25) = (Int32.toInt r44) := (fa_eq z25 r44).mp c48
              refine r_lload_n 117 3 C dX9_callOther_117 rfl ?_
              refine r_lconst 118 0 C dX9_callOther_118 (by decide) ?_
              obtain ⟨z50, ez50⟩ : ∃ z_9, lg_cmp r6 0 = z_9 := ⟨_, rfl⟩
              have l1z50 : (Int32.toInt z50) < 0 ↔ (Int64.toInt r6) < 0 := by rw [← ez50]; exact lgI1 r6 0
              have l2z50 : 0 < (Int32.toInt z50) ↔ 0 < (Int64.toInt r6) := by rw [← ez50]; exact lgI2 r6 0
              refine r_lcmp 119 z50 C dX9_callOther_119 ez50 ?_
              refine r_if_ne 120 132 C dX9_callOther_120 (by decide) (fun c51 => ?_) (fun c51 => ?_)
              · skip
                have k52 : ¬ ((Int32.toInt z50) = 0) := fun h_9 => c51 ((fa_eq z50 0).mpr h_9)
                refine r_lload_n 132 3 C dX9_callOther_132 rfl ?_
                refine r_lconst 133 1 C dX9_callOther_133 (by decide) ?_
                obtain ⟨z53, ez53⟩ : ∃ z_9, lg_cmp r6 1 = z_9 := ⟨_, rfl⟩
                have l1z53 : (Int32.toInt z53) < 0 ↔ (Int64.toInt r6) < 1 := by rw [← ez53]; exact lgI1 r6 1
                have l2z53 : 0 < (Int32.toInt z53) ↔ 1 < (Int64.toInt r6) := by rw [← ez53]; exact lgI2 r6 1
                refine r_lcmp 134 z53 C dX9_callOther_134 ez53 ?_
                refine r_if_ne 135 145 C dX9_callOther_135 (by decide) (fun c54 => ?_) (fun c54 => ?_)
                · skip
                  have k55 : ¬ ((Int32.toInt z53) = 0) := fun h_9 => c54 ((fa_eq z53 0).mpr h_9)
                  refine r_lload_n 145 3 C dX9_callOther_145 rfl ?_
                  refine r_ldc2 146 2 C dX9_callOther_146 (mg 5 rfl) ?_
                  obtain ⟨z56, ez56⟩ : ∃ z_9, lg_cmp r6 2 = z_9 := ⟨_, rfl⟩
                  have l1z56 : (Int32.toInt z56) < 0 ↔ (Int64.toInt r6) < 2 := by rw [← ez56]; exact lgI1 r6 2
                  have l2z56 : 0 < (Int32.toInt z56) ↔ 2 < (Int64.toInt r6) := by rw [← ez56]; exact lgI2 r6 2
                  refine r_lcmp 149 z56 C dX9_callOther_149 ez56 ?_
                  refine r_if_ne 150 162 C dX9_callOther_150 (by decide) (fun c57 => ?_) (fun c57 => ?_)
                  · skip
                    have k58 : ¬ ((Int32.toInt z56) = 0) := fun h_9 => c57 ((fa_eq z56 0).mpr h_9)
                    refine r_aload_n 162 4 C dX9_callOther_162 rfl ?_
                    refine r_ldc2 163 196608 C dX9_callOther_163 (mg 6 rfl) ?_
                    refine r_callVv 166 C dX9_callOther_166 [] [(h0, .inr (8, [.ref h1, .ref h2, .ref h9, .int x0, .int x1, .long y0, .int x2, .int x3, .int x4, .int x5, .ref h10, .ref h11, .ref h12, .int x6, .int x7, .ref h3, .ref h4, .int x8, .ref h5, .int 0])), (h5, .inl (gJ g, 24, .inr (.inl fm2)))] [(h2, .inr (5, [.ref h7, .ref h8, .int x12, .int x13, .long y1, .long y2, .int x14])), (h3, .inl (gJ g, 7, .inr (.inl fm0))), (h4, .inl (gJ g, 7, .inr (.inl fm1))), (h7, .inl (gB g, 400, .inl fn0)), (h8, .inl (gJ g, 2400, .inr (.inl fm4))), (h6, .inl (gJ g, 48, .inr (.inl fm3))), (h1, .inr (6, [.ref h6, .ref h13, .int z21, .int x11]))] (fun sz => c240_X9_putOneBy l g h0 h5 196608 h1 h2 h9 x0 x1 y0 x2 x3 x4 x5 h10 h11 h12 x6 x7 h3 h4 x8 0 fm2 i_x5 i_x6 i_x7 i_x8 (by decide) sz) gX9_callOther_X9_putOneBy rfl ⟨rfl, rfl⟩ 1 (by decide) ⟨Nat.le_of_ble_eq_true rfl, Nat.le_of_ble_eq_true rfl⟩ 0 rfl rfl [0, 4] [1, 2, 3, 5, 6, 7, 8] rfl rfl (by decide) (by decide) (by decide) rfl rfl (Nat.le_of_ble_eq_true rfl) ⟨Nat.le_of_ble_eq_true rfl, Nat.le_of_ble_eq_true rfl⟩ (fun  u62 w61 => ?_)
                    obtain ⟨z59, f60⟩ := u62
                    refine r_ws [(h2, .inr (5, [.ref h7, .ref h8, .int x12, .int x13, .long y1, .long y2, .int x14])), (h3, .inl (gJ g, 7, .inr (.inl fm0))), (h4, .inl (gJ g, 7, .inr (.inl fm1))), (h7, .inl (gB g, 400, .inl fn0)), (h8, .inl (gJ g, 2400, .inr (.inl fm4))), (h6, .inl (gJ g, 48, .inr (.inl fm3))), (h1, .inr (6, [.ref h6, .ref h13, .int z21, .int x11])), (h0, .inr (8, [.ref h1, .ref h2, .ref h9, .int x0, .int x1, .long y0, .int x2, .int x3, .int x4, .int x5, .ref h10, .ref h11, .ref h12, .int x6, .int x7, .ref h3, .ref h4, .int x8, .ref h5, .int z59])), (h5, .inl (gJ g, 24, .inr (.inl f60)))] rfl ?_
                    have p63 : 0 ≤ (Int32.toInt z59) := w61.1
                    have p64 : (Int32.toInt z59) ≤ 24 := w61.2
                    refine r_aload_n 169 4 C dX9_callOther_169 rfl ?_
                    refine r_get 170 C dX9_callOther_170 (k := 0) 7 rfl rfl hiX9 (by decide) rfl (mg 1 rfl) (Or.inr (mg 2 rfl)) rfl ?_
                    refine r_iload 173 1 C dX9_callOther_173 rfl ?_
                    refine r_callVv 175 C dX9_callOther_175 [] [(h1, .inr (6, [.ref h6, .ref h13, .int z21, .int x11]))] [(h2, .inr (5, [.ref h7, .ref h8, .int x12, .int x13, .long y1, .long y2, .int x14])), (h3, .inl (gJ g, 7, .inr (.inl fm0))), (h4, .inl (gJ g, 7, .inr (.inl fm1))), (h7, .inl (gB g, 400, .inl fn0)), (h8, .inl (gJ g, 2400, .inr (.inl fm4))), (h6, .inl (gJ g, 48, .inr (.inl fm3))), (h0, .inr (8, [.ref h1, .ref h2, .ref h9, .int x0, .int x1, .long y0, .int x2, .int x3, .int x4, .int x5, .ref h10, .ref h11, .ref h12, .int x6, .int x7, .ref h3, .ref h4, .int x8, .ref h5, .int z59])), (h5, .inl (gJ g, 24, .inr (.inl f60)))] (fun sz => c235_X7_drop l g h1 z25 h6 h13 z21 x11 ⟨p23, p24⟩ i_x11 sz) gX9_callOther_X7_drop rfl ⟨rfl, rfl⟩ 1 (by decide) ⟨Nat.le_of_ble_eq_true rfl, Nat.le_of_ble_eq_true rfl⟩ 6 rfl rfl [6] [0, 1, 2, 3, 4, 5, 7, 8] rfl rfl (by decide) (by decide) (by decide) rfl rfl (Nat.le_of_ble_eq_true rfl) ⟨Nat.le_of_ble_eq_true rfl, Nat.le_of_ble_eq_true rfl⟩ (fun  z65 w66 => ?_)
                    refine r_ws [(h2, .inr (5, [.ref h7, .ref h8, .int x12, .int x13, .long y1, .long y2, .int x14])), (h3, .inl (gJ g, 7, .inr (.inl fm0))), (h4, .inl (gJ g, 7, .inr (.inl fm1))), (h7, .inl (gB g, 400, .inl fn0)), (h8, .inl (gJ g, 2400, .inr (.inl fm4))), (h6, .inl (gJ g, 48, .inr (.inl fm3))), (h0, .inr (8, [.ref h1, .ref h2, .ref h9, .int x0, .int x1, .long y0, .int x2, .int x3, .int x4, .int x5, .ref h10, .ref h11, .ref h12, .int x6, .int x7, .ref h3, .ref h4, .int x8, .ref h5, .int z59])), (h5, .inl (gJ g, 24, .inr (.inl f60))), (h1, .inr (6, [.ref h6, .ref h13, .int z65, .int x11]))] rfl ?_
                    have p67 : 0 ≤ (Int32.toInt z65) := w66.1
                    have p68 : (Int32.toInt z65) ≤ 48 := w66.2
                    refine r_iload 178 0 C dX9_callOther_178 rfl ?_
                    exact r_iret 180 Rt dX9_callOther_180 (x7, x8, z59, z65, x12, y1, y2, x14, fm0, fm1, f60, fn0, fm4) (show 0 ≤ (Int32.toInt 0) ∧ (Int32.toInt 0) ≤ 9 ∧ 0 ≤ (Int32.toInt x7) ∧ (Int32.toInt x7) ≤ 1 ∧ 0 ≤ (Int32.toInt x8) ∧ (Int32.toInt x8) ≤ 7 ∧ 0 ≤ (Int32.toInt z59) ∧ (Int32.toInt z59) ≤ 24 ∧ 0 ≤ (Int32.toInt z65) ∧ (Int32.toInt z65) ≤ 48 ∧ 0 ≤ (Int32.toInt x12) ∧ (Int32.toInt x12) ≤ 400 ∧ 0 ≤ (Int32.toInt x14) ∧ (Int32.toInt x14) ≤ 1 from ⟨(by ((repeat' apply And.intro) <;> first | trivial | rfl | assumption | omega | decide | exact Or.inl rfl | exact Or.inr (Or.inl rfl) | exact Or.inr (Or.inr rfl))), (by ((repeat' apply And.intro) <;> first | trivial | rfl | assumption | omega | decide | exact Or.inl rfl | exact Or.inr (Or.inl rfl) | exact Or.inr (Or.inr rfl))), i_x7.1, i_x7.2, i_x8.1, i_x8.2, (show _ ∧ _ from ⟨p63, p64⟩).1, (show _ ∧ _ from ⟨p63, p64⟩).2, (show _ ∧ _ from ⟨p67, p68⟩).1, (show _ ∧ _ from ⟨p67, p68⟩).2, i_x12.1, i_x12.2, i_x14.1, i_x14.2⟩) [6, 8, 0, 1, 2, 7, 5, 3, 4] (by decide) rfl (Nat.le_of_ble_eq_true rfl) (Nat.le_of_ble_eq_true rfl)
                  · skip
                    have k69 : (Int32.toInt z56) = 0 := (fa_eq z56 0).mp c57
                    refine r_aload_n 153 4 C dX9_callOther_153 rfl ?_
                    refine r_callVi 154 C dX9_callOther_154 [] [(h0, .inr (8, [.ref h1, .ref h2, .ref h9, .int x0, .int x1, .long y0, .int x2, .int x3, .int x4, .int x5, .ref h10, .ref h11, .ref h12, .int x6, .int x7, .ref h3, .ref h4, .int x8, .ref h5, .int 0])), (h2, .inr (5, [.ref h7, .ref h8, .int x12, .int x13, .long y1, .long y2, .int x14])), (h3, .inl (gJ g, 7, .inr (.inl fm0))), (h4, .inl (gJ g, 7, .inr (.inl fm1)))] [(h5, .inl (gJ g, 24, .inr (.inl fm2))), (h7, .inl (gB g, 400, .inl fn0)), (h8, .inl (gJ g, 2400, .inr (.inl fm4))), (h6, .inl (gJ g, 48, .inr (.inl fm3))), (h1, .inr (6, [.ref h6, .ref h13, .int z21, .int x11]))] (fun sz => c243_X9_keepPoint l g h0 h2 h3 h4 h1 h9 x0 x1 y0 x2 x3 x4 x5 h10 h11 h12 x6 x7 x8 h5 0 h7 h8 x12 x13 y1 y2 x14 fm0 fm1 i_x5 i_x6 i_x7 i_x8 (by decide) i_x12 i_x13 i_x14 sz) gX9_callOther_X9_keepPoint rfl ⟨rfl, rfl⟩ 0 (by decide) ⟨Nat.le_of_ble_eq_true rfl, Nat.le_of_ble_eq_true rfl⟩ 0 rfl rfl [0, 1, 2, 3] [4, 5, 6, 7, 8] rfl rfl (by decide) (by decide) (by decide) rfl rfl (Nat.le_of_ble_eq_true rfl) ⟨Nat.le_of_ble_eq_true rfl, Nat.le_of_ble_eq_true rfl⟩ (fun r73 u75 w74 => ?_)
                    obtain ⟨z70, f71, f72⟩ := u75
                    refine r_ws [(h5, .inl (gJ g, 24, .inr (.inl fm2))), (h7, .inl (gB g, 400, .inl fn0)), (h8, .inl (gJ g, 2400, .inr (.inl fm4))), (h6, .inl (gJ g, 48, .inr (.inl fm3))), (h1, .inr (6, [.ref h6, .ref h13, .int z21, .int x11])), (h0, .inr (8, [.ref h1, .ref h2, .ref h9, .int x0, .int x1, .long y0, .int x2, .int x3, .int x4, .int x5, .ref h10, .ref h11, .ref h12, .int x6, .int x7, .ref h3, .ref h4, .int z70, .ref h5, .int 0])), (h2, .inr (5, [.ref h7, .ref h8, .int x12, .int x13, .long y1, .long y2, .int x14])), (h3, .inl (gJ g, 7, .inr (.inl f71))), (h4, .inl (gJ g, 7, .inr (.inl f72)))] rfl ?_
                    have p76 : 0 ≤ (Int32.toInt r73) := w74.1
                    have p77 : (Int32.toInt r73) ≤ 9 := w74.2.1
                    have p78 : 0 ≤ (Int32.toInt z70) := w74.2.2.1
                    have p79 : (Int32.toInt z70) ≤ 7 := w74.2.2.2
                    refine r_istore 157 C dX9_callOther_157 [(6, .int r73), (5, .int z25), (3, .long r8), (1, .long r6), (0, .ref h0)] (by decide) rfl ?_
                    refine r_goto 159 169 C dX9_callOther_159 (by decide) ?_
                    refine r_aload_n 169 4 C dX9_callOther_169 rfl ?_
                    refine r_get 170 C dX9_callOther_170 (k := 0) 5 rfl rfl hiX9 (by decide) rfl (mg 1 rfl) (Or.inr (mg 2 rfl)) rfl ?_
                    refine r_iload 173 1 C dX9_callOther_173 rfl ?_
                    refine r_callVv 175 C dX9_callOther_175 [] [(h1, .inr (6, [.ref h6, .ref h13, .int z21, .int x11]))] [(h5, .inl (gJ g, 24, .inr (.inl fm2))), (h7, .inl (gB g, 400, .inl fn0)), (h8, .inl (gJ g, 2400, .inr (.inl fm4))), (h6, .inl (gJ g, 48, .inr (.inl fm3))), (h0, .inr (8, [.ref h1, .ref h2, .ref h9, .int x0, .int x1, .long y0, .int x2, .int x3, .int x4, .int x5, .ref h10, .ref h11, .ref h12, .int x6, .int x7, .ref h3, .ref h4, .int z70, .ref h5, .int 0])), (h2, .inr (5, [.ref h7, .ref h8, .int x12, .int x13, .long y1, .long y2, .int x14])), (h3, .inl (gJ g, 7, .inr (.inl f71))), (h4, .inl (gJ g, 7, .inr (.inl f72)))] (fun sz => c235_X7_drop l g h1 z25 h6 h13 z21 x11 ⟨p23, p24⟩ i_x11 sz) gX9_callOther_X7_drop rfl ⟨rfl, rfl⟩ 1 (by decide) ⟨Nat.le_of_ble_eq_true rfl, Nat.le_of_ble_eq_true rfl⟩ 4 rfl rfl [4] [0, 1, 2, 3, 5, 6, 7, 8] rfl rfl (by decide) (by decide) (by decide) rfl rfl (Nat.le_of_ble_eq_true rfl) ⟨Nat.le_of_ble_eq_true rfl, Nat.le_of_ble_eq_true rfl⟩ (fun  z80 w81 => ?_)
                    refine r_ws [(h5, .inl (gJ g, 24, .inr (.inl fm2))), (h7, .inl (gB g, 400, .inl fn0)), (h8, .inl (gJ g, 2400, .inr (.inl fm4))), (h6, .inl (gJ g, 48, .inr (.inl fm3))), (h0, .inr (8, [.ref h1, .ref h2, .ref h9, .int x0, .int x1, .long y0, .int x2, .int x3, .int x4, .int x5, .ref h10, .ref h11, .ref h12, .int x6, .int x7, .ref h3, .ref h4, .int z70, .ref h5, .int 0])), (h2, .inr (5, [.ref h7, .ref h8, .int x12, .int x13, .long y1, .long y2, .int x14])), (h3, .inl (gJ g, 7, .inr (.inl f71))), (h4, .inl (gJ g, 7, .inr (.inl f72))), (h1, .inr (6, [.ref h6, .ref h13, .int z80, .int x11]))] rfl ?_
                    have p82 : 0 ≤ (Int32.toInt z80) := w81.1
                    have p83 : (Int32.toInt z80) ≤ 48 := w81.2
                    refine r_iload 178 0 C dX9_callOther_178 rfl ?_
                    exact r_iret 180 Rt dX9_callOther_180 (x7, z70, 0, z80, x12, y1, y2, x14, f71, f72, fm2, fn0, fm4) (show 0 ≤ (Int32.toInt r73) ∧ (Int32.toInt r73) ≤ 9 ∧ 0 ≤ (Int32.toInt x7) ∧ (Int32.toInt x7) ≤ 1 ∧ 0 ≤ (Int32.toInt z70) ∧ (Int32.toInt z70) ≤ 7 ∧ 0 ≤ (Int32.toInt 0) ∧ (Int32.toInt 0) ≤ 24 ∧ 0 ≤ (Int32.toInt z80) ∧ (Int32.toInt z80) ≤ 48 ∧ 0 ≤ (Int32.toInt x12) ∧ (Int32.toInt x12) ≤ 400 ∧ 0 ≤ (Int32.toInt x14) ∧ (Int32.toInt x14) ≤ 1 from ⟨(show _ ∧ _ from ⟨p76, p77⟩).1, (show _ ∧ _ from ⟨p76, p77⟩).2, i_x7.1, i_x7.2, (show _ ∧ _ from ⟨p78, p79⟩).1, (show _ ∧ _ from ⟨p78, p79⟩).2, (by ((repeat' apply And.intro) <;> first | trivial | rfl | assumption | omega | decide | exact Or.inl rfl | exact Or.inr (Or.inl rfl) | exact Or.inr (Or.inr rfl))), (by ((repeat' apply And.intro) <;> first | trivial | rfl | assumption | omega | decide | exact Or.inl rfl | exact Or.inr (Or.inl rfl) | exact Or.inr (Or.inr rfl))), (show _ ∧ _ from ⟨p82, p83⟩).1, (show _ ∧ _ from ⟨p82, p83⟩).2, i_x12.1, i_x12.2, i_x14.1, i_x14.2⟩) [4, 8, 5, 6, 7, 0, 3, 1, 2] (by decide) rfl (Nat.le_of_ble_eq_true rfl) (Nat.le_of_ble_eq_true rfl)
                · skip
                  have k84 : (Int32.toInt z53) = 0 := (fa_eq z53 0).mp c54
                  refine r_aload_n 138 4 C dX9_callOther_138 rfl ?_
                  refine r_callVv 139 C dX9_callOther_139 [] [(h0, .inr (8, [.ref h1, .ref h2, .ref h9, .int x0, .int x1, .long y0, .int x2, .int x3, .int x4, .int x5, .ref h10, .ref h11, .ref h12, .int x6, .int x7, .ref h3, .ref h4, .int x8, .ref h5, .int 0]))] [(h2, .inr (5, [.ref h7, .ref h8, .int x12, .int x13, .long y1, .long y2, .int x14])), (h3, .inl (gJ g, 7, .inr (.inl fm0))), (h4, .inl (gJ g, 7, .inr (.inl fm1))), (h5, .inl (gJ g, 24, .inr (.inl fm2))), (h7, .inl (gB g, 400, .inl fn0)), (h8, .inl (gJ g, 2400, .inr (.inl fm4))), (h6, .inl (gJ g, 48, .inr (.inl fm3))), (h1, .inr (6, [.ref h6, .ref h13, .int z21, .int x11]))] (fun sz => c244_X9_beginFlex l g h0 h1 h2 h9 x0 x1 y0 x2 x3 x4 x5 h10 h11 h12 x6 x7 h3 h4 x8 h5 0 i_x5 i_x6 i_x7 i_x8 (by decide) sz) gX9_callOther_X9_beginFlex rfl ⟨rfl, rfl⟩ 0 (by decide) ⟨Nat.le_of_ble_eq_true rfl, Nat.le_of_ble_eq_true rfl⟩ 0 rfl rfl [0] [1, 2, 3, 4, 5, 6, 7, 8] rfl rfl (by decide) (by decide) (by decide) rfl rfl (Nat.le_of_ble_eq_true rfl) ⟨Nat.le_of_ble_eq_true rfl, Nat.le_of_ble_eq_true rfl⟩ (fun  _ w85 => ?_)
                  refine r_ws [(h2, .inr (5, [.ref h7, .ref h8, .int x12, .int x13, .long y1, .long y2, .int x14])), (h3, .inl (gJ g, 7, .inr (.inl fm0))), (h4, .inl (gJ g, 7, .inr (.inl fm1))), (h5, .inl (gJ g, 24, .inr (.inl fm2))), (h7, .inl (gB g, 400, .inl fn0)), (h8, .inl (gJ g, 2400, .inr (.inl fm4))), (h6, .inl (gJ g, 48, .inr (.inl fm3))), (h1, .inr (6, [.ref h6, .ref h13, .int z21, .int x11])), (h0, .inr (8, [.ref h1, .ref h2, .ref h9, .int x0, .int x1, .long y0, .int x2, .int x3, .int x4, .int x5, .ref h10, .ref h11, .ref h12, .int x6, .int 1, .ref h3, .ref h4, .int 0, .ref h5, .int 0]))] rfl ?_
                  refine r_goto 142 169 C dX9_callOther_142 (by decide) ?_
                  refine r_aload_n 169 4 C dX9_callOther_169 rfl ?_
                  refine r_get 170 C dX9_callOther_170 (k := 0) 8 rfl rfl hiX9 (by decide) rfl (mg 1 rfl) (Or.inr (mg 2 rfl)) rfl ?_
                  refine r_iload 173 1 C dX9_callOther_173 rfl ?_
                  refine r_callVv 175 C dX9_callOther_175 [] [(h1, .inr (6, [.ref h6, .ref h13, .int z21, .int x11]))] [(h2, .inr (5, [.ref h7, .ref h8, .int x12, .int x13, .long y1, .long y2, .int x14])), (h3, .inl (gJ g, 7, .inr (.inl fm0))), (h4, .inl (gJ g, 7, .inr (.inl fm1))), (h5, .inl (gJ g, 24, .inr (.inl fm2))), (h7, .inl (gB g, 400, .inl fn0)), (h8, .inl (gJ g, 2400, .inr (.inl fm4))), (h6, .inl (gJ g, 48, .inr (.inl fm3))), (h0, .inr (8, [.ref h1, .ref h2, .ref h9, .int x0, .int x1, .long y0, .int x2, .int x3, .int x4, .int x5, .ref h10, .ref h11, .ref h12, .int x6, .int 1, .ref h3, .ref h4, .int 0, .ref h5, .int 0]))] (fun sz => c235_X7_drop l g h1 z25 h6 h13 z21 x11 ⟨p23, p24⟩ i_x11 sz) gX9_callOther_X7_drop rfl ⟨rfl, rfl⟩ 1 (by decide) ⟨Nat.le_of_ble_eq_true rfl, Nat.le_of_ble_eq_true rfl⟩ 7 rfl rfl [7] [0, 1, 2, 3, 4, 5, 6, 8] rfl rfl (by decide) (by decide) (by decide) rfl rfl (Nat.le_of_ble_eq_true rfl) ⟨Nat.le_of_ble_eq_true rfl, Nat.le_of_ble_eq_true rfl⟩ (fun  z86 w87 => ?_)
                  refine r_ws [(h2, .inr (5, [.ref h7, .ref h8, .int x12, .int x13, .long y1, .long y2, .int x14])), (h3, .inl (gJ g, 7, .inr (.inl fm0))), (h4, .inl (gJ g, 7, .inr (.inl fm1))), (h5, .inl (gJ g, 24, .inr (.inl fm2))), (h7, .inl (gB g, 400, .inl fn0)), (h8, .inl (gJ g, 2400, .inr (.inl fm4))), (h6, .inl (gJ g, 48, .inr (.inl fm3))), (h0, .inr (8, [.ref h1, .ref h2, .ref h9, .int x0, .int x1, .long y0, .int x2, .int x3, .int x4, .int x5, .ref h10, .ref h11, .ref h12, .int x6, .int 1, .ref h3, .ref h4, .int 0, .ref h5, .int 0])), (h1, .inr (6, [.ref h6, .ref h13, .int z86, .int x11]))] rfl ?_
                  have p88 : 0 ≤ (Int32.toInt z86) := w87.1
                  have p89 : (Int32.toInt z86) ≤ 48 := w87.2
                  refine r_iload 178 0 C dX9_callOther_178 rfl ?_
                  exact r_iret 180 Rt dX9_callOther_180 (1, 0, 0, z86, x12, y1, y2, x14, fm0, fm1, fm2, fn0, fm4) (show 0 ≤ (Int32.toInt 0) ∧ (Int32.toInt 0) ≤ 9 ∧ 0 ≤ (Int32.toInt 1) ∧ (Int32.toInt 1) ≤ 1 ∧ 0 ≤ (Int32.toInt 0) ∧ (Int32.toInt 0) ≤ 7 ∧ 0 ≤ (Int32.toInt 0) ∧ (Int32.toInt 0) ≤ 24 ∧ 0 ≤ (Int32.toInt z86) ∧ (Int32.toInt z86) ≤ 48 ∧ 0 ≤ (Int32.toInt x12) ∧ (Int32.toInt x12) ≤ 400 ∧ 0 ≤ (Int32.toInt x14) ∧ (Int32.toInt x14) ≤ 1 from ⟨(by ((repeat' apply And.intro) <;> first | trivial | rfl | assumption | omega | decide | exact Or.inl rfl | exact Or.inr (Or.inl rfl) | exact Or.inr (Or.inr rfl))), (by ((repeat' apply And.intro) <;> first | trivial | rfl | assumption | omega | decide | exact Or.inl rfl | exact Or.inr (Or.inl rfl) | exact Or.inr (Or.inr rfl))), (by ((repeat' apply And.intro) <;> first | trivial | rfl | assumption | omega | decide | exact Or.inl rfl | exact Or.inr (Or.inl rfl) | exact Or.inr (Or.inr rfl))), (by ((repeat' apply And.intro) <;> first | trivial | rfl | assumption | omega | decide | exact Or.inl rfl | exact Or.inr (Or.inl rfl) | exact Or.inr (Or.inr rfl))), (by ((repeat' apply And.intro) <;> first | trivial | rfl | assumption | omega | decide | exact Or.inl rfl | exact Or.inr (Or.inl rfl) | exact Or.inr (Or.inr rfl))), (by ((repeat' apply And.intro) <;> first | trivial | rfl | assumption | omega | decide | exact Or.inl rfl | exact Or.inr (Or.inl rfl) | exact Or.inr (Or.inr rfl))), (by ((repeat' apply And.intro) <;> first | trivial | rfl | assumption | omega | decide | exact Or.inl rfl | exact Or.inr (Or.inl rfl) | exact Or.inr (Or.inr rfl))), (by ((repeat' apply And.intro) <;> first | trivial | rfl | assumption | omega | decide | exact Or.inl rfl | exact Or.inr (Or.inl rfl) | exact Or.inr (Or.inr rfl))), (show _ ∧ _ from ⟨p88, p89⟩).1, (show _ ∧ _ from ⟨p88, p89⟩).2, i_x12.1, i_x12.2, i_x14.1, i_x14.2⟩) [7, 8, 0, 1, 2, 3, 6, 4, 5] (by decide) rfl (Nat.le_of_ble_eq_true rfl) (Nat.le_of_ble_eq_true rfl)
              · skip
                have k90 : (Int32.toInt z50) = 0 := (fa_eq z50 0).mp c51
                refine r_aload_n 123 4 C dX9_callOther_123 rfl ?_
                refine r_callVi 124 C dX9_callOther_124 [] [(h0, .inr (8, [.ref h1, .ref h2, .ref h9, .int x0, .int x1, .long y0, .int x2, .int x3, .int x4, .int x5, .ref h10, .ref h11, .ref h12, .int x6, .int x7, .ref h3, .ref h4, .int x8, .ref h5, .int 0])), (h1, .inr (6, [.ref h6, .ref h13, .int z21, .int x11])), (h2, .inr (5, [.ref h7, .ref h8, .int x12, .int x13, .long y1, .long y2, .int x14])), (h3, .inl (gJ g, 7, .inr (.inl fm0))), (h4, .inl (gJ g, 7, .inr (.inl fm1))), (h5, .inl (gJ g, 24, .inr (.inl fm2))), (h6, .inl (gJ g, 48, .inr (.inl fm3))), (h7, .inl (gB g, 400, .inl fn0)), (h8, .inl (gJ g, 2400, .inr (.inl fm4)))] [] (fun sz => c247_X9_endFlex l g h0 h1 h2 h3 h4 h5 h6 h7 h8 h9 x0 x1 y0 x2 x3 x4 x5 h10 h11 h12 x6 x7 x8 0 h13 z21 x11 x12 x13 y1 y2 x14 fm0 fm1 fm2 fm3 fn0 fm4 i_x5 i_x6 i_x7 i_x8 (by decide) ⟨p23, p24⟩ i_x11 i_x12 i_x13 i_x14 sz) gX9_callOther_X9_endFlex rfl ⟨rfl, rfl⟩ 0 (by decide) ⟨Nat.le_of_ble_eq_true rfl, Nat.le_of_ble_eq_true rfl⟩ 0 rfl rfl [0, 8, 1, 2, 3, 4, 7, 5, 6] [] rfl rfl (by decide) (by decide) (by decide) rfl rfl (Nat.le_of_ble_eq_true rfl) ⟨Nat.le_of_ble_eq_true rfl, Nat.le_of_ble_eq_true rfl⟩ (fun r100 u102 w101 => ?_)
                obtain ⟨z91, z92, z93, z94, z95, z96, f97, f98, f99⟩ := u102
                refine r_ws [(h0, .inr (8, [.ref h1, .ref h2, .ref h9, .int x0, .int x1, .long y0, .int x2, .int x3, .int x4, .int x5, .ref h10, .ref h11, .ref h12, .int x6, .int z91, .ref h3, .ref h4, .int x8, .ref h5, .int z92])), (h1, .inr (6, [.ref h6, .ref h13, .int z21, .int x11])), (h2, .inr (5, [.ref h7, .ref h8, .int z93, .int x13, .long z94, .long z95, .int z96])), (h3, .inl (gJ g, 7, .inr (.inl fm0))), (h4, .inl (gJ g, 7, .inr (.inl fm1))), (h5, .inl (gJ g, 24, .inr (.inl f97))), (h6, .inl (gJ g, 48, .inr (.inl fm3))), (h7, .inl (gB g, 400, .inl f98)), (h8, .inl (gJ g, 2400, .inr (.inl f99)))] rfl ?_
                have gz94 := fb_rngL z94
                have gz95 := fb_rngL z95
                have p103 : 0 ≤ (Int32.toInt r100) := w101.1
                have p104 : (Int32.toInt r100) ≤ 9 := w101.2.1
                have p105 : 0 ≤ (Int32.toInt z91) := w101.2.2.1
                have p106 : (Int32.toInt z91) ≤ 1 := w101.2.2.2.1
                have p107 : 0 ≤ (Int32.toInt z92) := w101.2.2.2.2.1
                have p108 : (Int32.toInt z92) ≤ 24 := w101.2.2.2.2.2.1
                have p109 : 0 ≤ (Int32.toInt z93) := w101.2.2.2.2.2.2.1
                have p110 : (Int32.toInt z93) ≤ 400 := w101.2.2.2.2.2.2.2.1
                have p111 : 0 ≤ (Int32.toInt z96) := w101.2.2.2.2.2.2.2.2.1
                have p112 : (Int32.toInt z96) ≤ 1 := w101.2.2.2.2.2.2.2.2.2
                refine r_istore 127 C dX9_callOther_127 [(6, .int r100), (5, .int z25), (3, .long r8), (1, .long r6), (0, .ref h0)] (by decide) rfl ?_
                refine r_goto 129 169 C dX9_callOther_129 (by decide) ?_
                refine r_aload_n 169 4 C dX9_callOther_169 rfl ?_
                refine r_get 170 C dX9_callOther_170 (k := 0) 0 rfl rfl hiX9 (by decide) rfl (mg 1 rfl) (Or.inr (mg 2 rfl)) rfl ?_
                refine r_iload 173 1 C dX9_callOther_173 rfl ?_
                refine r_callVv 175 C dX9_callOther_175 [] [(h1, .inr (6, [.ref h6, .ref h13, .int z21, .int x11]))] [(h0, .inr (8, [.ref h1, .ref h2, .ref h9, .int x0, .int x1, .long y0, .int x2, .int x3, .int x4, .int x5, .ref h10, .ref h11, .ref h12, .int x6, .int z91, .ref h3, .ref h4, .int x8, .ref h5, .int z92])), (h2, .inr (5, [.ref h7, .ref h8, .int z93, .int x13, .long z94, .long z95, .int z96])), (h3, .inl (gJ g, 7, .inr (.inl fm0))), (h4, .inl (gJ g, 7, .inr (.inl fm1))), (h5, .inl (gJ g, 24, .inr (.inl f97))), (h6, .inl (gJ g, 48, .inr (.inl fm3))), (h7, .inl (gB g, 400, .inl f98)), (h8, .inl (gJ g, 2400, .inr (.inl f99)))] (fun sz => c235_X7_drop l g h1 z25 h6 h13 z21 x11 ⟨p23, p24⟩ i_x11 sz) gX9_callOther_X7_drop rfl ⟨rfl, rfl⟩ 1 (by decide) ⟨Nat.le_of_ble_eq_true rfl, Nat.le_of_ble_eq_true rfl⟩ 1 rfl rfl [1] [0, 2, 3, 4, 5, 6, 7, 8] rfl rfl (by decide) (by decide) (by decide) rfl rfl (Nat.le_of_ble_eq_true rfl) ⟨Nat.le_of_ble_eq_true rfl, Nat.le_of_ble_eq_true rfl⟩ (fun  z113 w114 => ?_)
                refine r_ws [(h0, .inr (8, [.ref h1, .ref h2, .ref h9, .int x0, .int x1, .long y0, .int x2, .int x3, .int x4, .int x5, .ref h10, .ref h11, .ref h12, .int x6, .int z91, .ref h3, .ref h4, .int x8, .ref h5, .int z92])), (h2, .inr (5, [.ref h7, .ref h8, .int z93, .int x13, .long z94, .long z95, .int z96])), (h3, .inl (gJ g, 7, .inr (.inl fm0))), (h4, .inl (gJ g, 7, .inr (.inl fm1))), (h5, .inl (gJ g, 24, .inr (.inl f97))), (h6, .inl (gJ g, 48, .inr (.inl fm3))), (h7, .inl (gB g, 400, .inl f98)), (h8, .inl (gJ g, 2400, .inr (.inl f99))), (h1, .inr (6, [.ref h6, .ref h13, .int z113, .int x11]))] rfl ?_
                have p115 : 0 ≤ (Int32.toInt z113) := w114.1
                have p116 : (Int32.toInt z113) ≤ 48 := w114.2
                refine r_iload 178 0 C dX9_callOther_178 rfl ?_
                exact r_iret 180 Rt dX9_callOther_180 (z91, x8, z92, z113, z93, z94, z95, z96, fm0, fm1, f97, f98, f99) (show 0 ≤ (Int32.toInt r100) ∧ (Int32.toInt r100) ≤ 9 ∧ 0 ≤ (Int32.toInt z91) ∧ (Int32.toInt z91) ≤ 1 ∧ 0 ≤ (Int32.toInt x8) ∧ (Int32.toInt x8) ≤ 7 ∧ 0 ≤ (Int32.toInt z92) ∧ (Int32.toInt z92) ≤ 24 ∧ 0 ≤ (Int32.toInt z113) ∧ (Int32.toInt z113) ≤ 48 ∧ 0 ≤ (Int32.toInt z93) ∧ (Int32.toInt z93) ≤ 400 ∧ 0 ≤ (Int32.toInt z96) ∧ (Int32.toInt z96) ≤ 1 from ⟨(show _ ∧ _ from ⟨p103, p104⟩).1, (show _ ∧ _ from ⟨p103, p104⟩).2, (show _ ∧ _ from ⟨p105, p106⟩).1, (show _ ∧ _ from ⟨p105, p106⟩).2, i_x8.1, i_x8.2, (show _ ∧ _ from ⟨p107, p108⟩).1, (show _ ∧ _ from ⟨p107, p108⟩).2, (show _ ∧ _ from ⟨p115, p116⟩).1, (show _ ∧ _ from ⟨p115, p116⟩).2, (show _ ∧ _ from ⟨p109, p110⟩).1, (show _ ∧ _ from ⟨p109, p110⟩).2, (show _ ∧ _ from ⟨p111, p112⟩).1, (show _ ∧ _ from ⟨p111, p112⟩).2⟩) [0, 8, 1, 2, 3, 4, 5, 6, 7] (by decide) rfl (Nat.le_of_ble_eq_true rfl) (Nat.le_of_ble_eq_true rfl)
            · skip
              have k117 : ¬ ((Int32.toInt z25) = (Int32.toInt r44)) := fun h_9 => c48 ((fa_eq z25 r44).mpr h_9)
              refine r_bipush 110 9 C dX9_callOther_110 (by decide) ?_
              refine r_istore 112 C dX9_callOther_112 [(6, .int 9), (5, .int z25), (3, .long r8), (1, .long r6), (0, .ref h0)] (by decide) rfl ?_
              refine r_goto 114 169 C dX9_callOther_114 (by decide) ?_
              refine r_aload_n 169 4 C dX9_callOther_169 rfl ?_
              refine r_get 170 C dX9_callOther_170 (k := 0) 0 rfl rfl hiX9 (by decide) rfl (mg 1 rfl) (Or.inr (mg 2 rfl)) rfl ?_
              refine r_iload 173 1 C dX9_callOther_173 rfl ?_
              refine r_callVv 175 C dX9_callOther_175 [] [(h1, .inr (6, [.ref h6, .ref h13, .int z21, .int x11]))] [(h0, .inr (8, [.ref h1, .ref h2, .ref h9, .int x0, .int x1, .long y0, .int x2, .int x3, .int x4, .int x5, .ref h10, .ref h11, .ref h12, .int x6, .int x7, .ref h3, .ref h4, .int x8, .ref h5, .int 0])), (h2, .inr (5, [.ref h7, .ref h8, .int x12, .int x13, .long y1, .long y2, .int x14])), (h3, .inl (gJ g, 7, .inr (.inl fm0))), (h4, .inl (gJ g, 7, .inr (.inl fm1))), (h5, .inl (gJ g, 24, .inr (.inl fm2))), (h7, .inl (gB g, 400, .inl fn0)), (h8, .inl (gJ g, 2400, .inr (.inl fm4))), (h6, .inl (gJ g, 48, .inr (.inl fm3)))] (fun sz => c235_X7_drop l g h1 z25 h6 h13 z21 x11 ⟨p23, p24⟩ i_x11 sz) gX9_callOther_X7_drop rfl ⟨rfl, rfl⟩ 1 (by decide) ⟨Nat.le_of_ble_eq_true rfl, Nat.le_of_ble_eq_true rfl⟩ 8 rfl rfl [8] [0, 1, 2, 3, 4, 5, 6, 7] rfl rfl (by decide) (by decide) (by decide) rfl rfl (Nat.le_of_ble_eq_true rfl) ⟨Nat.le_of_ble_eq_true rfl, Nat.le_of_ble_eq_true rfl⟩ (fun  z118 w119 => ?_)
              refine r_ws [(h0, .inr (8, [.ref h1, .ref h2, .ref h9, .int x0, .int x1, .long y0, .int x2, .int x3, .int x4, .int x5, .ref h10, .ref h11, .ref h12, .int x6, .int x7, .ref h3, .ref h4, .int x8, .ref h5, .int 0])), (h2, .inr (5, [.ref h7, .ref h8, .int x12, .int x13, .long y1, .long y2, .int x14])), (h3, .inl (gJ g, 7, .inr (.inl fm0))), (h4, .inl (gJ g, 7, .inr (.inl fm1))), (h5, .inl (gJ g, 24, .inr (.inl fm2))), (h7, .inl (gB g, 400, .inl fn0)), (h8, .inl (gJ g, 2400, .inr (.inl fm4))), (h6, .inl (gJ g, 48, .inr (.inl fm3))), (h1, .inr (6, [.ref h6, .ref h13, .int z118, .int x11]))] rfl ?_
              have p120 : 0 ≤ (Int32.toInt z118) := w119.1
              have p121 : (Int32.toInt z118) ≤ 48 := w119.2
              refine r_iload 178 0 C dX9_callOther_178 rfl ?_
              exact r_iret 180 Rt dX9_callOther_180 (x7, x8, 0, z118, x12, y1, y2, x14, fm0, fm1, fm2, fn0, fm4) (show 0 ≤ (Int32.toInt 9) ∧ (Int32.toInt 9) ≤ 9 ∧ 0 ≤ (Int32.toInt x7) ∧ (Int32.toInt x7) ≤ 1 ∧ 0 ≤ (Int32.toInt x8) ∧ (Int32.toInt x8) ≤ 7 ∧ 0 ≤ (Int32.toInt 0) ∧ (Int32.toInt 0) ≤ 24 ∧ 0 ≤ (Int32.toInt z118) ∧ (Int32.toInt z118) ≤ 48 ∧ 0 ≤ (Int32.toInt x12) ∧ (Int32.toInt x12) ≤ 400 ∧ 0 ≤ (Int32.toInt x14) ∧ (Int32.toInt x14) ≤ 1 from ⟨(by ((repeat' apply And.intro) <;> first | trivial | rfl | assumption | omega | decide | exact Or.inl rfl | exact Or.inr (Or.inl rfl) | exact Or.inr (Or.inr rfl))), (by ((repeat' apply And.intro) <;> first | trivial | rfl | assumption | omega | decide | exact Or.inl rfl | exact Or.inr (Or.inl rfl) | exact Or.inr (Or.inr rfl))), i_x7.1, i_x7.2, i_x8.1, i_x8.2, (by ((repeat' apply And.intro) <;> first | trivial | rfl | assumption | omega | decide | exact Or.inl rfl | exact Or.inr (Or.inl rfl) | exact Or.inr (Or.inr rfl))), (by ((repeat' apply And.intro) <;> first | trivial | rfl | assumption | omega | decide | exact Or.inl rfl | exact Or.inr (Or.inl rfl) | exact Or.inr (Or.inr rfl))), (show _ ∧ _ from ⟨p120, p121⟩).1, (show _ ∧ _ from ⟨p120, p121⟩).2, i_x12.1, i_x12.2, i_x14.1, i_x14.2⟩) [0, 8, 1, 2, 3, 4, 7, 5, 6] (by decide) rfl (Nat.le_of_ble_eq_true rfl) (Nat.le_of_ble_eq_true rfl)
          · skip
            have k122 : ¬ ((Int32.toInt z40) ≤ 0) := fun h_9 => c41 ((fa_le z40 0).mpr h_9)
            refine r_aload_n 91 4 C dX9_callOther_91 rfl ?_
            refine r_iload 92 1 C dX9_callOther_92 rfl ?_
            refine r_callVv 94 C dX9_callOther_94 [] [(h0, .inr (8, [.ref h1, .ref h2, .ref h9, .int x0, .int x1, .long y0, .int x2, .int x3, .int x4, .int x5, .ref h10, .ref h11, .ref h12, .int x6, .int x7, .ref h3, .ref h4, .int x8, .ref h5, .int 0])), (h1, .inr (6, [.ref h6, .ref h13, .int z21, .int x11])), (h5, .inl (gJ g, 24, .inr (.inl fm2))), (h6, .inl (gJ g, 48, .inr (.inl fm3)))] [(h2, .inr (5, [.ref h7, .ref h8, .int x12, .int x13, .long y1, .long y2, .int x14])), (h3, .inl (gJ g, 7, .inr (.inl fm0))), (h4, .inl (gJ g, 7, .inr (.inl fm1))), (h7, .inl (gB g, 400, .inl fn0)), (h8, .inl (gJ g, 2400, .inr (.inl fm4)))] (fun sz => c241_X9_putAllBy l g h0 h1 h5 h6 z25 h2 h9 x0 x1 y0 x2 x3 x4 x5 h10 h11 h12 x6 x7 h3 h4 x8 0 h13 z21 x11 fm2 fm3 i_x5 i_x6 i_x7 i_x8 (by decide) ⟨p23, p24⟩ i_x11 sz) gX9_callOther_X9_putAllBy rfl ⟨rfl, rfl⟩ 1 (by decide) ⟨Nat.le_of_ble_eq_true rfl, Nat.le_of_ble_eq_true rfl⟩ 0 rfl rfl [0, 8, 4, 7] [1, 2, 3, 5, 6] rfl rfl (by decide) (by decide) (by decide) rfl rfl (Nat.le_of_ble_eq_true rfl) ⟨Nat.le_of_ble_eq_true rfl, Nat.le_of_ble_eq_true rfl⟩ (fun  u126 w125 => ?_)
            obtain ⟨z123, f124⟩ := u126
            refine r_ws [(h2, .inr (5, [.ref h7, .ref h8, .int x12, .int x13, .long y1, .long y2, .int x14])), (h3, .inl (gJ g, 7, .inr (.inl fm0))), (h4, .inl (gJ g, 7, .inr (.inl fm1))), (h7, .inl (gB g, 400, .inl fn0)), (h8, .inl (gJ g, 2400, .inr (.inl fm4))), (h0, .inr (8, [.ref h1, .ref h2, .ref h9, .int x0, .int x1, .long y0, .int x2, .int x3, .int x4, .int x5, .ref h10, .ref h11, .ref h12, .int x6, .int x7, .ref h3, .ref h4, .int x8, .ref h5, .int z123])), (h1, .inr (6, [.ref h6, .ref h13, .int z21, .int x11])), (h5, .inl (gJ g, 24, .inr (.inl f124))), (h6, .inl (gJ g, 48, .inr (.inl fm3)))] rfl ?_
            have p127 : 0 ≤ (Int32.toInt z123) := w125.1
            have p128 : (Int32.toInt z123) ≤ 24 := w125.2
            refine r_goto 97 169 C dX9_callOther_97 (by decide) ?_
            refine r_aload_n 169 4 C dX9_callOther_169 rfl ?_
            refine r_get 170 C dX9_callOther_170 (k := 0) 5 rfl rfl hiX9 (by decide) rfl (mg 1 rfl) (Or.inr (mg 2 rfl)) rfl ?_
            refine r_iload 173 1 C dX9_callOther_173 rfl ?_
            refine r_callVv 175 C dX9_callOther_175 [] [(h1, .inr (6, [.ref h6, .ref h13, .int z21, .int x11]))] [(h2, .inr (5, [.ref h7, .ref h8, .int x12, .int x13, .long y1, .long y2, .int x14])), (h3, .inl (gJ g, 7, .inr (.inl fm0))), (h4, .inl (gJ g, 7, .inr (.inl fm1))), (h7, .inl (gB g, 400, .inl fn0)), (h8, .inl (gJ g, 2400, .inr (.inl fm4))), (h0, .inr (8, [.ref h1, .ref h2, .ref h9, .int x0, .int x1, .long y0, .int x2, .int x3, .int x4, .int x5, .ref h10, .ref h11, .ref h12, .int x6, .int x7, .ref h3, .ref h4, .int x8, .ref h5, .int z123])), (h5, .inl (gJ g, 24, .inr (.inl f124))), (h6, .inl (gJ g, 48, .inr (.inl fm3)))] (fun sz => c235_X7_drop l g h1 z25 h6 h13 z21 x11 ⟨p23, p24⟩ i_x11 sz) gX9_callOther_X7_drop rfl ⟨rfl, rfl⟩ 1 (by decide) ⟨Nat.le_of_ble_eq_true rfl, Nat.le_of_ble_eq_true rfl⟩ 6 rfl rfl [6] [0, 1, 2, 3, 4, 5, 7, 8] rfl rfl (by decide) (by decide) (by decide) rfl rfl (Nat.le_of_ble_eq_true rfl) ⟨Nat.le_of_ble_eq_true rfl, Nat.le_of_ble_eq_true rfl⟩ (fun  z129 w130 => ?_)
            refine r_ws [(h2, .inr (5, [.ref h7, .ref h8, .int x12, .int x13, .long y1, .long y2, .int x14])), (h3, .inl (gJ g, 7, .inr (.inl fm0))), (h4, .inl (gJ g, 7, .inr (.inl fm1))), (h7, .inl (gB g, 400, .inl fn0)), (h8, .inl (gJ g, 2400, .inr (.inl fm4))), (h0, .inr (8, [.ref h1, .ref h2, .ref h9, .int x0, .int x1, .long y0, .int x2, .int x3, .int x4, .int x5, .ref h10, .ref h11, .ref h12, .int x6, .int x7, .ref h3, .ref h4, .int x8, .ref h5, .int z123])), (h5, .inl (gJ g, 24, .inr (.inl f124))), (h6, .inl (gJ g, 48, .inr (.inl fm3))), (h1, .inr (6, [.ref h6, .ref h13, .int z129, .int x11]))] rfl ?_
            have p131 : 0 ≤ (Int32.toInt z129) := w130.1
            have p132 : (Int32.toInt z129) ≤ 48 := w130.2
            refine r_iload 178 0 C dX9_callOther_178 rfl ?_
            exact r_iret 180 Rt dX9_callOther_180 (x7, x8, z123, z129, x12, y1, y2, x14, fm0, fm1, f124, fn0, fm4) (show 0 ≤ (Int32.toInt 0) ∧ (Int32.toInt 0) ≤ 9 ∧ 0 ≤ (Int32.toInt x7) ∧ (Int32.toInt x7) ≤ 1 ∧ 0 ≤ (Int32.toInt x8) ∧ (Int32.toInt x8) ≤ 7 ∧ 0 ≤ (Int32.toInt z123) ∧ (Int32.toInt z123) ≤ 24 ∧ 0 ≤ (Int32.toInt z129) ∧ (Int32.toInt z129) ≤ 48 ∧ 0 ≤ (Int32.toInt x12) ∧ (Int32.toInt x12) ≤ 400 ∧ 0 ≤ (Int32.toInt x14) ∧ (Int32.toInt x14) ≤ 1 from ⟨(by ((repeat' apply And.intro) <;> first | trivial | rfl | assumption | omega | decide | exact Or.inl rfl | exact Or.inr (Or.inl rfl) | exact Or.inr (Or.inr rfl))), (by ((repeat' apply And.intro) <;> first | trivial | rfl | assumption | omega | decide | exact Or.inl rfl | exact Or.inr (Or.inl rfl) | exact Or.inr (Or.inr rfl))), i_x7.1, i_x7.2, i_x8.1, i_x8.2, (show _ ∧ _ from ⟨p127, p128⟩).1, (show _ ∧ _ from ⟨p127, p128⟩).2, (show _ ∧ _ from ⟨p131, p132⟩).1, (show _ ∧ _ from ⟨p131, p132⟩).2, i_x12.1, i_x12.2, i_x14.1, i_x14.2⟩) [5, 8, 0, 1, 2, 6, 7, 3, 4] (by decide) rfl (Nat.le_of_ble_eq_true rfl) (Nat.le_of_ble_eq_true rfl)
      · skip
        have k133 : ¬ ((Int32.toInt z18) ≤ 0) := fun h_9 => c19 ((fa_le z18 0).mpr h_9)
        refine r_iconst 55 2 C dX9_callOther_55 (by decide) ?_
        exact r_iret 56 Rt dX9_callOther_56 (x7, x8, x9, x10, x12, y1, y2, x14, fm0, fm1, fm2, fn0, fm4) (show 0 ≤ (Int32.toInt 2) ∧ (Int32.toInt 2) ≤ 9 ∧ 0 ≤ (Int32.toInt x7) ∧ (Int32.toInt x7) ≤ 1 ∧ 0 ≤ (Int32.toInt x8) ∧ (Int32.toInt x8) ≤ 7 ∧ 0 ≤ (Int32.toInt x9) ∧ (Int32.toInt x9) ≤ 24 ∧ 0 ≤ (Int32.toInt x10) ∧ (Int32.toInt x10) ≤ 48 ∧ 0 ≤ (Int32.toInt x12) ∧ (Int32.toInt x12) ≤ 400 ∧ 0 ≤ (Int32.toInt x14) ∧ (Int32.toInt x14) ≤ 1 from ⟨(by ((repeat' apply And.intro) <;> first | trivial | rfl | assumption | omega | decide | exact Or.inl rfl | exact Or.inr (Or.inl rfl) | exact Or.inr (Or.inr rfl))), (by ((repeat' apply And.intro) <;> first | trivial | rfl | assumption | omega | decide | exact Or.inl rfl | exact Or.inr (Or.inl rfl) | exact Or.inr (Or.inr rfl))), i_x7.1, i_x7.2, i_x8.1, i_x8.2, i_x9.1, i_x9.2, i_x10.1, i_x10.2, i_x12.1, i_x12.2, i_x14.1, i_x14.2⟩) [0, 8, 1, 2, 3, 4, 7, 5, 6] (by decide) rfl (Nat.le_of_ble_eq_true rfl) (Nat.le_of_ble_eq_true rfl)
    · skip
      have k134 : ¬ (0 ≤ (Int32.toInt z10)) := fun h_9 => c11 ((fa_le 0 z10).mpr h_9)
      refine r_bipush 37 9 C dX9_callOther_37 (by decide) ?_
      exact r_iret 39 Rt dX9_callOther_39 (x7, x8, x9, x10, x12, y1, y2, x14, fm0, fm1, fm2, fn0, fm4) (show 0 ≤ (Int32.toInt 9) ∧ (Int32.toInt 9) ≤ 9 ∧ 0 ≤ (Int32.toInt x7) ∧ (Int32.toInt x7) ≤ 1 ∧ 0 ≤ (Int32.toInt x8) ∧ (Int32.toInt x8) ≤ 7 ∧ 0 ≤ (Int32.toInt x9) ∧ (Int32.toInt x9) ≤ 24 ∧ 0 ≤ (Int32.toInt x10) ∧ (Int32.toInt x10) ≤ 48 ∧ 0 ≤ (Int32.toInt x12) ∧ (Int32.toInt x12) ≤ 400 ∧ 0 ≤ (Int32.toInt x14) ∧ (Int32.toInt x14) ≤ 1 from ⟨(by ((repeat' apply And.intro) <;> first | trivial | rfl | assumption | omega | decide | exact Or.inl rfl | exact Or.inr (Or.inl rfl) | exact Or.inr (Or.inr rfl))), (by ((repeat' apply And.intro) <;> first | trivial | rfl | assumption | omega | decide | exact Or.inl rfl | exact Or.inr (Or.inl rfl) | exact Or.inr (Or.inr rfl))), i_x7.1, i_x7.2, i_x8.1, i_x8.2, i_x9.1, i_x9.2, i_x10.1, i_x10.2, i_x12.1, i_x12.2, i_x14.1, i_x14.2⟩) [0, 7, 1, 2, 3, 4, 8, 5, 6] (by decide) rfl (Nat.le_of_ble_eq_true rfl) (Nat.le_of_ble_eq_true rfl)
  · skip
    have k135 : ¬ (2 ≤ (Int32.toInt x10)) := fun h_9 => c4 ((fa_le 2 x10).mpr h_9)
    refine r_iconst 11 2 C dX9_callOther_11 (by decide) ?_
    exact r_iret 12 Rt dX9_callOther_12 (x7, x8, x9, x10, x12, y1, y2, x14, fm0, fm1, fm2, fn0, fm4) (show 0 ≤ (Int32.toInt 2) ∧ (Int32.toInt 2) ≤ 9 ∧ 0 ≤ (Int32.toInt x7) ∧ (Int32.toInt x7) ≤ 1 ∧ 0 ≤ (Int32.toInt x8) ∧ (Int32.toInt x8) ≤ 7 ∧ 0 ≤ (Int32.toInt x9) ∧ (Int32.toInt x9) ≤ 24 ∧ 0 ≤ (Int32.toInt x10) ∧ (Int32.toInt x10) ≤ 48 ∧ 0 ≤ (Int32.toInt x12) ∧ (Int32.toInt x12) ≤ 400 ∧ 0 ≤ (Int32.toInt x14) ∧ (Int32.toInt x14) ≤ 1 from ⟨(by ((repeat' apply And.intro) <;> first | trivial | rfl | assumption | omega | decide | exact Or.inl rfl | exact Or.inr (Or.inl rfl) | exact Or.inr (Or.inr rfl))), (by ((repeat' apply And.intro) <;> first | trivial | rfl | assumption | omega | decide | exact Or.inl rfl | exact Or.inr (Or.inl rfl) | exact Or.inr (Or.inr rfl))), i_x7.1, i_x7.2, i_x8.1, i_x8.2, i_x9.1, i_x9.2, i_x10.1, i_x10.2, i_x12.1, i_x12.2, i_x14.1, i_x14.2⟩) [0, 8, 1, 2, 3, 4, 5, 6, 7] (by decide) rfl (Nat.le_of_ble_eq_true rfl) (Nat.le_of_ble_eq_true rfl)
set_option maxHeartbeats 4000000 in
set_option maxRecDepth 100000 in
theorem c249_X9_popPutBy (l : Launch) (g : GD) (h0 : Nat) (h1 : Nat) (h2 : Nat) (h3 : Nat) (h4 : Nat) (h5 : Nat) (x0 : Int32) (x1 : Int32) (y0 : Int64) (x2 : Int32) (x3 : Int32) (x4 : Int32) (x5 : Int32) (h6 : Nat) (h7 : Nat) (h8 : Nat) (x6 : Int32) (x7 : Int32) (h9 : Nat) (h10 : Nat) (x8 : Int32) (x9 : Int32) (h11 : Nat) (x10 : Int32) (x11 : Int32) (fm0 : Nat → Int64) (fm1 : Nat → Int64) (i_x5 : (0 ≤ (Int32.toInt x5) ∧ (Int32.toInt x5) ≤ 1)) (i_x6 : (0 ≤ (Int32.toInt x6) ∧ (Int32.toInt x6) ≤ 10)) (i_x7 : (0 ≤ (Int32.toInt x7) ∧ (Int32.toInt x7) ≤ 1)) (i_x8 : (0 ≤ (Int32.toInt x8) ∧ (Int32.toInt x8) ≤ 7)) (i_x9 : (0 ≤ (Int32.toInt x9) ∧ (Int32.toInt x9) ≤ 24)) (i_x10 : (0 ≤ (Int32.toInt x10) ∧ (Int32.toInt x10) ≤ 48)) (i_x11 : (0 ≤ (Int32.toInt x11) ∧ (Int32.toInt x11) ≤ 48)) (sz : Nat) : Met l yX9_popPutBy wsX9_popPutBy ({ frames := 1, cells := 0, slots := 0, locals := 22 }) (va_Pc [.ref h0] (PW g [(h0, .inr (8, [.ref h1, .ref h4, .ref h5, .int x0, .int x1, .long y0, .int x2, .int x3, .int x4, .int x5, .ref h6, .ref h7, .ref h8, .int x6, .int x7, .ref h9, .ref h10, .int x8, .ref h2, .int x9])), (h1, .inr (6, [.ref h3, .ref h11, .int x10, .int x11])), (h2, .inl (gJ g, 24, .inr (.inl fm0))), (h3, .inl (gJ g, 48, .inr (.inl fm1)))] sz)) (va_Qi (fun (r : Int32) (u : (Int32) × (Int32) × (Nat → Int64)) => 0 ≤ (Int32.toInt r) ∧ (Int32.toInt r) ≤ 9 ∧ 0 ≤ (Int32.toInt (u.1)) ∧ (Int32.toInt (u.1)) ≤ 24 ∧ 0 ≤ (Int32.toInt (u.2.1)) ∧ (Int32.toInt (u.2.1)) ≤ 48) (BW g (va_A [(h0, .inr (8, [.ref h1, .ref h4, .ref h5, .int x0, .int x1, .long y0, .int x2, .int x3, .int x4, .int x5, .ref h6, .ref h7, .ref h8, .int x6, .int x7, .ref h9, .ref h10, .int x8, .ref h2, .int x9])), (h1, .inr (6, [.ref h3, .ref h11, .int x10, .int x11])), (h2, .inl (gJ g, 24, .inr (.inl fm0))), (h3, .inl (gJ g, 48, .inr (.inl fm1)))] sz) (fun u : (Int32) × (Int32) × (Nat → Int64) => [(h0, .inr (8, [.ref h1, .ref h4, .ref h5, .int x0, .int x1, .long y0, .int x2, .int x3, .int x4, .int x5, .ref h6, .ref h7, .ref h8, .int x6, .int x7, .ref h9, .ref h10, .int x8, .ref h2, .int u.1])), (h1, .inr (6, [.ref h3, .ref h11, .int u.2.1, .int x11])), (h2, .inl (gJ g, 24, .inr (.inl fm0))), (h3, .inl (gJ g, 48, .inr (.inl u.2.2)))])) (va_A [(h0, .inr (8, [.ref h1, .ref h4, .ref h5, .int x0, .int x1, .long y0, .int x2, .int x3, .int x4, .int x5, .ref h6, .ref h7, .ref h8, .int x6, .int x7, .ref h9, .ref h10, .int x8, .ref h2, .int x9])), (h1, .inr (6, [.ref h3, .ref h11, .int x10, .int x11])), (h2, .inl (gJ g, 24, .inr (.inl fm0))), (h3, .inl (gJ g, 48, .inr (.inl fm1)))] sz)) 0 0 (va_A [(h0, .inr (8, [.ref h1, .ref h4, .ref h5, .int x0, .int x1, .long y0, .int x2, .int x3, .int x4, .int x5, .ref h6, .ref h7, .ref h8, .int x6, .int x7, .ref h9, .ref h10, .int x8, .ref h2, .int x9])), (h1, .inr (6, [.ref h3, .ref h11, .int x10, .int x11])), (h2, .inl (gJ g, 24, .inr (.inl fm0))), (h3, .inl (gJ g, 48, .inr (.inl fm1)))] sz) := by
  refine met_i RX9 (by decide) rfl rfl (Nat.le_of_ble_eq_true rfl) [(0, .ref h0)] rfl ?_
  intro p e s m args below meth c A Q C hnm Rt
  have hiX9 : ∀ w ∈ wsX90, w ∈ wsX9_popPutBy := fun w h => List.mem_cons_of_mem _ (List.mem_append_left _ (List.mem_append_left _ (List.mem_append_right _ (h))))
  refine r_aload_n 0 0 C dX9_popPutBy_0 rfl ?_
  refine r_get 1 C dX9_popPutBy_1 (k := 19) 0 rfl rfl hiX9 (by decide) rfl (mg 1 rfl) (Or.inl rfl) rfl ?_
  refine r_iconst 4 1 C dX9_popPutBy_4 (by decide) ?_
  refine r_icmp_ge 5 11 C dX9_popPutBy_5 (by decide) (fun c1 => ?_) (fun c1 => ?_)
  · skip
    have k2 : 1 ≤ (Int32.toInt x9) := (fa_le 1 x9).mp c1
    refine r_aload_n 11 0 C dX9_popPutBy_11 rfl ?_
    refine r_get 12 C dX9_popPutBy_12 (k := 0) 0 rfl rfl hiX9 (by decide) rfl (mg 2 rfl) (Or.inr (mg 3 rfl)) rfl ?_
    refine r_aload_n 15 0 C dX9_popPutBy_15 rfl ?_
    refine r_get 16 C dX9_popPutBy_16 (k := 18) 0 rfl rfl hiX9 (by decide) rfl (mg 4 rfl) (Or.inl rfl) rfl ?_
    refine r_aload_n 19 0 C dX9_popPutBy_19 rfl ?_
    refine r_get 20 C dX9_popPutBy_20 (k := 19) 0 rfl rfl hiX9 (by decide) rfl (mg 1 rfl) (Or.inl rfl) rfl ?_
    refine r_iconst 23 1 C dX9_popPutBy_23 (by decide) ?_
    obtain ⟨z3, ez3⟩ : ∃ z_9, x9 - 1 = z_9 := ⟨_, rfl⟩
    have tz3 : (Int32.toInt z3) = (Int32.toInt x9) - 1 := by rw [← ez3]; exact fb_subIv (a := 0) (b := 24) (c := 1) (d := 1) i_x9 ⟨by decide, by decide⟩ (by decide) (by decide)
    refine r_isub 24 z3 C dX9_popPutBy_24 ez3 ?_
    obtain ⟨z4, ez4⟩ : ∃ z_9, fm0 (Int32.toNatClampNeg z3) = z_9 := ⟨_, rfl⟩
    refine r_lald 25 z4 C dX9_popPutBy_25 2 rfl (vinI (by omega) (by omega)) ez4 ?_
    have gz4 := fb_rngL z4
    refine r_callVi 26 C dX9_popPutBy_26 [] [(h1, .inr (6, [.ref h3, .ref h11, .int x10, .int x11])), (h3, .inl (gJ g, 48, .inr (.inl fm1)))] [(h0, .inr (8, [.ref h1, .ref h4, .ref h5, .int x0, .int x1, .long y0, .int x2, .int x3, .int x4, .int x5, .ref h6, .ref h7, .ref h8, .int x6, .int x7, .ref h9, .ref h10, .int x8, .ref h2, .int x9])), (h2, .inl (gJ g, 24, .inr (.inl fm0)))] (fun sz => c227_X7_push l g h1 h3 z4 h11 x10 x11 fm1 i_x10 i_x11 sz) gX9_popPutBy_X7_push rfl ⟨rfl, rfl⟩ 1 (by decide) ⟨Nat.le_of_ble_eq_true rfl, Nat.le_of_ble_eq_true rfl⟩ 1 rfl rfl [1, 3] [0, 2] rfl rfl (by decide) (by decide) (by decide) rfl rfl (Nat.le_of_ble_eq_true rfl) ⟨Nat.le_of_ble_eq_true rfl, Nat.le_of_ble_eq_true rfl⟩ (fun r7 u9 w8 => ?_)
    obtain ⟨z5, f6⟩ := u9
    refine r_ws [(h0, .inr (8, [.ref h1, .ref h4, .ref h5, .int x0, .int x1, .long y0, .int x2, .int x3, .int x4, .int x5, .ref h6, .ref h7, .ref h8, .int x6, .int x7, .ref h9, .ref h10, .int x8, .ref h2, .int x9])), (h2, .inl (gJ g, 24, .inr (.inl fm0))), (h1, .inr (6, [.ref h3, .ref h11, .int z5, .int x11])), (h3, .inl (gJ g, 48, .inr (.inl f6)))] rfl ?_
    have p10 : 0 ≤ (Int32.toInt r7) := w8.1
    have p11 : (Int32.toInt r7) ≤ 3 := w8.2.1
    have p12 : 0 ≤ (Int32.toInt z5) := w8.2.2.1
    have p13 : (Int32.toInt z5) ≤ 48 := w8.2.2.2
    refine r_istore_n 29 C dX9_popPutBy_29 [(1, .int r7), (0, .ref h0)] (by decide) rfl ?_
    refine r_iload_n 30 0 C dX9_popPutBy_30 rfl ?_
    refine r_if_ne 31 44 C dX9_popPutBy_31 (by decide) (fun c14 => ?_) (fun c14 => ?_)
    · skip
      have k15 : ¬ ((Int32.toInt r7) = 0) := fun h_9 => c14 ((fa_eq r7 0).mpr h_9)
      refine r_iload_n 44 0 C dX9_popPutBy_44 rfl ?_
      exact r_iret 45 Rt dX9_popPutBy_45 (x9, z5, f6) (show 0 ≤ (Int32.toInt r7) ∧ (Int32.toInt r7) ≤ 9 ∧ 0 ≤ (Int32.toInt x9) ∧ (Int32.toInt x9) ≤ 24 ∧ 0 ≤ (Int32.toInt z5) ∧ (Int32.toInt z5) ≤ 48 from ⟨(iv_wide (c := 0) (d := 9) ⟨p10, p11⟩ (by decide) (by decide)).1, (iv_wide (c := 0) (d := 9) ⟨p10, p11⟩ (by decide) (by decide)).2, i_x9.1, i_x9.2, (show _ ∧ _ from ⟨p12, p13⟩).1, (show _ ∧ _ from ⟨p12, p13⟩).2⟩) [0, 2, 1, 3] (by decide) rfl (Nat.le_of_ble_eq_true rfl) (Nat.le_of_ble_eq_true rfl)
    · skip
      have k16 : (Int32.toInt r7) = 0 := (fa_eq r7 0).mp c14
      refine r_aload_n 34 1 C dX9_popPutBy_34 rfl ?_
      refine r_dup 35 C dX9_popPutBy_35 rfl ?_
      refine r_get 36 C dX9_popPutBy_36 (k := 19) 0 rfl rfl hiX9 (by decide) rfl (mg 1 rfl) (Or.inl rfl) rfl ?_
      refine r_iconst 39 1 C dX9_popPutBy_39 (by decide) ?_
      obtain ⟨z17, ez17⟩ : ∃ z_9, x9 - 1 = z_9 := ⟨_, rfl⟩
      have tz17 : (Int32.toInt z17) = (Int32.toInt x9) - 1 := by rw [← ez17]; exact fb_subIv (a := 0) (b := 24) (c := 1) (d := 1) i_x9 ⟨by decide, by decide⟩ (by decide) (by decide)
      refine r_isub 40 z17 C dX9_popPutBy_40 ez17 ?_
      refine r_put 41 C dX9_popPutBy_41 (k := 19) 0 rfl rfl hiX9 tyX9 tyX9_ok nmX9 (by decide) rfl (mg 1 rfl) (Or.inl rfl) rfl rfl rfl rfl (Nat.le_of_ble_eq_true rfl) [(h0, .inr (8, [.ref h1, .ref h4, .ref h5, .int x0, .int x1, .long y0, .int x2, .int x3, .int x4, .int x5, .ref h6, .ref h7, .ref h8, .int x6, .int x7, .ref h9, .ref h10, .int x8, .ref h2, .int z17])), (h2, .inl (gJ g, 24, .inr (.inl fm0))), (h1, .inr (6, [.ref h3, .ref h11, .int z5, .int x11])), (h3, .inl (gJ g, 48, .inr (.inl f6)))] rfl ?_
      refine r_iload_n 44 0 C dX9_popPutBy_44 rfl ?_
      exact r_iret 45 Rt dX9_popPutBy_45 (z17, z5, f6) (show 0 ≤ (Int32.toInt r7) ∧ (Int32.toInt r7) ≤ 9 ∧ 0 ≤ (Int32.toInt z17) ∧ (Int32.toInt z17) ≤ 24 ∧ 0 ≤ (Int32.toInt z5) ∧ (Int32.toInt z5) ≤ 48 from ⟨(iv_wide (c := 0) (d := 9) ⟨p10, p11⟩ (by decide) (by decide)).1, (iv_wide (c := 0) (d := 9) ⟨p10, p11⟩ (by decide) (by decide)).2, (by ((repeat' apply And.intro) <;> first | trivial | rfl | assumption | omega | decide | exact Or.inl rfl | exact Or.inr (Or.inl rfl) | exact Or.inr (Or.inr rfl))), (by ((repeat' apply And.intro) <;> first | trivial | rfl | assumption | omega | decide | exact Or.inl rfl | exact Or.inr (Or.inl rfl) | exact Or.inr (Or.inr rfl))), (show _ ∧ _ from ⟨p12, p13⟩).1, (show _ ∧ _ from ⟨p12, p13⟩).2⟩) [0, 2, 1, 3] (by decide) rfl (Nat.le_of_ble_eq_true rfl) (Nat.le_of_ble_eq_true rfl)
  · skip
    have k18 : ¬ (1 ≤ (Int32.toInt x9)) := fun h_9 => c1 ((fa_le 1 x9).mpr h_9)
    refine r_bipush 8 9 C dX9_popPutBy_8 (by decide) ?_
    exact r_iret 10 Rt dX9_popPutBy_10 (x9, x10, fm1) (show 0 ≤ (Int32.toInt 9) ∧ (Int32.toInt 9) ≤ 9 ∧ 0 ≤ (Int32.toInt x9) ∧ (Int32.toInt x9) ≤ 24 ∧ 0 ≤ (Int32.toInt x10) ∧ (Int32.toInt x10) ≤ 48 from ⟨(by ((repeat' apply And.intro) <;> first | trivial | rfl | assumption | omega | decide | exact Or.inl rfl | exact Or.inr (Or.inl rfl) | exact Or.inr (Or.inr rfl))), (by ((repeat' apply And.intro) <;> first | trivial | rfl | assumption | omega | decide | exact Or.inl rfl | exact Or.inr (Or.inl rfl) | exact Or.inr (Or.inr rfl))), i_x9.1, i_x9.2, i_x10.1, i_x10.2⟩) [0, 1, 2, 3] (by decide) rfl (Nat.le_of_ble_eq_true rfl) (Nat.le_of_ble_eq_true rfl)
set_option maxHeartbeats 4000000 in
set_option maxRecDepth 100000 in
theorem c250_X9_wantedBy (l : Launch) (g : GD) (x0 : Int32) (sz : Nat) : Met l yX9_wantedBy wsX9_wantedBy ({ frames := 0, cells := 0, slots := 0, locals := 0 }) (va_Pc [.int x0] (PW g [] sz)) (va_Qi (fun (r : Int32) (_ : Unit) => -1 ≤ (Int32.toInt r) ∧ (Int32.toInt r) ≤ 6) (BW g (va_A [] sz) (fun _ : Unit => [])) (va_A [] sz)) 0 0 (va_A [] sz) := by
  refine met_i RX9 (by decide) rfl rfl (Nat.le_of_ble_eq_true rfl) [(0, .int x0)] rfl ?_
  intro p e s m args below meth c A Q C hnm Rt
  have gx0 := fb_rng x0
  refine r_iload_n 0 0 C dX9_wantedBy_0 rfl ?_
  by_cases c1 : x0 = 1
  · skip
    have k2 : (Int32.toInt x0) = 1 := (fa_eq x0 1).mp c1
    refine r_lookup 1 168 (off := 167) C dX9_wantedBy_1 (by decide) (by rw [c1]; decide) (by decide) ?_
    refine r_iconst 168 2 C dX9_wantedBy_168 (by decide) ?_
    exact r_iret 169 Rt dX9_wantedBy_169 () (show -1 ≤ (Int32.toInt 2) ∧ (Int32.toInt 2) ≤ 6 from ⟨(by ((repeat' apply And.intro) <;> first | trivial | rfl | assumption | omega | decide | exact Or.inl rfl | exact Or.inr (Or.inl rfl) | exact Or.inr (Or.inr rfl))), (by ((repeat' apply And.intro) <;> first | trivial | rfl | assumption | omega | decide | exact Or.inl rfl | exact Or.inr (Or.inl rfl) | exact Or.inr (Or.inr rfl)))⟩) [] (by decide) rfl (Nat.le_of_ble_eq_true rfl) (Nat.le_of_ble_eq_true rfl)
  · skip
    have k3 : ¬ ((Int32.toInt x0) = 1) := fun h_9 => c1 ((fa_eq x0 1).mpr h_9)
    by_cases c4 : x0 = 3
    · skip
      have k5 : (Int32.toInt x0) = 3 := (fa_eq x0 3).mp c4
      refine r_lookup 1 168 (off := 167) C dX9_wantedBy_1 (by decide) (by rw [c4]; decide) (by decide) ?_
      refine r_iconst 168 2 C dX9_wantedBy_168 (by decide) ?_
      exact r_iret 169 Rt dX9_wantedBy_169 () (show -1 ≤ (Int32.toInt 2) ∧ (Int32.toInt 2) ≤ 6 from ⟨(by ((repeat' apply And.intro) <;> first | trivial | rfl | assumption | omega | decide | exact Or.inl rfl | exact Or.inr (Or.inl rfl) | exact Or.inr (Or.inr rfl))), (by ((repeat' apply And.intro) <;> first | trivial | rfl | assumption | omega | decide | exact Or.inl rfl | exact Or.inr (Or.inl rfl) | exact Or.inr (Or.inr rfl)))⟩) [] (by decide) rfl (Nat.le_of_ble_eq_true rfl) (Nat.le_of_ble_eq_true rfl)
    · skip
      have k6 : ¬ ((Int32.toInt x0) = 3) := fun h_9 => c4 ((fa_eq x0 3).mpr h_9)
      by_cases c7 : x0 = 4
      · skip
        have k8 : (Int32.toInt x0) = 4 := (fa_eq x0 4).mp c7
        refine r_lookup 1 166 (off := 165) C dX9_wantedBy_1 (by decide) (by rw [c7]; decide) (by decide) ?_
        refine r_iconst 166 1 C dX9_wantedBy_166 (by decide) ?_
        exact r_iret 167 Rt dX9_wantedBy_167 () (show -1 ≤ (Int32.toInt 1) ∧ (Int32.toInt 1) ≤ 6 from ⟨(by ((repeat' apply And.intro) <;> first | trivial | rfl | assumption | omega | decide | exact Or.inl rfl | exact Or.inr (Or.inl rfl) | exact Or.inr (Or.inr rfl))), (by ((repeat' apply And.intro) <;> first | trivial | rfl | assumption | omega | decide | exact Or.inl rfl | exact Or.inr (Or.inl rfl) | exact Or.inr (Or.inr rfl)))⟩) [] (by decide) rfl (Nat.le_of_ble_eq_true rfl) (Nat.le_of_ble_eq_true rfl)
      · skip
        have k9 : ¬ ((Int32.toInt x0) = 4) := fun h_9 => c7 ((fa_eq x0 4).mpr h_9)
        by_cases c10 : x0 = 5
        · skip
          have k11 : (Int32.toInt x0) = 5 := (fa_eq x0 5).mp c10
          refine r_lookup 1 168 (off := 167) C dX9_wantedBy_1 (by decide) (by rw [c10]; decide) (by decide) ?_
          refine r_iconst 168 2 C dX9_wantedBy_168 (by decide) ?_
          exact r_iret 169 Rt dX9_wantedBy_169 () (show -1 ≤ (Int32.toInt 2) ∧ (Int32.toInt 2) ≤ 6 from ⟨(by ((repeat' apply And.intro) <;> first | trivial | rfl | assumption | omega | decide | exact Or.inl rfl | exact Or.inr (Or.inl rfl) | exact Or.inr (Or.inr rfl))), (by ((repeat' apply And.intro) <;> first | trivial | rfl | assumption | omega | decide | exact Or.inl rfl | exact Or.inr (Or.inl rfl) | exact Or.inr (Or.inr rfl)))⟩) [] (by decide) rfl (Nat.le_of_ble_eq_true rfl) (Nat.le_of_ble_eq_true rfl)
        · skip
          have k12 : ¬ ((Int32.toInt x0) = 5) := fun h_9 => c10 ((fa_eq x0 5).mpr h_9)
          by_cases c13 : x0 = 6
          · skip
            have k14 : (Int32.toInt x0) = 6 := (fa_eq x0 6).mp c13
            refine r_lookup 1 166 (off := 165) C dX9_wantedBy_1 (by decide) (by rw [c13]; decide) (by decide) ?_
            refine r_iconst 166 1 C dX9_wantedBy_166 (by decide) ?_
            exact r_iret 167 Rt dX9_wantedBy_167 () (show -1 ≤ (Int32.toInt 1) ∧ (Int32.toInt 1) ≤ 6 from ⟨(by ((repeat' apply And.intro) <;> first | trivial | rfl | assumption | omega | decide | exact Or.inl rfl | exact Or.inr (Or.inl rfl) | exact Or.inr (Or.inr rfl))), (by ((repeat' apply And.intro) <;> first | trivial | rfl | assumption | omega | decide | exact Or.inl rfl | exact Or.inr (Or.inl rfl) | exact Or.inr (Or.inr rfl)))⟩) [] (by decide) rfl (Nat.le_of_ble_eq_true rfl) (Nat.le_of_ble_eq_true rfl)
          · skip
            have k15 : ¬ ((Int32.toInt x0) = 6) := fun h_9 => c13 ((fa_eq x0 6).mpr h_9)
            by_cases c16 : x0 = 7
            · skip
              have k17 : (Int32.toInt x0) = 7 := (fa_eq x0 7).mp c16
              refine r_lookup 1 166 (off := 165) C dX9_wantedBy_1 (by decide) (by rw [c16]; decide) (by decide) ?_
              refine r_iconst 166 1 C dX9_wantedBy_166 (by decide) ?_
              exact r_iret 167 Rt dX9_wantedBy_167 () (show -1 ≤ (Int32.toInt 1) ∧ (Int32.toInt 1) ≤ 6 from ⟨(by ((repeat' apply And.intro) <;> first | trivial | rfl | assumption | omega | decide | exact Or.inl rfl | exact Or.inr (Or.inl rfl) | exact Or.inr (Or.inr rfl))), (by ((repeat' apply And.intro) <;> first | trivial | rfl | assumption | omega | decide | exact Or.inl rfl | exact Or.inr (Or.inl rfl) | exact Or.inr (Or.inr rfl)))⟩) [] (by decide) rfl (Nat.le_of_ble_eq_true rfl) (Nat.le_of_ble_eq_true rfl)
            · skip
              have k18 : ¬ ((Int32.toInt x0) = 7) := fun h_9 => c16 ((fa_eq x0 7).mpr h_9)
              by_cases c19 : x0 = 8
              · skip
                have k20 : (Int32.toInt x0) = 8 := (fa_eq x0 8).mp c19
                refine r_lookup 1 172 (off := 171) C dX9_wantedBy_1 (by decide) (by rw [c19]; decide) (by decide) ?_
                refine r_bipush 172 6 C dX9_wantedBy_172 (by decide) ?_
                exact r_iret 174 Rt dX9_wantedBy_174 () (show -1 ≤ (Int32.toInt 6) ∧ (Int32.toInt 6) ≤ 6 from ⟨(by ((repeat' apply And.intro) <;> first | trivial | rfl | assumption | omega | decide | exact Or.inl rfl | exact Or.inr (Or.inl rfl) | exact Or.inr (Or.inr rfl))), (by ((repeat' apply And.intro) <;> first | trivial | rfl | assumption | omega | decide | exact Or.inl rfl | exact Or.inr (Or.inl rfl) | exact Or.inr (Or.inr rfl)))⟩) [] (by decide) rfl (Nat.le_of_ble_eq_true rfl) (Nat.le_of_ble_eq_true rfl)
              · skip
                have k21 : ¬ ((Int32.toInt x0) = 8) := fun h_9 => c19 ((fa_eq x0 8).mpr h_9)
                by_cases c22 : x0 = 9
                · skip
                  have k23 : (Int32.toInt x0) = 9 := (fa_eq x0 9).mp c22
                  refine r_lookup 1 164 (off := 163) C dX9_wantedBy_1 (by decide) (by rw [c22]; decide) (by decide) ?_
                  refine r_iconst 164 0 C dX9_wantedBy_164 (by decide) ?_
                  exact r_iret 165 Rt dX9_wantedBy_165 () (show -1 ≤ (Int32.toInt 0) ∧ (Int32.toInt 0) ≤ 6 from ⟨(by ((repeat' apply And.intro) <;> first | trivial | rfl | assumption | omega | decide | exact Or.inl rfl | exact Or.inr (Or.inl rfl) | exact Or.inr (Or.inr rfl))), (by ((repeat' apply And.intro) <;> first | trivial | rfl | assumption | omega | decide | exact Or.inl rfl | exact Or.inr (Or.inl rfl) | exact Or.inr (Or.inr rfl)))⟩) [] (by decide) rfl (Nat.le_of_ble_eq_true rfl) (Nat.le_of_ble_eq_true rfl)
                · skip
                  have k24 : ¬ ((Int32.toInt x0) = 9) := fun h_9 => c22 ((fa_eq x0 9).mpr h_9)
                  by_cases c25 : x0 = 13
                  · skip
                    have k26 : (Int32.toInt x0) = 13 := (fa_eq x0 13).mp c25
                    refine r_lookup 1 168 (off := 167) C dX9_wantedBy_1 (by decide) (by rw [c25]; decide) (by decide) ?_
                    refine r_iconst 168 2 C dX9_wantedBy_168 (by decide) ?_
                    exact r_iret 169 Rt dX9_wantedBy_169 () (show -1 ≤ (Int32.toInt 2) ∧ (Int32.toInt 2) ≤ 6 from ⟨(by ((repeat' apply And.intro) <;> first | trivial | rfl | assumption | omega | decide | exact Or.inl rfl | exact Or.inr (Or.inl rfl) | exact Or.inr (Or.inr rfl))), (by ((repeat' apply And.intro) <;> first | trivial | rfl | assumption | omega | decide | exact Or.inl rfl | exact Or.inr (Or.inl rfl) | exact Or.inr (Or.inr rfl)))⟩) [] (by decide) rfl (Nat.le_of_ble_eq_true rfl) (Nat.le_of_ble_eq_true rfl)
                  · skip
                    have k27 : ¬ ((Int32.toInt x0) = 13) := fun h_9 => c25 ((fa_eq x0 13).mpr h_9)
                    by_cases c28 : x0 = 14
                    · skip
                      have k29 : (Int32.toInt x0) = 14 := (fa_eq x0 14).mp c28
                      refine r_lookup 1 164 (off := 163) C dX9_wantedBy_1 (by decide) (by rw [c28]; decide) (by decide) ?_
                      refine r_iconst 164 0 C dX9_wantedBy_164 (by decide) ?_
                      exact r_iret 165 Rt dX9_wantedBy_165 () (show -1 ≤ (Int32.toInt 0) ∧ (Int32.toInt 0) ≤ 6 from ⟨(by ((repeat' apply And.intro) <;> first | trivial | rfl | assumption | omega | decide | exact Or.inl rfl | exact Or.inr (Or.inl rfl) | exact Or.inr (Or.inr rfl))), (by ((repeat' apply And.intro) <;> first | trivial | rfl | assumption | omega | decide | exact Or.inl rfl | exact Or.inr (Or.inl rfl) | exact Or.inr (Or.inr rfl)))⟩) [] (by decide) rfl (Nat.le_of_ble_eq_true rfl) (Nat.le_of_ble_eq_true rfl)
                    · skip
                      have k30 : ¬ ((Int32.toInt x0) = 14) := fun h_9 => c28 ((fa_eq x0 14).mpr h_9)
                      by_cases c31 : x0 = 21
                      · skip
                        have k32 : (Int32.toInt x0) = 21 := (fa_eq x0 21).mp c31
                        refine r_lookup 1 168 (off := 167) C dX9_wantedBy_1 (by decide) (by rw [c31]; decide) (by decide) ?_
                        refine r_iconst 168 2 C dX9_wantedBy_168 (by decide) ?_
                        exact r_iret 169 Rt dX9_wantedBy_169 () (show -1 ≤ (Int32.toInt 2) ∧ (Int32.toInt 2) ≤ 6 from ⟨(by ((repeat' apply And.intro) <;> first | trivial | rfl | assumption | omega | decide | exact Or.inl rfl | exact Or.inr (Or.inl rfl) | exact Or.inr (Or.inr rfl))), (by ((repeat' apply And.intro) <;> first | trivial | rfl | assumption | omega | decide | exact Or.inl rfl | exact Or.inr (Or.inl rfl) | exact Or.inr (Or.inr rfl)))⟩) [] (by decide) rfl (Nat.le_of_ble_eq_true rfl) (Nat.le_of_ble_eq_true rfl)
                      · skip
                        have k33 : ¬ ((Int32.toInt x0) = 21) := fun h_9 => c31 ((fa_eq x0 21).mpr h_9)
                        by_cases c34 : x0 = 22
                        · skip
                          have k35 : (Int32.toInt x0) = 22 := (fa_eq x0 22).mp c34
                          refine r_lookup 1 166 (off := 165) C dX9_wantedBy_1 (by decide) (by rw [c34]; decide) (by decide) ?_
                          refine r_iconst 166 1 C dX9_wantedBy_166 (by decide) ?_
                          exact r_iret 167 Rt dX9_wantedBy_167 () (show -1 ≤ (Int32.toInt 1) ∧ (Int32.toInt 1) ≤ 6 from ⟨(by ((repeat' apply And.intro) <;> first | trivial | rfl | assumption | omega | decide | exact Or.inl rfl | exact Or.inr (Or.inl rfl) | exact Or.inr (Or.inr rfl))), (by ((repeat' apply And.intro) <;> first | trivial | rfl | assumption | omega | decide | exact Or.inl rfl | exact Or.inr (Or.inl rfl) | exact Or.inr (Or.inr rfl)))⟩) [] (by decide) rfl (Nat.le_of_ble_eq_true rfl) (Nat.le_of_ble_eq_true rfl)
                        · skip
                          have k36 : ¬ ((Int32.toInt x0) = 22) := fun h_9 => c34 ((fa_eq x0 22).mpr h_9)
                          by_cases c37 : x0 = 30
                          · skip
                            have k38 : (Int32.toInt x0) = 30 := (fa_eq x0 30).mp c37
                            refine r_lookup 1 170 (off := 169) C dX9_wantedBy_1 (by decide) (by rw [c37]; decide) (by decide) ?_
                            refine r_iconst 170 4 C dX9_wantedBy_170 (by decide) ?_
                            exact r_iret 171 Rt dX9_wantedBy_171 () (show -1 ≤ (Int32.toInt 4) ∧ (Int32.toInt 4) ≤ 6 from ⟨(by ((repeat' apply And.intro) <;> first | trivial | rfl | assumption | omega | decide | exact Or.inl rfl | exact Or.inr (Or.inl rfl) | exact Or.inr (Or.inr rfl))), (by ((repeat' apply And.intro) <;> first | trivial | rfl | assumption | omega | decide | exact Or.inl rfl | exact Or.inr (Or.inl rfl) | exact Or.inr (Or.inr rfl)))⟩) [] (by decide) rfl (Nat.le_of_ble_eq_true rfl) (Nat.le_of_ble_eq_true rfl)
                          · skip
                            have k39 : ¬ ((Int32.toInt x0) = 30) := fun h_9 => c37 ((fa_eq x0 30).mpr h_9)
                            by_cases c40 : x0 = 31
                            · skip
                              have k41 : (Int32.toInt x0) = 31 := (fa_eq x0 31).mp c40
                              refine r_lookup 1 170 (off := 169) C dX9_wantedBy_1 (by decide) (by rw [c40]; decide) (by decide) ?_
                              refine r_iconst 170 4 C dX9_wantedBy_170 (by decide) ?_
                              exact r_iret 171 Rt dX9_wantedBy_171 () (show -1 ≤ (Int32.toInt 4) ∧ (Int32.toInt 4) ≤ 6 from ⟨(by ((repeat' apply And.intro) <;> first | trivial | rfl | assumption | omega | decide | exact Or.inl rfl | exact Or.inr (Or.inl rfl) | exact Or.inr (Or.inr rfl))), (by ((repeat' apply And.intro) <;> first | trivial | rfl | assumption | omega | decide | exact Or.inl rfl | exact Or.inr (Or.inl rfl) | exact Or.inr (Or.inr rfl)))⟩) [] (by decide) rfl (Nat.le_of_ble_eq_true rfl) (Nat.le_of_ble_eq_true rfl)
                            · skip
                              have k42 : ¬ ((Int32.toInt x0) = 31) := fun h_9 => c40 ((fa_eq x0 31).mpr h_9)
                              by_cases c43 : x0 = 256
                              · skip
                                have k44 : (Int32.toInt x0) = 256 := (fa_eq x0 256).mp c43
                                refine r_lookup 1 164 (off := 163) C dX9_wantedBy_1 (by decide) (by rw [c43]; decide) (by decide) ?_
                                refine r_iconst 164 0 C dX9_wantedBy_164 (by decide) ?_
                                exact r_iret 165 Rt dX9_wantedBy_165 () (show -1 ≤ (Int32.toInt 0) ∧ (Int32.toInt 0) ≤ 6 from ⟨(by ((repeat' apply And.intro) <;> first | trivial | rfl | assumption | omega | decide | exact Or.inl rfl | exact Or.inr (Or.inl rfl) | exact Or.inr (Or.inr rfl))), (by ((repeat' apply And.intro) <;> first | trivial | rfl | assumption | omega | decide | exact Or.inl rfl | exact Or.inr (Or.inl rfl) | exact Or.inr (Or.inr rfl)))⟩) [] (by decide) rfl (Nat.le_of_ble_eq_true rfl) (Nat.le_of_ble_eq_true rfl)
                              · skip
                                have k45 : ¬ ((Int32.toInt x0) = 256) := fun h_9 => c43 ((fa_eq x0 256).mpr h_9)
                                by_cases c46 : x0 = 257
                                · skip
                                  have k47 : (Int32.toInt x0) = 257 := (fa_eq x0 257).mp c46
                                  refine r_lookup 1 172 (off := 171) C dX9_wantedBy_1 (by decide) (by rw [c46]; decide) (by decide) ?_
                                  refine r_bipush 172 6 C dX9_wantedBy_172 (by decide) ?_
                                  exact r_iret 174 Rt dX9_wantedBy_174 () (show -1 ≤ (Int32.toInt 6) ∧ (Int32.toInt 6) ≤ 6 from ⟨(by ((repeat' apply And.intro) <;> first | trivial | rfl | assumption | omega | decide | exact Or.inl rfl | exact Or.inr (Or.inl rfl) | exact Or.inr (Or.inr rfl))), (by ((repeat' apply And.intro) <;> first | trivial | rfl | assumption | omega | decide | exact Or.inl rfl | exact Or.inr (Or.inl rfl) | exact Or.inr (Or.inr rfl)))⟩) [] (by decide) rfl (Nat.le_of_ble_eq_true rfl) (Nat.le_of_ble_eq_true rfl)
                                · skip
                                  have k48 : ¬ ((Int32.toInt x0) = 257) := fun h_9 => c46 ((fa_eq x0 257).mpr h_9)
                                  by_cases c49 : x0 = 258
                                  · skip
                                    have k50 : (Int32.toInt x0) = 258 := (fa_eq x0 258).mp c49
                                    refine r_lookup 1 172 (off := 171) C dX9_wantedBy_1 (by decide) (by rw [c49]; decide) (by decide) ?_
                                    refine r_bipush 172 6 C dX9_wantedBy_172 (by decide) ?_
                                    exact r_iret 174 Rt dX9_wantedBy_174 () (show -1 ≤ (Int32.toInt 6) ∧ (Int32.toInt 6) ≤ 6 from ⟨(by ((repeat' apply And.intro) <;> first | trivial | rfl | assumption | omega | decide | exact Or.inl rfl | exact Or.inr (Or.inl rfl) | exact Or.inr (Or.inr rfl))), (by ((repeat' apply And.intro) <;> first | trivial | rfl | assumption | omega | decide | exact Or.inl rfl | exact Or.inr (Or.inl rfl) | exact Or.inr (Or.inr rfl)))⟩) [] (by decide) rfl (Nat.le_of_ble_eq_true rfl) (Nat.le_of_ble_eq_true rfl)
                                  · skip
                                    have k51 : ¬ ((Int32.toInt x0) = 258) := fun h_9 => c49 ((fa_eq x0 258).mpr h_9)
                                    by_cases c52 : x0 = 263
                                    · skip
                                      have k53 : (Int32.toInt x0) = 263 := (fa_eq x0 263).mp c52
                                      refine r_lookup 1 170 (off := 169) C dX9_wantedBy_1 (by decide) (by rw [c52]; decide) (by decide) ?_
                                      refine r_iconst 170 4 C dX9_wantedBy_170 (by decide) ?_
                                      exact r_iret 171 Rt dX9_wantedBy_171 () (show -1 ≤ (Int32.toInt 4) ∧ (Int32.toInt 4) ≤ 6 from ⟨(by ((repeat' apply And.intro) <;> first | trivial | rfl | assumption | omega | decide | exact Or.inl rfl | exact Or.inr (Or.inl rfl) | exact Or.inr (Or.inr rfl))), (by ((repeat' apply And.intro) <;> first | trivial | rfl | assumption | omega | decide | exact Or.inl rfl | exact Or.inr (Or.inl rfl) | exact Or.inr (Or.inr rfl)))⟩) [] (by decide) rfl (Nat.le_of_ble_eq_true rfl) (Nat.le_of_ble_eq_true rfl)
                                    · skip
                                      have k54 : ¬ ((Int32.toInt x0) = 263) := fun h_9 => c52 ((fa_eq x0 263).mpr h_9)
                                      by_cases c55 : x0 = 289
                                      · skip
                                        have k56 : (Int32.toInt x0) = 289 := (fa_eq x0 289).mp c55
                                        refine r_lookup 1 168 (off := 167) C dX9_wantedBy_1 (by decide) (by rw [c55]; decide) (by decide) ?_
                                        refine r_iconst 168 2 C dX9_wantedBy_168 (by decide) ?_
                                        exact r_iret 169 Rt dX9_wantedBy_169 () (show -1 ≤ (Int32.toInt 2) ∧ (Int32.toInt 2) ≤ 6 from ⟨(by ((repeat' apply And.intro) <;> first | trivial | rfl | assumption | omega | decide | exact Or.inl rfl | exact Or.inr (Or.inl rfl) | exact Or.inr (Or.inr rfl))), (by ((repeat' apply And.intro) <;> first | trivial | rfl | assumption | omega | decide | exact Or.inl rfl | exact Or.inr (Or.inl rfl) | exact Or.inr (Or.inr rfl)))⟩) [] (by decide) rfl (Nat.le_of_ble_eq_true rfl) (Nat.le_of_ble_eq_true rfl)
                                      · skip
                                        have k57 : ¬ ((Int32.toInt x0) = 289) := fun h_9 => c55 ((fa_eq x0 289).mpr h_9)
                                        refine r_lookup 1 175 (off := 174) C dX9_wantedBy_1 (by decide) ((lv_osw c1 rfl).trans ((lv_osw c4 rfl).trans ((lv_osw c7 rfl).trans ((lv_osw c10 rfl).trans ((lv_osw c13 rfl).trans ((lv_osw c16 rfl).trans ((lv_osw c19 rfl).trans ((lv_osw c22 rfl).trans ((lv_osw c25 rfl).trans ((lv_osw c28 rfl).trans ((lv_osw c31 rfl).trans ((lv_osw c34 rfl).trans ((lv_osw c37 rfl).trans ((lv_osw c40 rfl).trans ((lv_osw c43 rfl).trans ((lv_osw c46 rfl).trans ((lv_osw c49 rfl).trans ((lv_osw c52 rfl).trans ((lv_osw c55 rfl).trans rfl))))))))))))))))))) (by decide) ?_
                                        refine r_iconst 175 (-1) C dX9_wantedBy_175 (by decide) ?_
                                        exact r_iret 176 Rt dX9_wantedBy_176 () (show -1 ≤ (Int32.toInt (-1)) ∧ (Int32.toInt (-1)) ≤ 6 from ⟨(by ((repeat' apply And.intro) <;> first | trivial | rfl | assumption | omega | decide | exact Or.inl rfl | exact Or.inr (Or.inl rfl) | exact Or.inr (Or.inr rfl))), (by ((repeat' apply And.intro) <;> first | trivial | rfl | assumption | omega | decide | exact Or.inl rfl | exact Or.inr (Or.inl rfl) | exact Or.inr (Or.inr rfl)))⟩) [] (by decide) rfl (Nat.le_of_ble_eq_true rfl) (Nat.le_of_ble_eq_true rfl)
set_option maxHeartbeats 4000000 in
set_option maxRecDepth 100000 in
theorem c251_X6_moveBy (l : Launch) (g : GD) (h0 : Nat) (h1 : Nat) (h2 : Nat) (y0 : Int64) (y1 : Int64) (x0 : Int32) (x1 : Int32) (y2 : Int64) (y3 : Int64) (x2 : Int32) (fn0 : Nat → Int32) (fm0 : Nat → Int64) (i_x0 : (0 ≤ (Int32.toInt x0) ∧ (Int32.toInt x0) ≤ 400)) (i_x1 : (0 ≤ (Int32.toInt x1) ∧ (Int32.toInt x1) ≤ 400)) (i_x2 : (0 ≤ (Int32.toInt x2) ∧ (Int32.toInt x2) ≤ 1)) (sz : Nat) : Met l yX6_moveBy wsX6_moveBy ({ frames := 1, cells := 0, slots := 0, locals := 21 }) (va_Pc [.ref h0, .long y0, .long y1] (PW g [(h0, .inr (5, [.ref h1, .ref h2, .int x0, .int x1, .long y2, .long y3, .int x2])), (h1, .inl (gB g, 400, .inl fn0)), (h2, .inl (gJ g, 2400, .inr (.inl fm0)))] sz)) (va_Qi (fun (r : Int32) (u : (Int32) × (Int64) × (Int64) × (Nat → Int32) × (Nat → Int64)) => 0 ≤ (Int32.toInt r) ∧ (Int32.toInt r) ≤ 6 ∧ 0 ≤ (Int32.toInt (u.1)) ∧ (Int32.toInt (u.1)) ≤ 400) (BW g (va_A [(h0, .inr (5, [.ref h1, .ref h2, .int x0, .int x1, .long y2, .long y3, .int x2])), (h1, .inl (gB g, 400, .inl fn0)), (h2, .inl (gJ g, 2400, .inr (.inl fm0)))] sz) (fun u : (Int32) × (Int64) × (Int64) × (Nat → Int32) × (Nat → Int64) => [(h0, .inr (5, [.ref h1, .ref h2, .int u.1, .int x1, .long u.2.1, .long u.2.2.1, .int 0])), (h1, .inl (gB g, 400, .inl u.2.2.2.1)), (h2, .inl (gJ g, 2400, .inr (.inl u.2.2.2.2)))])) (va_A [(h0, .inr (5, [.ref h1, .ref h2, .int x0, .int x1, .long y2, .long y3, .int x2])), (h1, .inl (gB g, 400, .inl fn0)), (h2, .inl (gJ g, 2400, .inr (.inl fm0)))] sz)) 0 0 (va_A [(h0, .inr (5, [.ref h1, .ref h2, .int x0, .int x1, .long y2, .long y3, .int x2])), (h1, .inl (gB g, 400, .inl fn0)), (h2, .inl (gJ g, 2400, .inr (.inl fm0)))] sz) := by
  refine met_i RX6 (by decide) rfl rfl (Nat.le_of_ble_eq_true rfl) [(0, .ref h0), (1, .long y0), (3, .long y1)] rfl ?_
  intro p e s m args below meth c A Q C hnm Rt
  have hiX6 : ∀ w ∈ wsX60, w ∈ wsX6_moveBy := fun w h => List.mem_cons_of_mem _ (List.mem_append_right _ (h))
  refine r_aload_n 0 0 C dX6_moveBy_0 rfl ?_
  refine r_dup 1 C dX6_moveBy_1 rfl ?_
  refine r_get 2 C dX6_moveBy_2 (k := 4) 0 rfl rfl hiX6 (by decide) rfl (mg 1 rfl) (Or.inl rfl) rfl ?_
  refine r_lload_n 5 1 C dX6_moveBy_5 rfl ?_
  obtain ⟨z1, ez1⟩ : ∃ z_9, y2 + y0 = z_9 := ⟨_, rfl⟩
  have gz1 := fb_rngL z1
  refine r_ladd 6 z1 C dX6_moveBy_6 ez1 ?_
  refine r_put 7 C dX6_moveBy_7 (k := 4) 0 rfl rfl hiX6 tyX6 tyX6_ok nmX6 (by decide) rfl (mg 1 rfl) (Or.inl rfl) rfl rfl rfl rfl (Nat.le_of_ble_eq_true rfl) [(h0, .inr (5, [.ref h1, .ref h2, .int x0, .int x1, .long z1, .long y3, .int x2])), (h1, .inl (gB g, 400, .inl fn0)), (h2, .inl (gJ g, 2400, .inr (.inl fm0)))] rfl ?_
  refine r_aload_n 10 0 C dX6_moveBy_10 rfl ?_
  refine r_dup 11 C dX6_moveBy_11 rfl ?_
  refine r_get 12 C dX6_moveBy_12 (k := 5) 0 rfl rfl hiX6 (by decide) rfl (mg 2 rfl) (Or.inl rfl) rfl ?_
  refine r_lload_n 15 2 C dX6_moveBy_15 rfl ?_
  obtain ⟨z2, ez2⟩ : ∃ z_9, y3 + y1 = z_9 := ⟨_, rfl⟩
  have gz2 := fb_rngL z2
  refine r_ladd 16 z2 C dX6_moveBy_16 ez2 ?_
  refine r_put 17 C dX6_moveBy_17 (k := 5) 0 rfl rfl hiX6 tyX6 tyX6_ok nmX6 (by decide) rfl (mg 2 rfl) (Or.inl rfl) rfl rfl rfl rfl (Nat.le_of_ble_eq_true rfl) [(h0, .inr (5, [.ref h1, .ref h2, .int x0, .int x1, .long z1, .long z2, .int x2])), (h1, .inl (gB g, 400, .inl fn0)), (h2, .inl (gJ g, 2400, .inr (.inl fm0)))] rfl ?_
  refine r_aload_n 20 0 C dX6_moveBy_20 rfl ?_
  refine r_iconst 21 0 C dX6_moveBy_21 (by decide) ?_
  refine r_put 22 C dX6_moveBy_22 (k := 6) 0 rfl rfl hiX6 tyX6 tyX6_ok nmX6 (by decide) rfl (mg 3 rfl) (Or.inl rfl) rfl rfl rfl rfl (Nat.le_of_ble_eq_true rfl) [(h0, .inr (5, [.ref h1, .ref h2, .int x0, .int x1, .long z1, .long z2, .int 0])), (h1, .inl (gB g, 400, .inl fn0)), (h2, .inl (gJ g, 2400, .inr (.inl fm0)))] rfl ?_
  refine r_aload_n 25 0 C dX6_moveBy_25 rfl ?_
  refine r_iconst 26 0 C dX6_moveBy_26 (by decide) ?_
  refine r_callVi 27 C dX6_moveBy_27 [] [(h0, .inr (5, [.ref h1, .ref h2, .int x0, .int x1, .long z1, .long z2, .int 0])), (h1, .inl (gB g, 400, .inl fn0)), (h2, .inl (gJ g, 2400, .inr (.inl fm0)))] [] (fun sz => c245_X6_add l g h0 h1 h2 0 x0 x1 z1 z2 0 fn0 fm0 i_x0 i_x1 (by decide) sz) gX6_moveBy_X6_add rfl ⟨rfl, rfl⟩ 1 (by decide) ⟨Nat.le_of_ble_eq_true rfl, Nat.le_of_ble_eq_true rfl⟩ 0 rfl rfl [0, 1, 2] [] rfl rfl (by decide) (by decide) (by decide) rfl rfl (Nat.le_of_ble_eq_true rfl) ⟨Nat.le_of_ble_eq_true rfl, Nat.le_of_ble_eq_true rfl⟩ (fun r6 u8 w7 => ?_)
  obtain ⟨z3, f4, f5⟩ := u8
  refine r_ws [(h0, .inr (5, [.ref h1, .ref h2, .int z3, .int x1, .long z1, .long z2, .int 0])), (h1, .inl (gB g, 400, .inl f4)), (h2, .inl (gJ g, 2400, .inr (.inl f5)))] rfl ?_
  have p9 : 0 ≤ (Int32.toInt z3) := w7.2.1
  have p10 : (Int32.toInt z3) ≤ 400 := w7.2.2
  have w11 : (((Int32.toInt x0) < (Int32.toInt x1) ∧ (Int32.toInt z3) = (Int32.toInt x0) + 1 ∧ r6 = 0) ∨ (¬ ((Int32.toInt x0) < (Int32.toInt x1)) ∧ (Int32.toInt z3) = (Int32.toInt x0) ∧ r6 = 6)) := w7.1
  rcases w11 with ⟨k12, k13, k14⟩ | w11
  · skip
    have k14 := k14.symm
    subst k14
    exact r_iret 30 Rt dX6_moveBy_30 (z3, z1, z2, f4, f5) (show 0 ≤ (Int32.toInt 0) ∧ (Int32.toInt 0) ≤ 6 ∧ 0 ≤ (Int32.toInt z3) ∧ (Int32.toInt z3) ≤ 400 from ⟨(by ((repeat' apply And.intro) <;> first | trivial | rfl | assumption | omega | decide | exact Or.inl rfl | exact Or.inr (Or.inl rfl) | exact Or.inr (Or.inr rfl))), (by ((repeat' apply And.intro) <;> first | trivial | rfl | assumption | omega | decide | exact Or.inl rfl | exact Or.inr (Or.inl rfl) | exact Or.inr (Or.inr rfl))), (show _ ∧ _ from ⟨p9, p10⟩).1, (show _ ∧ _ from ⟨p9, p10⟩).2⟩) [0, 1, 2] (by decide) rfl (Nat.le_of_ble_eq_true rfl) (Nat.le_of_ble_eq_true rfl)
  obtain ⟨k15, k16, k17⟩ := w11
  have k17 := k17.symm
  subst k17
  exact r_iret 30 Rt dX6_moveBy_30 (z3, z1, z2, f4, f5) (show 0 ≤ (Int32.toInt 6) ∧ (Int32.toInt 6) ≤ 6 ∧ 0 ≤ (Int32.toInt z3) ∧ (Int32.toInt z3) ≤ 400 from ⟨(by ((repeat' apply And.intro) <;> first | trivial | rfl | assumption | omega | decide | exact Or.inl rfl | exact Or.inr (Or.inl rfl) | exact Or.inr (Or.inr rfl))), (by ((repeat' apply And.intro) <;> first | trivial | rfl | assumption | omega | decide | exact Or.inl rfl | exact Or.inr (Or.inl rfl) | exact Or.inr (Or.inr rfl))), (show _ ∧ _ from ⟨p9, p10⟩).1, (show _ ∧ _ from ⟨p9, p10⟩).2⟩) [0, 1, 2] (by decide) rfl (Nat.le_of_ble_eq_true rfl) (Nat.le_of_ble_eq_true rfl)
set_option maxHeartbeats 4000000 in
set_option maxRecDepth 100000 in
theorem c252_X6_goBy (l : Launch) (g : GD) (h0 : Nat) (y0 : Int64) (y1 : Int64) (h1 : Nat) (h2 : Nat) (x0 : Int32) (x1 : Int32) (y2 : Int64) (y3 : Int64) (x2 : Int32) (i_x0 : (0 ≤ (Int32.toInt x0) ∧ (Int32.toInt x0) ≤ 400)) (i_x1 : (0 ≤ (Int32.toInt x1) ∧ (Int32.toInt x1) ≤ 400)) (i_x2 : (0 ≤ (Int32.toInt x2) ∧ (Int32.toInt x2) ≤ 1)) (sz : Nat) : Met l yX6_goBy wsX6_goBy ({ frames := 0, cells := 0, slots := 0, locals := 0 }) (va_Pc [.ref h0, .long y0, .long y1] (PW g [(h0, .inr (5, [.ref h1, .ref h2, .int x0, .int x1, .long y2, .long y3, .int x2]))] sz)) (va_Qv (fun (u : (Int64) × (Int64)) => True) (BW g (va_A [(h0, .inr (5, [.ref h1, .ref h2, .int x0, .int x1, .long y2, .long y3, .int x2]))] sz) (fun u : (Int64) × (Int64) => [(h0, .inr (5, [.ref h1, .ref h2, .int x0, .int x1, .long u.1, .long u.2, .int x2]))])) (va_A [(h0, .inr (5, [.ref h1, .ref h2, .int x0, .int x1, .long y2, .long y3, .int x2]))] sz)) 0 0 (va_A [(h0, .inr (5, [.ref h1, .ref h2, .int x0, .int x1, .long y2, .long y3, .int x2]))] sz) := by
  refine met_v RX6 (by decide) rfl rfl (Nat.le_of_ble_eq_true rfl) [(0, .ref h0), (1, .long y0), (3, .long y1)] rfl ?_
  intro p e s m args below meth c A Q C hnm Rt
  have hiX6 : ∀ w ∈ wsX60, w ∈ wsX6_goBy := fun w h => List.mem_cons_of_mem _ (List.mem_append_right _ (h))
  refine r_aload_n 0 0 C dX6_goBy_0 rfl ?_
  refine r_dup 1 C dX6_goBy_1 rfl ?_
  refine r_get 2 C dX6_goBy_2 (k := 4) 0 rfl rfl hiX6 (by decide) rfl (mg 1 rfl) (Or.inl rfl) rfl ?_
  refine r_lload_n 5 1 C dX6_goBy_5 rfl ?_
  obtain ⟨z1, ez1⟩ : ∃ z_9, y2 + y0 = z_9 := ⟨_, rfl⟩
  have gz1 := fb_rngL z1
  refine r_ladd 6 z1 C dX6_goBy_6 ez1 ?_
  refine r_put 7 C dX6_goBy_7 (k := 4) 0 rfl rfl hiX6 tyX6 tyX6_ok nmX6 (by decide) rfl (mg 1 rfl) (Or.inl rfl) rfl rfl rfl rfl (Nat.le_of_ble_eq_true rfl) [(h0, .inr (5, [.ref h1, .ref h2, .int x0, .int x1, .long z1, .long y3, .int x2]))] rfl ?_
  refine r_aload_n 10 0 C dX6_goBy_10 rfl ?_
  refine r_dup 11 C dX6_goBy_11 rfl ?_
  refine r_get 12 C dX6_goBy_12 (k := 5) 0 rfl rfl hiX6 (by decide) rfl (mg 2 rfl) (Or.inl rfl) rfl ?_
  refine r_lload_n 15 2 C dX6_goBy_15 rfl ?_
  obtain ⟨z2, ez2⟩ : ∃ z_9, y3 + y1 = z_9 := ⟨_, rfl⟩
  have gz2 := fb_rngL z2
  refine r_ladd 16 z2 C dX6_goBy_16 ez2 ?_
  refine r_put 17 C dX6_goBy_17 (k := 5) 0 rfl rfl hiX6 tyX6 tyX6_ok nmX6 (by decide) rfl (mg 2 rfl) (Or.inl rfl) rfl rfl rfl rfl (Nat.le_of_ble_eq_true rfl) [(h0, .inr (5, [.ref h1, .ref h2, .int x0, .int x1, .long z1, .long z2, .int x2]))] rfl ?_
  exact r_vret 20 Rt dX6_goBy_20 (z1, z2) trivial [0] (by decide) rfl (Nat.le_of_ble_eq_true rfl) (Nat.le_of_ble_eq_true rfl)
set_option maxHeartbeats 4000000 in
set_option maxRecDepth 100000 in
theorem c253_X9_move (l : Launch) (g : GD) (h0 : Nat) (h1 : Nat) (h2 : Nat) (h3 : Nat) (y0 : Int64) (y1 : Int64) (h4 : Nat) (h5 : Nat) (x0 : Int32) (x1 : Int32) (y2 : Int64) (x2 : Int32) (x3 : Int32) (x4 : Int32) (x5 : Int32) (h6 : Nat) (h7 : Nat) (h8 : Nat) (x6 : Int32) (x7 : Int32) (h9 : Nat) (h10 : Nat) (x8 : Int32) (h11 : Nat) (x9 : Int32) (x10 : Int32) (x11 : Int32) (y3 : Int64) (y4 : Int64) (x12 : Int32) (fn0 : Nat → Int32) (fm0 : Nat → Int64) (i_x5 : (0 ≤ (Int32.toInt x5) ∧ (Int32.toInt x5) ≤ 1)) (i_x6 : (0 ≤ (Int32.toInt x6) ∧ (Int32.toInt x6) ≤ 10)) (i_x7 : (0 ≤ (Int32.toInt x7) ∧ (Int32.toInt x7) ≤ 1)) (i_x8 : (0 ≤ (Int32.toInt x8) ∧ (Int32.toInt x8) ≤ 7)) (i_x9 : (0 ≤ (Int32.toInt x9) ∧ (Int32.toInt x9) ≤ 24)) (i_x10 : (0 ≤ (Int32.toInt x10) ∧ (Int32.toInt x10) ≤ 400)) (i_x11 : (0 ≤ (Int32.toInt x11) ∧ (Int32.toInt x11) ≤ 400)) (i_x12 : (0 ≤ (Int32.toInt x12) ∧ (Int32.toInt x12) ≤ 1)) (sz : Nat) : Met l yX9_move wsX9_move ({ frames := 2, cells := 0, slots := 0, locals := 45 }) (va_Pc [.ref h0, .long y0, .long y1] (PW g [(h0, .inr (8, [.ref h4, .ref h1, .ref h5, .int x0, .int x1, .long y2, .int x2, .int x3, .int x4, .int x5, .ref h6, .ref h7, .ref h8, .int x6, .int x7, .ref h9, .ref h10, .int x8, .ref h11, .int x9])), (h1, .inr (5, [.ref h2, .ref h3, .int x10, .int x11, .long y3, .long y4, .int x12])), (h2, .inl (gB g, 400, .inl fn0)), (h3, .inl (gJ g, 2400, .inr (.inl fm0)))] sz)) (va_Qi (fun (r : Int32) (u : (Int32) × (Int64) × (Int64) × (Int32) × (Nat → Int32) × (Nat → Int64)) => 0 ≤ (Int32.toInt r) ∧ (Int32.toInt r) ≤ 6 ∧ 0 ≤ (Int32.toInt (u.1)) ∧ (Int32.toInt (u.1)) ≤ 400 ∧ 0 ≤ (Int32.toInt (u.2.2.2.1)) ∧ (Int32.toInt (u.2.2.2.1)) ≤ 1) (BW g (va_A [(h0, .inr (8, [.ref h4, .ref h1, .ref h5, .int x0, .int x1, .long y2, .int x2, .int x3, .int x4, .int x5, .ref h6, .ref h7, .ref h8, .int x6, .int x7, .ref h9, .ref h10, .int x8, .ref h11, .int x9])), (h1, .inr (5, [.ref h2, .ref h3, .int x10, .int x11, .long y3, .long y4, .int x12])), (h2, .inl (gB g, 400, .inl fn0)), (h3, .inl (gJ g, 2400, .inr (.inl fm0)))] sz) (fun u : (Int32) × (Int64) × (Int64) × (Int32) × (Nat → Int32) × (Nat → Int64) => [(h0, .inr (8, [.ref h4, .ref h1, .ref h5, .int x0, .int x1, .long y2, .int x2, .int x3, .int x4, .int x5, .ref h6, .ref h7, .ref h8, .int x6, .int x7, .ref h9, .ref h10, .int x8, .ref h11, .int x9])), (h1, .inr (5, [.ref h2, .ref h3, .int u.1, .int x11, .long u.2.1, .long u.2.2.1, .int u.2.2.2.1])), (h2, .inl (gB g, 400, .inl u.2.2.2.2.1)), (h3, .inl (gJ g, 2400, .inr (.inl u.2.2.2.2.2)))])) (va_A [(h0, .inr (8, [.ref h4, .ref h1, .ref h5, .int x0, .int x1, .long y2, .int x2, .int x3, .int x4, .int x5, .ref h6, .ref h7, .ref h8, .int x6, .int x7, .ref h9, .ref h10, .int x8, .ref h11, .int x9])), (h1, .inr (5, [.ref h2, .ref h3, .int x10, .int x11, .long y3, .long y4, .int x12])), (h2, .inl (gB g, 400, .inl fn0)), (h3, .inl (gJ g, 2400, .inr (.inl fm0)))] sz)) 0 0 (va_A [(h0, .inr (8, [.ref h4, .ref h1, .ref h5, .int x0, .int x1, .long y2, .int x2, .int x3, .int x4, .int x5, .ref h6, .ref h7, .ref h8, .int x6, .int x7, .ref h9, .ref h10, .int x8, .ref h11, .int x9])), (h1, .inr (5, [.ref h2, .ref h3, .int x10, .int x11, .long y3, .long y4, .int x12])), (h2, .inl (gB g, 400, .inl fn0)), (h3, .inl (gJ g, 2400, .inr (.inl fm0)))] sz) := by
  refine met_i RX9 (by decide) rfl rfl (Nat.le_of_ble_eq_true rfl) [(0, .ref h0), (1, .long y0), (3, .long y1)] rfl ?_
  intro p e s m args below meth c A Q C hnm Rt
  have hiX9 : ∀ w ∈ wsX90, w ∈ wsX9_move := fun w h => List.mem_cons_of_mem _ (List.mem_append_left _ (List.mem_append_left _ (List.mem_append_right _ (h))))
  refine r_aload_n 0 0 C dX9_move_0 rfl ?_
  refine r_get 1 C dX9_move_1 (k := 14) 0 rfl rfl hiX9 (by decide) rfl (mg 1 rfl) (Or.inl rfl) rfl ?_
  refine r_if_eq 4 18 C dX9_move_4 (by decide) (fun c1 => ?_) (fun c1 => ?_)
  · skip
    have k2 : (Int32.toInt x7) = 0 := (fa_eq x7 0).mp c1
    refine r_aload_n 18 0 C dX9_move_18 rfl ?_
    refine r_get 19 C dX9_move_19 (k := 1) 0 rfl rfl hiX9 (by decide) rfl (mg 2 rfl) (Or.inr (mg 3 rfl)) rfl ?_
    refine r_lload_n 22 1 C dX9_move_22 rfl ?_
    refine r_lload_n 23 2 C dX9_move_23 rfl ?_
    refine r_callVi 24 C dX9_move_24 [] [(h1, .inr (5, [.ref h2, .ref h3, .int x10, .int x11, .long y3, .long y4, .int x12])), (h2, .inl (gB g, 400, .inl fn0)), (h3, .inl (gJ g, 2400, .inr (.inl fm0)))] [(h0, .inr (8, [.ref h4, .ref h1, .ref h5, .int x0, .int x1, .long y2, .int x2, .int x3, .int x4, .int x5, .ref h6, .ref h7, .ref h8, .int x6, .int x7, .ref h9, .ref h10, .int x8, .ref h11, .int x9]))] (fun sz => c251_X6_moveBy l g h1 h2 h3 y0 y1 x10 x11 y3 y4 x12 fn0 fm0 i_x10 i_x11 i_x12 sz) gX9_move_X6_moveBy rfl ⟨rfl, rfl⟩ 2 (by decide) ⟨Nat.le_of_ble_eq_true rfl, Nat.le_of_ble_eq_true rfl⟩ 1 rfl rfl [1, 2, 3] [0] rfl rfl (by decide) (by decide) (by decide) rfl rfl (Nat.le_of_ble_eq_true rfl) ⟨Nat.le_of_ble_eq_true rfl, Nat.le_of_ble_eq_true rfl⟩ (fun r8 u10 w9 => ?_)
    obtain ⟨z3, z4, z5, f6, f7⟩ := u10
    refine r_ws [(h0, .inr (8, [.ref h4, .ref h1, .ref h5, .int x0, .int x1, .long y2, .int x2, .int x3, .int x4, .int x5, .ref h6, .ref h7, .ref h8, .int x6, .int x7, .ref h9, .ref h10, .int x8, .ref h11, .int x9])), (h1, .inr (5, [.ref h2, .ref h3, .int z3, .int x11, .long z4, .long z5, .int 0])), (h2, .inl (gB g, 400, .inl f6)), (h3, .inl (gJ g, 2400, .inr (.inl f7)))] rfl ?_
    have gz4 := fb_rngL z4
    have gz5 := fb_rngL z5
    have p11 : 0 ≤ (Int32.toInt r8) := w9.1
    have p12 : (Int32.toInt r8) ≤ 6 := w9.2.1
    have p13 : 0 ≤ (Int32.toInt z3) := w9.2.2.1
    have p14 : (Int32.toInt z3) ≤ 400 := w9.2.2.2
    exact r_iret 27 Rt dX9_move_27 (z3, z4, z5, 0, f6, f7) (show 0 ≤ (Int32.toInt r8) ∧ (Int32.toInt r8) ≤ 6 ∧ 0 ≤ (Int32.toInt z3) ∧ (Int32.toInt z3) ≤ 400 ∧ 0 ≤ (Int32.toInt 0) ∧ (Int32.toInt 0) ≤ 1 from ⟨(show _ ∧ _ from ⟨p11, p12⟩).1, (show _ ∧ _ from ⟨p11, p12⟩).2, (show _ ∧ _ from ⟨p13, p14⟩).1, (show _ ∧ _ from ⟨p13, p14⟩).2, (by ((repeat' apply And.intro) <;> first | trivial | rfl | assumption | omega | decide | exact Or.inl rfl | exact Or.inr (Or.inl rfl) | exact Or.inr (Or.inr rfl))), (by ((repeat' apply And.intro) <;> first | trivial | rfl | assumption | omega | decide | exact Or.inl rfl | exact Or.inr (Or.inl rfl) | exact Or.inr (Or.inr rfl)))⟩) [0, 1, 2, 3] (by decide) rfl (Nat.le_of_ble_eq_true rfl) (Nat.le_of_ble_eq_true rfl)
  · skip
    have k15 : ¬ ((Int32.toInt x7) = 0) := fun h_9 => c1 ((fa_eq x7 0).mpr h_9)
    refine r_aload_n 7 0 C dX9_move_7 rfl ?_
    refine r_get 8 C dX9_move_8 (k := 1) 0 rfl rfl hiX9 (by decide) rfl (mg 2 rfl) (Or.inr (mg 3 rfl)) rfl ?_
    refine r_lload_n 11 1 C dX9_move_11 rfl ?_
    refine r_lload_n 12 2 C dX9_move_12 rfl ?_
    refine r_callVv 13 C dX9_move_13 [] [(h1, .inr (5, [.ref h2, .ref h3, .int x10, .int x11, .long y3, .long y4, .int x12]))] [(h0, .inr (8, [.ref h4, .ref h1, .ref h5, .int x0, .int x1, .long y2, .int x2, .int x3, .int x4, .int x5, .ref h6, .ref h7, .ref h8, .int x6, .int x7, .ref h9, .ref h10, .int x8, .ref h11, .int x9])), (h2, .inl (gB g, 400, .inl fn0)), (h3, .inl (gJ g, 2400, .inr (.inl fm0)))] (fun sz => c252_X6_goBy l g h1 y0 y1 h2 h3 x10 x11 y3 y4 x12 i_x10 i_x11 i_x12 sz) gX9_move_X6_goBy rfl ⟨rfl, rfl⟩ 2 (by decide) ⟨Nat.le_of_ble_eq_true rfl, Nat.le_of_ble_eq_true rfl⟩ 1 rfl rfl [1] [0, 2, 3] rfl rfl (by decide) (by decide) (by decide) rfl rfl (Nat.le_of_ble_eq_true rfl) ⟨Nat.le_of_ble_eq_true rfl, Nat.le_of_ble_eq_true rfl⟩ (fun  u19 w18 => ?_)
    obtain ⟨z16, z17⟩ := u19
    refine r_ws [(h0, .inr (8, [.ref h4, .ref h1, .ref h5, .int x0, .int x1, .long y2, .int x2, .int x3, .int x4, .int x5, .ref h6, .ref h7, .ref h8, .int x6, .int x7, .ref h9, .ref h10, .int x8, .ref h11, .int x9])), (h2, .inl (gB g, 400, .inl fn0)), (h3, .inl (gJ g, 2400, .inr (.inl fm0))), (h1, .inr (5, [.ref h2, .ref h3, .int x10, .int x11, .long z16, .long z17, .int x12]))] rfl ?_
    have gz16 := fb_rngL z16
    have gz17 := fb_rngL z17
    refine r_iconst 16 0 C dX9_move_16 (by decide) ?_
    exact r_iret 17 Rt dX9_move_17 (x10, z16, z17, x12, fn0, fm0) (show 0 ≤ (Int32.toInt 0) ∧ (Int32.toInt 0) ≤ 6 ∧ 0 ≤ (Int32.toInt x10) ∧ (Int32.toInt x10) ≤ 400 ∧ 0 ≤ (Int32.toInt x12) ∧ (Int32.toInt x12) ≤ 1 from ⟨(by ((repeat' apply And.intro) <;> first | trivial | rfl | assumption | omega | decide | exact Or.inl rfl | exact Or.inr (Or.inl rfl) | exact Or.inr (Or.inr rfl))), (by ((repeat' apply And.intro) <;> first | trivial | rfl | assumption | omega | decide | exact Or.inl rfl | exact Or.inr (Or.inl rfl) | exact Or.inr (Or.inr rfl))), i_x10.1, i_x10.2, i_x12.1, i_x12.2⟩) [0, 3, 1, 2] (by decide) rfl (Nat.le_of_ble_eq_true rfl) (Nat.le_of_ble_eq_true rfl)
set_option maxHeartbeats 4000000 in
set_option maxRecDepth 100000 in
theorem c254_X6_lineBy (l : Launch) (g : GD) (h0 : Nat) (h1 : Nat) (h2 : Nat) (y0 : Int64) (y1 : Int64) (x0 : Int32) (x1 : Int32) (y2 : Int64) (y3 : Int64) (x2 : Int32) (fn0 : Nat → Int32) (fm0 : Nat → Int64) (i_x0 : (0 ≤ (Int32.toInt x0) ∧ (Int32.toInt x0) ≤ 400)) (i_x1 : (0 ≤ (Int32.toInt x1) ∧ (Int32.toInt x1) ≤ 400)) (i_x2 : (0 ≤ (Int32.toInt x2) ∧ (Int32.toInt x2) ≤ 1)) (sz : Nat) : Met l yX6_lineBy wsX6_lineBy ({ frames := 1, cells := 0, slots := 0, locals := 21 }) (va_Pc [.ref h0, .long y0, .long y1] (PW g [(h0, .inr (5, [.ref h1, .ref h2, .int x0, .int x1, .long y2, .long y3, .int x2])), (h1, .inl (gB g, 400, .inl fn0)), (h2, .inl (gJ g, 2400, .inr (.inl fm0)))] sz)) (va_Qi (fun (r : Int32) (u : (Int32) × (Int64) × (Int64) × (Nat → Int32) × (Nat → Int64)) => 0 ≤ (Int32.toInt r) ∧ (Int32.toInt r) ≤ 6 ∧ 0 ≤ (Int32.toInt (u.1)) ∧ (Int32.toInt (u.1)) ≤ 400) (BW g (va_A [(h0, .inr (5, [.ref h1, .ref h2, .int x0, .int x1, .long y2, .long y3, .int x2])), (h1, .inl (gB g, 400, .inl fn0)), (h2, .inl (gJ g, 2400, .inr (.inl fm0)))] sz) (fun u : (Int32) × (Int64) × (Int64) × (Nat → Int32) × (Nat → Int64) => [(h0, .inr (5, [.ref h1, .ref h2, .int u.1, .int x1, .long u.2.1, .long u.2.2.1, .int 1])), (h1, .inl (gB g, 400, .inl u.2.2.2.1)), (h2, .inl (gJ g, 2400, .inr (.inl u.2.2.2.2)))])) (va_A [(h0, .inr (5, [.ref h1, .ref h2, .int x0, .int x1, .long y2, .long y3, .int x2])), (h1, .inl (gB g, 400, .inl fn0)), (h2, .inl (gJ g, 2400, .inr (.inl fm0)))] sz)) 0 0 (va_A [(h0, .inr (5, [.ref h1, .ref h2, .int x0, .int x1, .long y2, .long y3, .int x2])), (h1, .inl (gB g, 400, .inl fn0)), (h2, .inl (gJ g, 2400, .inr (.inl fm0)))] sz) := by
  refine met_i RX6 (by decide) rfl rfl (Nat.le_of_ble_eq_true rfl) [(0, .ref h0), (1, .long y0), (3, .long y1)] rfl ?_
  intro p e s m args below meth c A Q C hnm Rt
  have hiX6 : ∀ w ∈ wsX60, w ∈ wsX6_lineBy := fun w h => List.mem_cons_of_mem _ (List.mem_append_right _ (h))
  refine r_aload_n 0 0 C dX6_lineBy_0 rfl ?_
  refine r_dup 1 C dX6_lineBy_1 rfl ?_
  refine r_get 2 C dX6_lineBy_2 (k := 4) 0 rfl rfl hiX6 (by decide) rfl (mg 1 rfl) (Or.inl rfl) rfl ?_
  refine r_lload_n 5 1 C dX6_lineBy_5 rfl ?_
  obtain ⟨z1, ez1⟩ : ∃ z_9, y2 + y0 = z_9 := ⟨_, rfl⟩
  have gz1 := fb_rngL z1
  refine r_ladd 6 z1 C dX6_lineBy_6 ez1 ?_
  refine r_put 7 C dX6_lineBy_7 (k := 4) 0 rfl rfl hiX6 tyX6 tyX6_ok nmX6 (by decide) rfl (mg 1 rfl) (Or.inl rfl) rfl rfl rfl rfl (Nat.le_of_ble_eq_true rfl) [(h0, .inr (5, [.ref h1, .ref h2, .int x0, .int x1, .long z1, .long y3, .int x2])), (h1, .inl (gB g, 400, .inl fn0)), (h2, .inl (gJ g, 2400, .inr (.inl fm0)))] rfl ?_
  refine r_aload_n 10 0 C dX6_lineBy_10 rfl ?_
  refine r_dup 11 C dX6_lineBy_11 rfl ?_
  refine r_get 12 C dX6_lineBy_12 (k := 5) 0 rfl rfl hiX6 (by decide) rfl (mg 2 rfl) (Or.inl rfl) rfl ?_
  refine r_lload_n 15 2 C dX6_lineBy_15 rfl ?_
  obtain ⟨z2, ez2⟩ : ∃ z_9, y3 + y1 = z_9 := ⟨_, rfl⟩
  have gz2 := fb_rngL z2
  refine r_ladd 16 z2 C dX6_lineBy_16 ez2 ?_
  refine r_put 17 C dX6_lineBy_17 (k := 5) 0 rfl rfl hiX6 tyX6 tyX6_ok nmX6 (by decide) rfl (mg 2 rfl) (Or.inl rfl) rfl rfl rfl rfl (Nat.le_of_ble_eq_true rfl) [(h0, .inr (5, [.ref h1, .ref h2, .int x0, .int x1, .long z1, .long z2, .int x2])), (h1, .inl (gB g, 400, .inl fn0)), (h2, .inl (gJ g, 2400, .inr (.inl fm0)))] rfl ?_
  refine r_aload_n 20 0 C dX6_lineBy_20 rfl ?_
  refine r_iconst 21 1 C dX6_lineBy_21 (by decide) ?_
  refine r_put 22 C dX6_lineBy_22 (k := 6) 0 rfl rfl hiX6 tyX6 tyX6_ok nmX6 (by decide) rfl (mg 3 rfl) (Or.inl rfl) rfl rfl rfl rfl (Nat.le_of_ble_eq_true rfl) [(h0, .inr (5, [.ref h1, .ref h2, .int x0, .int x1, .long z1, .long z2, .int 1])), (h1, .inl (gB g, 400, .inl fn0)), (h2, .inl (gJ g, 2400, .inr (.inl fm0)))] rfl ?_
  refine r_aload_n 25 0 C dX6_lineBy_25 rfl ?_
  refine r_iconst 26 1 C dX6_lineBy_26 (by decide) ?_
  refine r_callVi 27 C dX6_lineBy_27 [] [(h0, .inr (5, [.ref h1, .ref h2, .int x0, .int x1, .long z1, .long z2, .int 1])), (h1, .inl (gB g, 400, .inl fn0)), (h2, .inl (gJ g, 2400, .inr (.inl fm0)))] [] (fun sz => c245_X6_add l g h0 h1 h2 1 x0 x1 z1 z2 1 fn0 fm0 i_x0 i_x1 (by decide) sz) gX6_lineBy_X6_add rfl ⟨rfl, rfl⟩ 1 (by decide) ⟨Nat.le_of_ble_eq_true rfl, Nat.le_of_ble_eq_true rfl⟩ 0 rfl rfl [0, 1, 2] [] rfl rfl (by decide) (by decide) (by decide) rfl rfl (Nat.le_of_ble_eq_true rfl) ⟨Nat.le_of_ble_eq_true rfl, Nat.le_of_ble_eq_true rfl⟩ (fun r6 u8 w7 => ?_)
  obtain ⟨z3, f4, f5⟩ := u8
  refine r_ws [(h0, .inr (5, [.ref h1, .ref h2, .int z3, .int x1, .long z1, .long z2, .int 1])), (h1, .inl (gB g, 400, .inl f4)), (h2, .inl (gJ g, 2400, .inr (.inl f5)))] rfl ?_
  have p9 : 0 ≤ (Int32.toInt z3) := w7.2.1
  have p10 : (Int32.toInt z3) ≤ 400 := w7.2.2
  have w11 : (((Int32.toInt x0) < (Int32.toInt x1) ∧ (Int32.toInt z3) = (Int32.toInt x0) + 1 ∧ r6 = 0) ∨ (¬ ((Int32.toInt x0) < (Int32.toInt x1)) ∧ (Int32.toInt z3) = (Int32.toInt x0) ∧ r6 = 6)) := w7.1
  rcases w11 with ⟨k12, k13, k14⟩ | w11
  · skip
    have k14 := k14.symm
    subst k14
    exact r_iret 30 Rt dX6_lineBy_30 (z3, z1, z2, f4, f5) (show 0 ≤ (Int32.toInt 0) ∧ (Int32.toInt 0) ≤ 6 ∧ 0 ≤ (Int32.toInt z3) ∧ (Int32.toInt z3) ≤ 400 from ⟨(by ((repeat' apply And.intro) <;> first | trivial | rfl | assumption | omega | decide | exact Or.inl rfl | exact Or.inr (Or.inl rfl) | exact Or.inr (Or.inr rfl))), (by ((repeat' apply And.intro) <;> first | trivial | rfl | assumption | omega | decide | exact Or.inl rfl | exact Or.inr (Or.inl rfl) | exact Or.inr (Or.inr rfl))), (show _ ∧ _ from ⟨p9, p10⟩).1, (show _ ∧ _ from ⟨p9, p10⟩).2⟩) [0, 1, 2] (by decide) rfl (Nat.le_of_ble_eq_true rfl) (Nat.le_of_ble_eq_true rfl)
  obtain ⟨k15, k16, k17⟩ := w11
  have k17 := k17.symm
  subst k17
  exact r_iret 30 Rt dX6_lineBy_30 (z3, z1, z2, f4, f5) (show 0 ≤ (Int32.toInt 6) ∧ (Int32.toInt 6) ≤ 6 ∧ 0 ≤ (Int32.toInt z3) ∧ (Int32.toInt z3) ≤ 400 from ⟨(by ((repeat' apply And.intro) <;> first | trivial | rfl | assumption | omega | decide | exact Or.inl rfl | exact Or.inr (Or.inl rfl) | exact Or.inr (Or.inr rfl))), (by ((repeat' apply And.intro) <;> first | trivial | rfl | assumption | omega | decide | exact Or.inl rfl | exact Or.inr (Or.inl rfl) | exact Or.inr (Or.inr rfl))), (show _ ∧ _ from ⟨p9, p10⟩).1, (show _ ∧ _ from ⟨p9, p10⟩).2⟩) [0, 1, 2] (by decide) rfl (Nat.le_of_ble_eq_true rfl) (Nat.le_of_ble_eq_true rfl)
set_option maxHeartbeats 4000000 in
set_option maxRecDepth 100000 in
theorem c255_X4_curves (l : Launch) (g : GD) (h0 : Nat) (h1 : Nat) (h2 : Nat) (h3 : Nat) (h4 : Nat) (h5 : Nat) (x0 : Int32) (x1 : Int32) (h6 : Nat) (x2 : Int32) (x3 : Int32) (y0 : Int64) (x4 : Int32) (x5 : Int32) (x6 : Int32) (x7 : Int32) (h7 : Nat) (h8 : Nat) (h9 : Nat) (x8 : Int32) (x9 : Int32) (h10 : Nat) (h11 : Nat) (x10 : Int32) (h12 : Nat) (x11 : Int32) (h13 : Nat) (x12 : Int32) (x13 : Int32) (x14 : Int32) (x15 : Int32) (y1 : Int64) (y2 : Int64) (x16 : Int32) (fm0 : Nat → Int64) (fn0 : Nat → Int32) (fm1 : Nat → Int64) (i_x0 : (0 ≤ (Int32.toInt x0) ∧ (Int32.toInt x0) ≤ 48)) (i_x1 : (0 ≤ (Int32.toInt x1) ∧ (Int32.toInt x1) ≤ 48)) (i_x7 : (0 ≤ (Int32.toInt x7) ∧ (Int32.toInt x7) ≤ 1)) (i_x8 : (0 ≤ (Int32.toInt x8) ∧ (Int32.toInt x8) ≤ 10)) (i_x9 : (0 ≤ (Int32.toInt x9) ∧ (Int32.toInt x9) ≤ 1)) (i_x10 : (0 ≤ (Int32.toInt x10) ∧ (Int32.toInt x10) ≤ 7)) (i_x11 : (0 ≤ (Int32.toInt x11) ∧ (Int32.toInt x11) ≤ 24)) (i_x12 : (0 ≤ (Int32.toInt x12) ∧ (Int32.toInt x12) ≤ 48)) (i_x13 : (0 ≤ (Int32.toInt x13) ∧ (Int32.toInt x13) ≤ 48)) (i_x14 : (0 ≤ (Int32.toInt x14) ∧ (Int32.toInt x14) ≤ 400)) (i_x15 : (0 ≤ (Int32.toInt x15) ∧ (Int32.toInt x15) ≤ 400)) (i_x16 : (0 ≤ (Int32.toInt x16) ∧ (Int32.toInt x16) ≤ 1)) (sz : Nat) : Met l yX4_curves wsX4_curves ({ frames := 2, cells := 0, slots := 0, locals := 55 }) (va_Pc [.ref h0, .int x0, .int x1] (PW g [(h0, .inr (8, [.ref h1, .ref h2, .ref h6, .int x2, .int x3, .long y0, .int x4, .int x5, .int x6, .int x7, .ref h7, .ref h8, .ref h9, .int x8, .int x9, .ref h10, .ref h11, .int x10, .ref h12, .int x11])), (h1, .inr (6, [.ref h3, .ref h13, .int x12, .int x13])), (h2, .inr (5, [.ref h4, .ref h5, .int x14, .int x15, .long y1, .long y2, .int x16])), (h3, .inl (gJ g, 48, .inr (.inl fm0))), (h4, .inl (gB g, 400, .inl fn0)), (h5, .inl (gJ g, 2400, .inr (.inl fm1)))] sz)) (va_Qi (fun (r : Int32) (u : (Int32) × (Int64) × (Int64) × (Int32) × (Nat → Int32) × (Nat → Int64)) => 0 ≤ (Int32.toInt r) ∧ (Int32.toInt r) ≤ 6 ∧ 0 ≤ (Int32.toInt (u.1)) ∧ (Int32.toInt (u.1)) ≤ 400 ∧ 0 ≤ (Int32.toInt (u.2.2.2.1)) ∧ (Int32.toInt (u.2.2.2.1)) ≤ 1) (BW g (va_A [(h0, .inr (8, [.ref h1, .ref h2, .ref h6, .int x2, .int x3, .long y0, .int x4, .int x5, .int x6, .int x7, .ref h7, .ref h8, .ref h9, .int x8, .int x9, .ref h10, .ref h11, .int x10, .ref h12, .int x11])), (h1, .inr (6, [.ref h3, .ref h13, .int x12, .int x13])), (h2, .inr (5, [.ref h4, .ref h5, .int x14, .int x15, .long y1, .long y2, .int x16])), (h3, .inl (gJ g, 48, .inr (.inl fm0))), (h4, .inl (gB g, 400, .inl fn0)), (h5, .inl (gJ g, 2400, .inr (.inl fm1)))] sz) (fun u : (Int32) × (Int64) × (Int64) × (Int32) × (Nat → Int32) × (Nat → Int64) => [(h0, .inr (8, [.ref h1, .ref h2, .ref h6, .int x2, .int x3, .long y0, .int x4, .int x5, .int x6, .int x7, .ref h7, .ref h8, .ref h9, .int x8, .int x9, .ref h10, .ref h11, .int x10, .ref h12, .int x11])), (h1, .inr (6, [.ref h3, .ref h13, .int x12, .int x13])), (h2, .inr (5, [.ref h4, .ref h5, .int u.1, .int x15, .long u.2.1, .long u.2.2.1, .int u.2.2.2.1])), (h3, .inl (gJ g, 48, .inr (.inl fm0))), (h4, .inl (gB g, 400, .inl u.2.2.2.2.1)), (h5, .inl (gJ g, 2400, .inr (.inl u.2.2.2.2.2)))])) (va_A [(h0, .inr (8, [.ref h1, .ref h2, .ref h6, .int x2, .int x3, .long y0, .int x4, .int x5, .int x6, .int x7, .ref h7, .ref h8, .ref h9, .int x8, .int x9, .ref h10, .ref h11, .int x10, .ref h12, .int x11])), (h1, .inr (6, [.ref h3, .ref h13, .int x12, .int x13])), (h2, .inr (5, [.ref h4, .ref h5, .int x14, .int x15, .long y1, .long y2, .int x16])), (h3, .inl (gJ g, 48, .inr (.inl fm0))), (h4, .inl (gB g, 400, .inl fn0)), (h5, .inl (gJ g, 2400, .inr (.inl fm1)))] sz)) 0 0 (va_A [(h0, .inr (8, [.ref h1, .ref h2, .ref h6, .int x2, .int x3, .long y0, .int x4, .int x5, .int x6, .int x7, .ref h7, .ref h8, .ref h9, .int x8, .int x9, .ref h10, .ref h11, .int x10, .ref h12, .int x11])), (h1, .inr (6, [.ref h3, .ref h13, .int x12, .int x13])), (h2, .inr (5, [.ref h4, .ref h5, .int x14, .int x15, .long y1, .long y2, .int x16])), (h3, .inl (gJ g, 48, .inr (.inl fm0))), (h4, .inl (gB g, 400, .inl fn0)), (h5, .inl (gJ g, 2400, .inr (.inl fm1)))] sz) := by
  refine met_i RX4 (by decide) rfl rfl (Nat.le_of_ble_eq_true rfl) [(0, .ref h0), (1, .int x0), (2, .int x1)] rfl ?_
  intro p e s m args below meth c A Q C hnm Rt
  have hiX9 : ∀ w ∈ wsX90, w ∈ wsX4_curves := fun w h => List.mem_cons_of_mem _ (List.mem_append_left _ (List.mem_append_left _ (List.mem_append_right _ (h))))
  refine r_iconst 0 0 C dX4_curves_0 (by decide) ?_
  refine r_istore_n 1 C dX4_curves_1 [(3, .int 0), (0, .ref h0), (1, .int x0), (2, .int x1)] (by decide) rfl ?_
  refine r_iload_n 2 2 C dX4_curves_2 rfl ?_
  refine r_istore 3 C dX4_curves_3 [(4, .int x0), (3, .int 0), (0, .ref h0), (1, .int x0), (2, .int x1)] (by decide) rfl ?_
  have lp10 : ∀ (n9 : Nat) (z1 : Int32) (z2 : Int32) (z3 : Int32) (z4 : Int64) (z5 : Int64) (z6 : Int32) (f7 : Nat → Int32) (f8 : Nat → Int64), (0 ≤ (Int32.toInt z1) ∧ (Int32.toInt z1) ≤ 48) → (0 ≤ (Int32.toInt z2) ∧ (Int32.toInt z2) ≤ 6) → (0 ≤ (Int32.toInt z3) ∧ (Int32.toInt z3) ≤ 400) → (0 ≤ (Int32.toInt z6) ∧ (Int32.toInt z6) ≤ 1) → Int.toNat (48 - (Int32.toInt z1)) < n9 → WW p l e ({ frames := 2, cells := 0, slots := 0, locals := 55 } : Room) s m args below meth c A Q g 5 0 0 [(h0, .inr (8, [.ref h1, .ref h2, .ref h6, .int x2, .int x3, .long y0, .int x4, .int x5, .int x6, .int x7, .ref h7, .ref h8, .ref h9, .int x8, .int x9, .ref h10, .ref h11, .int x10, .ref h12, .int x11])), (h1, .inr (6, [.ref h3, .ref h13, .int x12, .int x13])), (h2, .inr (5, [.ref h4, .ref h5, .int z3, .int x15, .long z4, .long z5, .int z6])), (h3, .inl (gJ g, 48, .inr (.inl fm0))), (h4, .inl (gB g, 400, .inl f7)), (h5, .inl (gJ g, 2400, .inr (.inl f8)))] 5 [(4, .int z1), (3, .int z2), (0, .ref h0), (1, .int x0), (2, .int x1)] [] := by
    intro n9
    induction n9 with
    | zero => intro z1 z2 z3 z4 z5 z6 f7 f8 i13 i14 i15 i16 hm12; exact absurd hm12 (Nat.not_lt_zero _)
    | succ n9 ih11 =>
      intro z1 z2 z3 z4 z5 z6 f7 f8 i13 i14 i15 i16 hm12
      obtain ⟨i13a, i13b⟩ := i13
      obtain ⟨i14a, i14b⟩ := i14
      obtain ⟨i15a, i15b⟩ := i15
      obtain ⟨i16a, i16b⟩ := i16
      have gz4 := fb_rngL z4
      have gz5 := fb_rngL z5
      refine r_iload 5 0 C dX4_curves_5 rfl ?_
      refine r_bipush 7 6 C dX4_curves_7 (by decide) ?_
      obtain ⟨z17, ez17⟩ : ∃ z_9, z1 + 6 = z_9 := ⟨_, rfl⟩
      have tz17 : (Int32.toInt z17) = (Int32.toInt z1) + 6 := by rw [← ez17]; exact fb_addIv (a := 0) (b := 48) (c := 6) (d := 6) ⟨i13a, i13b⟩ ⟨by decide, by decide⟩ (by decide) (by decide)
      refine r_iadd 9 z17 C dX4_curves_9 ez17 ?_
      refine r_iload_n 10 4 C dX4_curves_10 rfl ?_
      refine r_icmp_gt 11 96 C dX4_curves_11 (by decide) (fun c18 => ?_) (fun c18 => ?_)
      · skip
        have k19 : (Int32.toInt x1) < (Int32.toInt z17) := (fa_lt x1 z17).mp c18
        refine r_iload_n 96 1 C dX4_curves_96 rfl ?_
        exact r_iret 97 Rt dX4_curves_97 (z3, z4, z5, z6, f7, f8) (show 0 ≤ (Int32.toInt z2) ∧ (Int32.toInt z2) ≤ 6 ∧ 0 ≤ (Int32.toInt z3) ∧ (Int32.toInt z3) ≤ 400 ∧ 0 ≤ (Int32.toInt z6) ∧ (Int32.toInt z6) ≤ 1 from ⟨(show _ ∧ _ from ⟨i14a, i14b⟩).1, (show _ ∧ _ from ⟨i14a, i14b⟩).2, (show _ ∧ _ from ⟨i15a, i15b⟩).1, (show _ ∧ _ from ⟨i15a, i15b⟩).2, (show _ ∧ _ from ⟨i16a, i16b⟩).1, (show _ ∧ _ from ⟨i16a, i16b⟩).2⟩) [0, 1, 2, 3, 4, 5] (by decide) rfl (Nat.le_of_ble_eq_true rfl) (Nat.le_of_ble_eq_true rfl)
      · skip
        have k20 : ¬ ((Int32.toInt x1) < (Int32.toInt z17)) := fun h_9 => c18 ((fa_lt x1 z17).mpr h_9)
        refine r_iload_n 14 1 C dX4_curves_14 rfl ?_
        refine r_if_ne 15 96 C dX4_curves_15 (by decide) (fun c21 => ?_) (fun c21 => ?_)
        · skip
          have k22 : ¬ ((Int32.toInt z2) = 0) := fun h_9 => c21 ((fa_eq z2 0).mpr h_9)
          refine r_iload_n 96 1 C dX4_curves_96 rfl ?_
          exact r_iret 97 Rt dX4_curves_97 (z3, z4, z5, z6, f7, f8) (show 0 ≤ (Int32.toInt z2) ∧ (Int32.toInt z2) ≤ 6 ∧ 0 ≤ (Int32.toInt z3) ∧ (Int32.toInt z3) ≤ 400 ∧ 0 ≤ (Int32.toInt z6) ∧ (Int32.toInt z6) ≤ 1 from ⟨(show _ ∧ _ from ⟨i14a, i14b⟩).1, (show _ ∧ _ from ⟨i14a, i14b⟩).2, (show _ ∧ _ from ⟨i15a, i15b⟩).1, (show _ ∧ _ from ⟨i15a, i15b⟩).2, (show _ ∧ _ from ⟨i16a, i16b⟩).1, (show _ ∧ _ from ⟨i16a, i16b⟩).2⟩) [0, 1, 2, 3, 4, 5] (by decide) rfl (Nat.le_of_ble_eq_true rfl) (Nat.le_of_ble_eq_true rfl)
        · skip
          have k23 : (Int32.toInt z2) = 0 := (fa_eq z2 0).mp c21
          refine r_aload_n 18 2 C dX4_curves_18 rfl ?_
          refine r_get 19 C dX4_curves_19 (k := 1) 0 rfl rfl hiX9 (by decide) rfl (mg 1 rfl) (Or.inl rfl) rfl ?_
          refine r_aload_n 22 2 C dX4_curves_22 rfl ?_
          refine r_get 23 C dX4_curves_23 (k := 0) 0 rfl rfl hiX9 (by decide) rfl (mg 2 rfl) (Or.inl rfl) rfl ?_
          refine r_iload 26 0 C dX4_curves_26 rfl ?_
          refine r_callVl 28 C dX4_curves_28 [.ref h2] [(h1, .inr (6, [.ref h3, .ref h13, .int x12, .int x13])), (h3, .inl (gJ g, 48, .inr (.inl fm0)))] [(h0, .inr (8, [.ref h1, .ref h2, .ref h6, .int x2, .int x3, .long y0, .int x4, .int x5, .int x6, .int x7, .ref h7, .ref h8, .ref h9, .int x8, .int x9, .ref h10, .ref h11, .int x10, .ref h12, .int x11])), (h2, .inr (5, [.ref h4, .ref h5, .int z3, .int x15, .long z4, .long z5, .int z6])), (h4, .inl (gB g, 400, .inl f7)), (h5, .inl (gJ g, 2400, .inr (.inl f8)))] (fun sz => c232_X7_get l g h1 h3 z1 h13 x12 x13 fm0 i_x12 i_x13 sz) gX4_curves_X7_get rfl ⟨rfl, rfl⟩ 1 (by decide) ⟨Nat.le_of_ble_eq_true rfl, Nat.le_of_ble_eq_true rfl⟩ 1 rfl rfl [1, 3] [0, 2, 4, 5] rfl rfl (by decide) (by decide) (by decide) rfl rfl (Nat.le_of_ble_eq_true rfl) ⟨Nat.le_of_ble_eq_true rfl, Nat.le_of_ble_eq_true rfl⟩ (fun r24 _ w25 => ?_)
          refine r_ws [(h0, .inr (8, [.ref h1, .ref h2, .ref h6, .int x2, .int x3, .long y0, .int x4, .int x5, .int x6, .int x7, .ref h7, .ref h8, .ref h9, .int x8, .int x9, .ref h10, .ref h11, .int x10, .ref h12, .int x11])), (h2, .inr (5, [.ref h4, .ref h5, .int z3, .int x15, .long z4, .long z5, .int z6])), (h4, .inl (gB g, 400, .inl f7)), (h5, .inl (gJ g, 2400, .inr (.inl f8))), (h1, .inr (6, [.ref h3, .ref h13, .int x12, .int x13])), (h3, .inl (gJ g, 48, .inr (.inl fm0)))] rfl ?_
          have gr24 := fb_rngL r24
          refine r_aload_n 31 2 C dX4_curves_31 rfl ?_
          refine r_get 32 C dX4_curves_32 (k := 0) 0 rfl rfl hiX9 (by decide) rfl (mg 2 rfl) (Or.inl rfl) rfl ?_
          refine r_iload 35 0 C dX4_curves_35 rfl ?_
          refine r_iconst 37 1 C dX4_curves_37 (by decide) ?_
          obtain ⟨z26, ez26⟩ : ∃ z_9, z1 + 1 = z_9 := ⟨_, rfl⟩
          have tz26 : (Int32.toInt z26) = (Int32.toInt z1) + 1 := by rw [← ez26]; exact fb_addIv (a := 0) (b := 48) (c := 1) (d := 1) ⟨i13a, i13b⟩ ⟨by decide, by decide⟩ (by decide) (by decide)
          refine r_iadd 38 z26 C dX4_curves_38 ez26 ?_
          refine r_callVl 39 C dX4_curves_39 [.long r24, .ref h2] [(h1, .inr (6, [.ref h3, .ref h13, .int x12, .int x13])), (h3, .inl (gJ g, 48, .inr (.inl fm0)))] [(h0, .inr (8, [.ref h1, .ref h2, .ref h6, .int x2, .int x3, .long y0, .int x4, .int x5, .int x6, .int x7, .ref h7, .ref h8, .ref h9, .int x8, .int x9, .ref h10, .ref h11, .int x10, .ref h12, .int x11])), (h2, .inr (5, [.ref h4, .ref h5, .int z3, .int x15, .long z4, .long z5, .int z6])), (h4, .inl (gB g, 400, .inl f7)), (h5, .inl (gJ g, 2400, .inr (.inl f8)))] (fun sz => c232_X7_get l g h1 h3 z26 h13 x12 x13 fm0 i_x12 i_x13 sz) gX4_curves_X7_get rfl ⟨rfl, rfl⟩ 1 (by decide) ⟨Nat.le_of_ble_eq_true rfl, Nat.le_of_ble_eq_true rfl⟩ 4 rfl rfl [4, 5] [0, 1, 2, 3] rfl rfl (by decide) (by decide) (by decide) rfl rfl (Nat.le_of_ble_eq_true rfl) ⟨Nat.le_of_ble_eq_true rfl, Nat.le_of_ble_eq_true rfl⟩ (fun r27 _ w28 => ?_)
          refine r_ws [(h0, .inr (8, [.ref h1, .ref h2, .ref h6, .int x2, .int x3, .long y0, .int x4, .int x5, .int x6, .int x7, .ref h7, .ref h8, .ref h9, .int x8, .int x9, .ref h10, .ref h11, .int x10, .ref h12, .int x11])), (h2, .inr (5, [.ref h4, .ref h5, .int z3, .int x15, .long z4, .long z5, .int z6])), (h4, .inl (gB g, 400, .inl f7)), (h5, .inl (gJ g, 2400, .inr (.inl f8))), (h1, .inr (6, [.ref h3, .ref h13, .int x12, .int x13])), (h3, .inl (gJ g, 48, .inr (.inl fm0)))] rfl ?_
          have gr27 := fb_rngL r27
          refine r_aload_n 42 2 C dX4_curves_42 rfl ?_
          refine r_get 43 C dX4_curves_43 (k := 0) 0 rfl rfl hiX9 (by decide) rfl (mg 2 rfl) (Or.inl rfl) rfl ?_
          refine r_iload 46 0 C dX4_curves_46 rfl ?_
          refine r_iconst 48 2 C dX4_curves_48 (by decide) ?_
          obtain ⟨z29, ez29⟩ : ∃ z_9, z1 + 2 = z_9 := ⟨_, rfl⟩
          have tz29 : (Int32.toInt z29) = (Int32.toInt z1) + 2 := by rw [← ez29]; exact fb_addIv (a := 0) (b := 48) (c := 2) (d := 2) ⟨i13a, i13b⟩ ⟨by decide, by decide⟩ (by decide) (by decide)
          refine r_iadd 49 z29 C dX4_curves_49 ez29 ?_
          refine r_callVl 50 C dX4_curves_50 [.long r27, .long r24, .ref h2] [(h1, .inr (6, [.ref h3, .ref h13, .int x12, .int x13])), (h3, .inl (gJ g, 48, .inr (.inl fm0)))] [(h0, .inr (8, [.ref h1, .ref h2, .ref h6, .int x2, .int x3, .long y0, .int x4, .int x5, .int x6, .int x7, .ref h7, .ref h8, .ref h9, .int x8, .int x9, .ref h10, .ref h11, .int x10, .ref h12, .int x11])), (h2, .inr (5, [.ref h4, .ref h5, .int z3, .int x15, .long z4, .long z5, .int z6])), (h4, .inl (gB g, 400, .inl f7)), (h5, .inl (gJ g, 2400, .inr (.inl f8)))] (fun sz => c232_X7_get l g h1 h3 z29 h13 x12 x13 fm0 i_x12 i_x13 sz) gX4_curves_X7_get rfl ⟨rfl, rfl⟩ 1 (by decide) ⟨Nat.le_of_ble_eq_true rfl, Nat.le_of_ble_eq_true rfl⟩ 4 rfl rfl [4, 5] [0, 1, 2, 3] rfl rfl (by decide) (by decide) (by decide) rfl rfl (Nat.le_of_ble_eq_true rfl) ⟨Nat.le_of_ble_eq_true rfl, Nat.le_of_ble_eq_true rfl⟩ (fun r30 _ w31 => ?_)
          refine r_ws [(h0, .inr (8, [.ref h1, .ref h2, .ref h6, .int x2, .int x3, .long y0, .int x4, .int x5, .int x6, .int x7, .ref h7, .ref h8, .ref h9, .int x8, .int x9, .ref h10, .ref h11, .int x10, .ref h12, .int x11])), (h2, .inr (5, [.ref h4, .ref h5, .int z3, .int x15, .long z4, .long z5, .int z6])), (h4, .inl (gB g, 400, .inl f7)), (h5, .inl (gJ g, 2400, .inr (.inl f8))), (h1, .inr (6, [.ref h3, .ref h13, .int x12, .int x13])), (h3, .inl (gJ g, 48, .inr (.inl fm0)))] rfl ?_
          have gr30 := fb_rngL r30
          refine r_aload_n 53 2 C dX4_curves_53 rfl ?_
          refine r_get 54 C dX4_curves_54 (k := 0) 0 rfl rfl hiX9 (by decide) rfl (mg 2 rfl) (Or.inl rfl) rfl ?_
          refine r_iload 57 0 C dX4_curves_57 rfl ?_
          refine r_iconst 59 3 C dX4_curves_59 (by decide) ?_
          obtain ⟨z32, ez32⟩ : ∃ z_9, z1 + 3 = z_9 := ⟨_, rfl⟩
          have tz32 : (Int32.toInt z32) = (Int32.toInt z1) + 3 := by rw [← ez32]; exact fb_addIv (a := 0) (b := 48) (c := 3) (d := 3) ⟨i13a, i13b⟩ ⟨by decide, by decide⟩ (by decide) (by decide)
          refine r_iadd 60 z32 C dX4_curves_60 ez32 ?_
          refine r_callVl 61 C dX4_curves_61 [.long r30, .long r27, .long r24, .ref h2] [(h1, .inr (6, [.ref h3, .ref h13, .int x12, .int x13])), (h3, .inl (gJ g, 48, .inr (.inl fm0)))] [(h0, .inr (8, [.ref h1, .ref h2, .ref h6, .int x2, .int x3, .long y0, .int x4, .int x5, .int x6, .int x7, .ref h7, .ref h8, .ref h9, .int x8, .int x9, .ref h10, .ref h11, .int x10, .ref h12, .int x11])), (h2, .inr (5, [.ref h4, .ref h5, .int z3, .int x15, .long z4, .long z5, .int z6])), (h4, .inl (gB g, 400, .inl f7)), (h5, .inl (gJ g, 2400, .inr (.inl f8)))] (fun sz => c232_X7_get l g h1 h3 z32 h13 x12 x13 fm0 i_x12 i_x13 sz) gX4_curves_X7_get rfl ⟨rfl, rfl⟩ 1 (by decide) ⟨Nat.le_of_ble_eq_true rfl, Nat.le_of_ble_eq_true rfl⟩ 4 rfl rfl [4, 5] [0, 1, 2, 3] rfl rfl (by decide) (by decide) (by decide) rfl rfl (Nat.le_of_ble_eq_true rfl) ⟨Nat.le_of_ble_eq_true rfl, Nat.le_of_ble_eq_true rfl⟩ (fun r33 _ w34 => ?_)
          refine r_ws [(h0, .inr (8, [.ref h1, .ref h2, .ref h6, .int x2, .int x3, .long y0, .int x4, .int x5, .int x6, .int x7, .ref h7, .ref h8, .ref h9, .int x8, .int x9, .ref h10, .ref h11, .int x10, .ref h12, .int x11])), (h2, .inr (5, [.ref h4, .ref h5, .int z3, .int x15, .long z4, .long z5, .int z6])), (h4, .inl (gB g, 400, .inl f7)), (h5, .inl (gJ g, 2400, .inr (.inl f8))), (h1, .inr (6, [.ref h3, .ref h13, .int x12, .int x13])), (h3, .inl (gJ g, 48, .inr (.inl fm0)))] rfl ?_
          have gr33 := fb_rngL r33
          refine r_aload_n 64 2 C dX4_curves_64 rfl ?_
          refine r_get 65 C dX4_curves_65 (k := 0) 0 rfl rfl hiX9 (by decide) rfl (mg 2 rfl) (Or.inl rfl) rfl ?_
          refine r_iload 68 0 C dX4_curves_68 rfl ?_
          refine r_iconst 70 4 C dX4_curves_70 (by decide) ?_
          obtain ⟨z35, ez35⟩ : ∃ z_9, z1 + 4 = z_9 := ⟨_, rfl⟩
          have tz35 : (Int32.toInt z35) = (Int32.toInt z1) + 4 := by rw [← ez35]; exact fb_addIv (a := 0) (b := 48) (c := 4) (d := 4) ⟨i13a, i13b⟩ ⟨by decide, by decide⟩ (by decide) (by decide)
          refine r_iadd 71 z35 C dX4_curves_71 ez35 ?_
          refine r_callVlX 72 C dX4_curves_72 [.long r33, .long r30, .long r27, .long r24, .ref h2] [(h1, .inr (6, [.ref h3, .ref h13, .int x12, .int x13])), (h3, .inl (gJ g, 48, .inr (.inl fm0)))] [(h0, .inr (8, [.ref h1, .ref h2, .ref h6, .int x2, .int x3, .long y0, .int x4, .int x5, .int x6, .int x7, .ref h7, .ref h8, .ref h9, .int x8, .int x9, .ref h10, .ref h11, .int x10, .ref h12, .int x11])), (h2, .inr (5, [.ref h4, .ref h5, .int z3, .int x15, .long z4, .long z5, .int z6])), (h4, .inl (gB g, 400, .inl f7)), (h5, .inl (gJ g, 2400, .inr (.inl f8)))] (fun sz => c232_X7_get l g h1 h3 z35 h13 x12 x13 fm0 i_x12 i_x13 sz) gX4_curves_X7_get rfl ⟨rfl, rfl⟩ 1 (by decide) ⟨Nat.le_of_ble_eq_true rfl, Nat.le_of_ble_eq_true rfl⟩ 4 rfl rfl [4, 5] [0, 1, 2, 3] rfl rfl (by decide) (by decide) (by decide) rfl rfl (Nat.le_of_ble_eq_true rfl) ⟨Nat.le_of_ble_eq_true rfl, Nat.le_of_ble_eq_true rfl⟩ (fun r36 _ w37 => ?_)
          refine r_ws [(h0, .inr (8, [.ref h1, .ref h2, .ref h6, .int x2, .int x3, .long y0, .int x4, .int x5, .int x6, .int x7, .ref h7, .ref h8, .ref h9, .int x8, .int x9, .ref h10, .ref h11, .int x10, .ref h12, .int x11])), (h2, .inr (5, [.ref h4, .ref h5, .int z3, .int x15, .long z4, .long z5, .int z6])), (h4, .inl (gB g, 400, .inl f7)), (h5, .inl (gJ g, 2400, .inr (.inl f8))), (h1, .inr (6, [.ref h3, .ref h13, .int x12, .int x13])), (h3, .inl (gJ g, 48, .inr (.inl fm0)))] rfl ?_
          have gr36 := fb_rngL r36
          refine r_aload_n 75 2 C dX4_curves_75 rfl ?_
          refine r_get 76 C dX4_curves_76 (k := 0) 0 rfl rfl hiX9 (by decide) rfl (mg 2 rfl) (Or.inl rfl) rfl ?_
          refine r_iload 79 0 C dX4_curves_79 rfl ?_
          refine r_iconst 81 5 C dX4_curves_81 (by decide) ?_
          obtain ⟨z38, ez38⟩ : ∃ z_9, z1 + 5 = z_9 := ⟨_, rfl⟩
          have tz38 : (Int32.toInt z38) = (Int32.toInt z1) + 5 := by rw [← ez38]; exact fb_addIv (a := 0) (b := 48) (c := 5) (d := 5) ⟨i13a, i13b⟩ ⟨by decide, by decide⟩ (by decide) (by decide)
          refine r_iadd 82 z38 C dX4_curves_82 ez38 ?_
          refine r_callVlX 83 C dX4_curves_83 [.long r36, .long r33, .long r30, .long r27, .long r24, .ref h2] [(h1, .inr (6, [.ref h3, .ref h13, .int x12, .int x13])), (h3, .inl (gJ g, 48, .inr (.inl fm0)))] [(h0, .inr (8, [.ref h1, .ref h2, .ref h6, .int x2, .int x3, .long y0, .int x4, .int x5, .int x6, .int x7, .ref h7, .ref h8, .ref h9, .int x8, .int x9, .ref h10, .ref h11, .int x10, .ref h12, .int x11])), (h2, .inr (5, [.ref h4, .ref h5, .int z3, .int x15, .long z4, .long z5, .int z6])), (h4, .inl (gB g, 400, .inl f7)), (h5, .inl (gJ g, 2400, .inr (.inl f8)))] (fun sz => c232_X7_get l g h1 h3 z38 h13 x12 x13 fm0 i_x12 i_x13 sz) gX4_curves_X7_get rfl ⟨rfl, rfl⟩ 1 (by decide) ⟨Nat.le_of_ble_eq_true rfl, Nat.le_of_ble_eq_true rfl⟩ 4 rfl rfl [4, 5] [0, 1, 2, 3] rfl rfl (by decide) (by decide) (by decide) rfl rfl (Nat.le_of_ble_eq_true rfl) ⟨Nat.le_of_ble_eq_true rfl, Nat.le_of_ble_eq_true rfl⟩ (fun r39 _ w40 => ?_)
          refine r_ws [(h0, .inr (8, [.ref h1, .ref h2, .ref h6, .int x2, .int x3, .long y0, .int x4, .int x5, .int x6, .int x7, .ref h7, .ref h8, .ref h9, .int x8, .int x9, .ref h10, .ref h11, .int x10, .ref h12, .int x11])), (h2, .inr (5, [.ref h4, .ref h5, .int z3, .int x15, .long z4, .long z5, .int z6])), (h4, .inl (gB g, 400, .inl f7)), (h5, .inl (gJ g, 2400, .inr (.inl f8))), (h1, .inr (6, [.ref h3, .ref h13, .int x12, .int x13])), (h3, .inl (gJ g, 48, .inr (.inl fm0)))] rfl ?_
          have gr39 := fb_rngL r39
          refine r_callVi 86 C dX4_curves_86 [] [(h2, .inr (5, [.ref h4, .ref h5, .int z3, .int x15, .long z4, .long z5, .int z6])), (h4, .inl (gB g, 400, .inl f7)), (h5, .inl (gJ g, 2400, .inr (.inl f8)))] [(h0, .inr (8, [.ref h1, .ref h2, .ref h6, .int x2, .int x3, .long y0, .int x4, .int x5, .int x6, .int x7, .ref h7, .ref h8, .ref h9, .int x8, .int x9, .ref h10, .ref h11, .int x10, .ref h12, .int x11])), (h1, .inr (6, [.ref h3, .ref h13, .int x12, .int x13])), (h3, .inl (gJ g, 48, .inr (.inl fm0)))] (fun sz => c246_X6_curveBy l g h2 h4 h5 r24 r27 r30 r33 r36 r39 z3 x15 z4 z5 z6 f7 f8 ⟨i15a, i15b⟩ i_x15 ⟨i16a, i16b⟩ sz) gX4_curves_X6_curveBy rfl ⟨rfl, rfl⟩ 6 (by decide) ⟨Nat.le_of_ble_eq_true rfl, Nat.le_of_ble_eq_true rfl⟩ 1 rfl rfl [1, 2, 3] [0, 4, 5] rfl rfl (by decide) (by decide) (by decide) rfl rfl (Nat.le_of_ble_eq_true rfl) ⟨Nat.le_of_ble_eq_true rfl, Nat.le_of_ble_eq_true rfl⟩ (fun r46 u48 w47 => ?_)
          obtain ⟨z41, z42, z43, f44, f45⟩ := u48
          refine r_ws [(h0, .inr (8, [.ref h1, .ref h2, .ref h6, .int x2, .int x3, .long y0, .int x4, .int x5, .int x6, .int x7, .ref h7, .ref h8, .ref h9, .int x8, .int x9, .ref h10, .ref h11, .int x10, .ref h12, .int x11])), (h1, .inr (6, [.ref h3, .ref h13, .int x12, .int x13])), (h3, .inl (gJ g, 48, .inr (.inl fm0))), (h2, .inr (5, [.ref h4, .ref h5, .int z41, .int x15, .long z42, .long z43, .int 1])), (h4, .inl (gB g, 400, .inl f44)), (h5, .inl (gJ g, 2400, .inr (.inl f45)))] rfl ?_
          have gz42 := fb_rngL z42
          have gz43 := fb_rngL z43
          have p49 : 0 ≤ (Int32.toInt r46) := w47.1
          have p50 : (Int32.toInt r46) ≤ 6 := w47.2.1
          have p51 : 0 ≤ (Int32.toInt z41) := w47.2.2.1
          have p52 : (Int32.toInt z41) ≤ 400 := w47.2.2.2
          refine r_istore_n 89 C dX4_curves_89 [(3, .int r46), (4, .int z1), (0, .ref h0), (1, .int x0), (2, .int x1)] (by decide) rfl ?_
          obtain ⟨z53, ez53⟩ : ∃ z_9, z1 + Int32.ofInt 6 = z_9 := ⟨_, rfl⟩
          have tz53 : (Int32.toInt z53) = (Int32.toInt z1) + 6 := by rw [← ez53]; exact fb_addIv (a := 0) (b := 48) (c := 6) (d := 6) ⟨i13a, i13b⟩ ⟨by decide, by decide⟩ (by decide) (by decide)
          refine r_iinc 90 1 z53 C dX4_curves_90 rfl ez53 [(4, .int z53), (3, .int r46), (0, .ref h0), (1, .int x0), (2, .int x1)] (by decide) rfl ?_
          refine r_goto 93 5 C dX4_curves_93 (by decide) ?_
          refine r_pick [(h0, .inr (8, [.ref h1, .ref h2, .ref h6, .int x2, .int x3, .long y0, .int x4, .int x5, .int x6, .int x7, .ref h7, .ref h8, .ref h9, .int x8, .int x9, .ref h10, .ref h11, .int x10, .ref h12, .int x11])), (h1, .inr (6, [.ref h3, .ref h13, .int x12, .int x13])), (h2, .inr (5, [.ref h4, .ref h5, .int z41, .int x15, .long z42, .long z43, .int 1])), (h3, .inl (gJ g, 48, .inr (.inl fm0))), (h4, .inl (gB g, 400, .inl f44)), (h5, .inl (gJ g, 2400, .inr (.inl f45)))] [0, 1, 3, 2, 4, 5] (by decide) rfl ?_
          exact ih11 z53 r46 z41 z42 z43 1 f44 f45 ⟨by omega, by omega⟩ ⟨p49, p50⟩ ⟨p51, p52⟩ (by decide) (by omega)
  exact lp10 _ x0 0 x14 y1 y2 x16 fn0 fm1 i_x0 (by decide) i_x14 i_x16 (Nat.lt_succ_self _)
set_option maxHeartbeats 4000000 in
set_option maxRecDepth 100000 in
theorem c256_X6_close (l : Launch) (g : GD) (h0 : Nat) (h1 : Nat) (h2 : Nat) (x0 : Int32) (x1 : Int32) (y0 : Int64) (y1 : Int64) (x2 : Int32) (fn0 : Nat → Int32) (fm0 : Nat → Int64) (i_x0 : (0 ≤ (Int32.toInt x0) ∧ (Int32.toInt x0) ≤ 400)) (i_x1 : (0 ≤ (Int32.toInt x1) ∧ (Int32.toInt x1) ≤ 400)) (i_x2 : (0 ≤ (Int32.toInt x2) ∧ (Int32.toInt x2) ≤ 1)) (sz : Nat) : Met l yX6_close wsX6_close ({ frames := 1, cells := 0, slots := 0, locals := 21 }) (va_Pc [.ref h0] (PW g [(h0, .inr (5, [.ref h1, .ref h2, .int x0, .int x1, .long y0, .long y1, .int x2])), (h1, .inl (gB g, 400, .inl fn0)), (h2, .inl (gJ g, 2400, .inr (.inl fm0)))] sz)) (va_Qi (fun (r : Int32) (u : (Int32) × (Nat → Int32) × (Nat → Int64)) => 0 ≤ (Int32.toInt r) ∧ (Int32.toInt r) ≤ 6 ∧ 0 ≤ (Int32.toInt (u.1)) ∧ (Int32.toInt (u.1)) ≤ 400) (BW g (va_A [(h0, .inr (5, [.ref h1, .ref h2, .int x0, .int x1, .long y0, .long y1, .int x2])), (h1, .inl (gB g, 400, .inl fn0)), (h2, .inl (gJ g, 2400, .inr (.inl fm0)))] sz) (fun u : (Int32) × (Nat → Int32) × (Nat → Int64) => [(h0, .inr (5, [.ref h1, .ref h2, .int u.1, .int x1, .long y0, .long y1, .int x2])), (h1, .inl (gB g, 400, .inl u.2.1)), (h2, .inl (gJ g, 2400, .inr (.inl u.2.2)))])) (va_A [(h0, .inr (5, [.ref h1, .ref h2, .int x0, .int x1, .long y0, .long y1, .int x2])), (h1, .inl (gB g, 400, .inl fn0)), (h2, .inl (gJ g, 2400, .inr (.inl fm0)))] sz)) 0 0 (va_A [(h0, .inr (5, [.ref h1, .ref h2, .int x0, .int x1, .long y0, .long y1, .int x2])), (h1, .inl (gB g, 400, .inl fn0)), (h2, .inl (gJ g, 2400, .inr (.inl fm0)))] sz) := by
  refine met_i RX6 (by decide) rfl rfl (Nat.le_of_ble_eq_true rfl) [(0, .ref h0)] rfl ?_
  intro p e s m args below meth c A Q C hnm Rt
  refine r_aload_n 0 0 C dX6_close_0 rfl ?_
  refine r_iconst 1 3 C dX6_close_1 (by decide) ?_
  refine r_callVi 2 C dX6_close_2 [] [(h0, .inr (5, [.ref h1, .ref h2, .int x0, .int x1, .long y0, .long y1, .int x2])), (h1, .inl (gB g, 400, .inl fn0)), (h2, .inl (gJ g, 2400, .inr (.inl fm0)))] [] (fun sz => c245_X6_add l g h0 h1 h2 3 x0 x1 y0 y1 x2 fn0 fm0 i_x0 i_x1 i_x2 sz) gX6_close_X6_add rfl ⟨rfl, rfl⟩ 1 (by decide) ⟨Nat.le_of_ble_eq_true rfl, Nat.le_of_ble_eq_true rfl⟩ 0 rfl rfl [0, 1, 2] [] rfl rfl (by decide) (by decide) (by decide) rfl rfl (Nat.le_of_ble_eq_true rfl) ⟨Nat.le_of_ble_eq_true rfl, Nat.le_of_ble_eq_true rfl⟩ (fun r4 u6 w5 => ?_)
  obtain ⟨z1, f2, f3⟩ := u6
  refine r_ws [(h0, .inr (5, [.ref h1, .ref h2, .int z1, .int x1, .long y0, .long y1, .int x2])), (h1, .inl (gB g, 400, .inl f2)), (h2, .inl (gJ g, 2400, .inr (.inl f3)))] rfl ?_
  have p7 : 0 ≤ (Int32.toInt z1) := w5.2.1
  have p8 : (Int32.toInt z1) ≤ 400 := w5.2.2
  have w9 : (((Int32.toInt x0) < (Int32.toInt x1) ∧ (Int32.toInt z1) = (Int32.toInt x0) + 1 ∧ r4 = 0) ∨ (¬ ((Int32.toInt x0) < (Int32.toInt x1)) ∧ (Int32.toInt z1) = (Int32.toInt x0) ∧ r4 = 6)) := w5.1
  rcases w9 with ⟨k10, k11, k12⟩ | w9
  · skip
    have k12 := k12.symm
    subst k12
    exact r_iret 5 Rt dX6_close_5 (z1, f2, f3) (show 0 ≤ (Int32.toInt 0) ∧ (Int32.toInt 0) ≤ 6 ∧ 0 ≤ (Int32.toInt z1) ∧ (Int32.toInt z1) ≤ 400 from ⟨(by ((repeat' apply And.intro) <;> first | trivial | rfl | assumption | omega | decide | exact Or.inl rfl | exact Or.inr (Or.inl rfl) | exact Or.inr (Or.inr rfl))), (by ((repeat' apply And.intro) <;> first | trivial | rfl | assumption | omega | decide | exact Or.inl rfl | exact Or.inr (Or.inl rfl) | exact Or.inr (Or.inr rfl))), (show _ ∧ _ from ⟨p7, p8⟩).1, (show _ ∧ _ from ⟨p7, p8⟩).2⟩) [0, 1, 2] (by decide) rfl (Nat.le_of_ble_eq_true rfl) (Nat.le_of_ble_eq_true rfl)
  obtain ⟨k13, k14, k15⟩ := w9
  have k15 := k15.symm
  subst k15
  exact r_iret 5 Rt dX6_close_5 (z1, f2, f3) (show 0 ≤ (Int32.toInt 6) ∧ (Int32.toInt 6) ≤ 6 ∧ 0 ≤ (Int32.toInt z1) ∧ (Int32.toInt z1) ≤ 400 from ⟨(by ((repeat' apply And.intro) <;> first | trivial | rfl | assumption | omega | decide | exact Or.inl rfl | exact Or.inr (Or.inl rfl) | exact Or.inr (Or.inr rfl))), (by ((repeat' apply And.intro) <;> first | trivial | rfl | assumption | omega | decide | exact Or.inl rfl | exact Or.inr (Or.inl rfl) | exact Or.inr (Or.inr rfl))), (show _ ∧ _ from ⟨p7, p8⟩).1, (show _ ∧ _ from ⟨p7, p8⟩).2⟩) [0, 1, 2] (by decide) rfl (Nat.le_of_ble_eq_true rfl) (Nat.le_of_ble_eq_true rfl)
set_option maxHeartbeats 4000000 in
set_option maxRecDepth 100000 in
theorem c257_X4_finishAll (l : Launch) (g : GD) (h0 : Nat) (h1 : Nat) (h2 : Nat) (h3 : Nat) (x0 : Int32) (x1 : Int32) (y0 : Int64) (x2 : Int32) (x3 : Int32) (x4 : Int32) (x5 : Int32) (h4 : Nat) (h5 : Nat) (h6 : Nat) (x6 : Int32) (x7 : Int32) (h7 : Nat) (h8 : Nat) (x8 : Int32) (h9 : Nat) (x9 : Int32) (i_x5 : (0 ≤ (Int32.toInt x5) ∧ (Int32.toInt x5) ≤ 1)) (i_x6 : (0 ≤ (Int32.toInt x6) ∧ (Int32.toInt x6) ≤ 10)) (i_x7 : (0 ≤ (Int32.toInt x7) ∧ (Int32.toInt x7) ≤ 1)) (i_x8 : (0 ≤ (Int32.toInt x8) ∧ (Int32.toInt x8) ≤ 7)) (i_x9 : (0 ≤ (Int32.toInt x9) ∧ (Int32.toInt x9) ≤ 24)) (sz : Nat) : Met l yX4_finishAll wsX4_finishAll ({ frames := 0, cells := 0, slots := 0, locals := 0 }) (va_Pc [.ref h0] (PW g [(h0, .inr (8, [.ref h1, .ref h2, .ref h3, .int x0, .int x1, .long y0, .int x2, .int x3, .int x4, .int x5, .ref h4, .ref h5, .ref h6, .int x6, .int x7, .ref h7, .ref h8, .int x8, .ref h9, .int x9]))] sz)) (va_Qv (fun (_ : Unit) => True) (BW g (va_A [(h0, .inr (8, [.ref h1, .ref h2, .ref h3, .int x0, .int x1, .long y0, .int x2, .int x3, .int x4, .int x5, .ref h4, .ref h5, .ref h6, .int x6, .int x7, .ref h7, .ref h8, .int x8, .ref h9, .int x9]))] sz) (fun _ : Unit => [(h0, .inr (8, [.ref h1, .ref h2, .ref h3, .int x0, .int x1, .long y0, .int x2, .int x3, .int x4, .int 1, .ref h4, .ref h5, .ref h6, .int x6, .int x7, .ref h7, .ref h8, .int x8, .ref h9, .int x9]))])) (va_A [(h0, .inr (8, [.ref h1, .ref h2, .ref h3, .int x0, .int x1, .long y0, .int x2, .int x3, .int x4, .int x5, .ref h4, .ref h5, .ref h6, .int x6, .int x7, .ref h7, .ref h8, .int x8, .ref h9, .int x9]))] sz)) 0 0 (va_A [(h0, .inr (8, [.ref h1, .ref h2, .ref h3, .int x0, .int x1, .long y0, .int x2, .int x3, .int x4, .int x5, .ref h4, .ref h5, .ref h6, .int x6, .int x7, .ref h7, .ref h8, .int x8, .ref h9, .int x9]))] sz) := by
  refine met_v RX4 (by decide) rfl rfl (Nat.le_of_ble_eq_true rfl) [(0, .ref h0)] rfl ?_
  intro p e s m args below meth c A Q C hnm Rt
  have hiX9 : ∀ w ∈ wsX90, w ∈ wsX4_finishAll := fun w h => List.mem_cons_of_mem _ (List.mem_append_right _ (h))
  refine r_aload_n 0 0 C dX4_finishAll_0 rfl ?_
  refine r_iconst 1 1 C dX4_finishAll_1 (by decide) ?_
  refine r_put 2 C dX4_finishAll_2 (k := 9) 0 rfl rfl hiX9 tyX9 tyX9_ok nmX9 (by decide) rfl (mg 1 rfl) (Or.inl rfl) rfl rfl rfl rfl (Nat.le_of_ble_eq_true rfl) [(h0, .inr (8, [.ref h1, .ref h2, .ref h3, .int x0, .int x1, .long y0, .int x2, .int x3, .int x4, .int 1, .ref h4, .ref h5, .ref h6, .int x6, .int x7, .ref h7, .ref h8, .int x8, .ref h9, .int x9]))] rfl ?_
  exact r_vret 5 Rt dX4_finishAll_5 () trivial [0] (by decide) rfl (Nat.le_of_ble_eq_true rfl) (Nat.le_of_ble_eq_true rfl)
set_option maxHeartbeats 4000000 in
set_option maxRecDepth 100000 in
theorem c258_X9_paintNothing (l : Launch) (g : GD) (h0 : Nat) (h1 : Nat) (h2 : Nat) (h3 : Nat) (x0 : Int32) (h4 : Nat) (x1 : Int32) (x2 : Int32) (y0 : Int64) (x3 : Int32) (x4 : Int32) (x5 : Int32) (x6 : Int32) (h5 : Nat) (h6 : Nat) (h7 : Nat) (x7 : Int32) (x8 : Int32) (h8 : Nat) (h9 : Nat) (x9 : Int32) (h10 : Nat) (x10 : Int32) (h11 : Nat) (x11 : Int32) (x12 : Int32) (h12 : Nat) (h13 : Nat) (x13 : Int32) (x14 : Int32) (y1 : Int64) (y2 : Int64) (x15 : Int32) (fm0 : Nat → Int64) (i_x6 : (0 ≤ (Int32.toInt x6) ∧ (Int32.toInt x6) ≤ 1)) (i_x7 : (0 ≤ (Int32.toInt x7) ∧ (Int32.toInt x7) ≤ 10)) (i_x8 : (0 ≤ (Int32.toInt x8) ∧ (Int32.toInt x8) ≤ 1)) (i_x9 : (0 ≤ (Int32.toInt x9) ∧ (Int32.toInt x9) ≤ 7)) (i_x10 : (0 ≤ (Int32.toInt x10) ∧ (Int32.toInt x10) ≤ 24)) (i_x11 : (0 ≤ (Int32.toInt x11) ∧ (Int32.toInt x11) ≤ 48)) (i_x12 : (0 ≤ (Int32.toInt x12) ∧ (Int32.toInt x12) ≤ 48)) (i_x13 : (0 ≤ (Int32.toInt x13) ∧ (Int32.toInt x13) ≤ 400)) (i_x14 : (0 ≤ (Int32.toInt x14) ∧ (Int32.toInt x14) ≤ 400)) (i_x15 : (0 ≤ (Int32.toInt x15) ∧ (Int32.toInt x15) ≤ 1)) (sz : Nat) : Met l yX9_paintNothing wsX9_paintNothing ({ frames := 1, cells := 0, slots := 0, locals := 24 }) (va_Pc [.ref h0, .int x0] (PW g [(h0, .inr (8, [.ref h1, .ref h2, .ref h4, .int x1, .int x2, .long y0, .int x3, .int x4, .int x5, .int x6, .ref h5, .ref h6, .ref h7, .int x7, .int x8, .ref h8, .ref h9, .int x9, .ref h10, .int x10])), (h1, .inr (6, [.ref h3, .ref h11, .int x11, .int x12])), (h2, .inr (5, [.ref h12, .ref h13, .int x13, .int x14, .long y1, .long y2, .int x15])), (h3, .inl (gJ g, 48, .inr (.inl fm0)))] sz)) (va_Qi (fun (r : Int32) (u : (Int64) × (Int32) × (Int64) × (Int64)) => r = 0 ∧ 0 ≤ (Int32.toInt (u.2.1)) ∧ (Int32.toInt (u.2.1)) ≤ 1) (BW g (va_A [(h0, .inr (8, [.ref h1, .ref h2, .ref h4, .int x1, .int x2, .long y0, .int x3, .int x4, .int x5, .int x6, .ref h5, .ref h6, .ref h7, .int x7, .int x8, .ref h8, .ref h9, .int x9, .ref h10, .int x10])), (h1, .inr (6, [.ref h3, .ref h11, .int x11, .int x12])), (h2, .inr (5, [.ref h12, .ref h13, .int x13, .int x14, .long y1, .long y2, .int x15])), (h3, .inl (gJ g, 48, .inr (.inl fm0)))] sz) (fun u : (Int64) × (Int32) × (Int64) × (Int64) => [(h0, .inr (8, [.ref h1, .ref h2, .ref h4, .int x1, .int x2, .long u.1, .int x3, .int x4, .int x5, .int u.2.1, .ref h5, .ref h6, .ref h7, .int x7, .int x8, .ref h8, .ref h9, .int x9, .ref h10, .int x10])), (h1, .inr (6, [.ref h3, .ref h11, .int x11, .int x12])), (h2, .inr (5, [.ref h12, .ref h13, .int x13, .int x14, .long u.2.2.1, .long u.2.2.2, .int x15])), (h3, .inl (gJ g, 48, .inr (.inl fm0)))])) (va_A [(h0, .inr (8, [.ref h1, .ref h2, .ref h4, .int x1, .int x2, .long y0, .int x3, .int x4, .int x5, .int x6, .ref h5, .ref h6, .ref h7, .int x7, .int x8, .ref h8, .ref h9, .int x9, .ref h10, .int x10])), (h1, .inr (6, [.ref h3, .ref h11, .int x11, .int x12])), (h2, .inr (5, [.ref h12, .ref h13, .int x13, .int x14, .long y1, .long y2, .int x15])), (h3, .inl (gJ g, 48, .inr (.inl fm0)))] sz)) 0 0 (va_A [(h0, .inr (8, [.ref h1, .ref h2, .ref h4, .int x1, .int x2, .long y0, .int x3, .int x4, .int x5, .int x6, .ref h5, .ref h6, .ref h7, .int x7, .int x8, .ref h8, .ref h9, .int x9, .ref h10, .int x10])), (h1, .inr (6, [.ref h3, .ref h11, .int x11, .int x12])), (h2, .inr (5, [.ref h12, .ref h13, .int x13, .int x14, .long y1, .long y2, .int x15])), (h3, .inl (gJ g, 48, .inr (.inl fm0)))] sz) := by
  refine met_i RX9 (by decide) rfl rfl (Nat.le_of_ble_eq_true rfl) [(0, .ref h0), (1, .int x0)] rfl ?_
  intro p e s m args below meth c A Q C hnm Rt
  have gx0 := fb_rng x0
  have hiX9 : ∀ w ∈ wsX90, w ∈ wsX9_paintNothing := fun w h => List.mem_cons_of_mem _ (List.mem_append_left _ (List.mem_append_left _ (List.mem_append_right _ (h))))
  refine r_iload_n 0 1 C dX9_paintNothing_0 rfl ?_
  by_cases c1 : x0 = 13
  · skip
    have k2 : (Int32.toInt x0) = 13 := (fa_eq x0 13).mp c1
    refine r_lookup 1 44 (off := 43) C dX9_paintNothing_1 (by decide) (by rw [c1]; decide) (by decide) ?_
    refine r_aload_n 44 0 C dX9_paintNothing_44 rfl ?_
    refine r_aload_n 45 0 C dX9_paintNothing_45 rfl ?_
    refine r_get 46 C dX9_paintNothing_46 (k := 0) 0 rfl rfl hiX9 (by decide) rfl (mg 1 rfl) (Or.inr (mg 2 rfl)) rfl ?_
    refine r_iconst 49 1 C dX9_paintNothing_49 (by decide) ?_
    refine r_callVl 50 C dX9_paintNothing_50 [.ref h0] [(h1, .inr (6, [.ref h3, .ref h11, .int x11, .int x12])), (h3, .inl (gJ g, 48, .inr (.inl fm0)))] [(h0, .inr (8, [.ref h1, .ref h2, .ref h4, .int x1, .int x2, .long y0, .int x3, .int x4, .int x5, .int x6, .ref h5, .ref h6, .ref h7, .int x7, .int x8, .ref h8, .ref h9, .int x9, .ref h10, .int x10])), (h2, .inr (5, [.ref h12, .ref h13, .int x13, .int x14, .long y1, .long y2, .int x15]))] (fun sz => c232_X7_get l g h1 h3 1 h11 x11 x12 fm0 i_x11 i_x12 sz) gX9_paintNothing_X7_get rfl ⟨rfl, rfl⟩ 1 (by decide) ⟨Nat.le_of_ble_eq_true rfl, Nat.le_of_ble_eq_true rfl⟩ 1 rfl rfl [1, 3] [0, 2] rfl rfl (by decide) (by decide) (by decide) rfl rfl (Nat.le_of_ble_eq_true rfl) ⟨Nat.le_of_ble_eq_true rfl, Nat.le_of_ble_eq_true rfl⟩ (fun r3 _ w4 => ?_)
    refine r_ws [(h0, .inr (8, [.ref h1, .ref h2, .ref h4, .int x1, .int x2, .long y0, .int x3, .int x4, .int x5, .int x6, .ref h5, .ref h6, .ref h7, .int x7, .int x8, .ref h8, .ref h9, .int x9, .ref h10, .int x10])), (h2, .inr (5, [.ref h12, .ref h13, .int x13, .int x14, .long y1, .long y2, .int x15])), (h1, .inr (6, [.ref h3, .ref h11, .int x11, .int x12])), (h3, .inl (gJ g, 48, .inr (.inl fm0)))] rfl ?_
    have gr3 := fb_rngL r3
    refine r_put 53 C dX9_paintNothing_53 (k := 5) 0 rfl rfl hiX9 tyX9 tyX9_ok nmX9 (by decide) rfl (mg 3 rfl) (Or.inr (mg 4 rfl)) rfl rfl rfl rfl (Nat.le_of_ble_eq_true rfl) [(h0, .inr (8, [.ref h1, .ref h2, .ref h4, .int x1, .int x2, .long r3, .int x3, .int x4, .int x5, .int x6, .ref h5, .ref h6, .ref h7, .int x7, .int x8, .ref h8, .ref h9, .int x9, .ref h10, .int x10])), (h2, .inr (5, [.ref h12, .ref h13, .int x13, .int x14, .long y1, .long y2, .int x15])), (h1, .inr (6, [.ref h3, .ref h11, .int x11, .int x12])), (h3, .inl (gJ g, 48, .inr (.inl fm0)))] rfl ?_
    refine r_aload_n 56 0 C dX9_paintNothing_56 rfl ?_
    refine r_get 57 C dX9_paintNothing_57 (k := 1) 0 rfl rfl hiX9 (by decide) rfl (mg 5 rfl) (Or.inr (mg 6 rfl)) rfl ?_
    refine r_aload_n 60 0 C dX9_paintNothing_60 rfl ?_
    refine r_get 61 C dX9_paintNothing_61 (k := 0) 0 rfl rfl hiX9 (by decide) rfl (mg 1 rfl) (Or.inr (mg 2 rfl)) rfl ?_
    refine r_iconst 64 0 C dX9_paintNothing_64 (by decide) ?_
    refine r_callVl 65 C dX9_paintNothing_65 [.ref h2] [(h1, .inr (6, [.ref h3, .ref h11, .int x11, .int x12])), (h3, .inl (gJ g, 48, .inr (.inl fm0)))] [(h0, .inr (8, [.ref h1, .ref h2, .ref h4, .int x1, .int x2, .long r3, .int x3, .int x4, .int x5, .int x6, .ref h5, .ref h6, .ref h7, .int x7, .int x8, .ref h8, .ref h9, .int x9, .ref h10, .int x10])), (h2, .inr (5, [.ref h12, .ref h13, .int x13, .int x14, .long y1, .long y2, .int x15]))] (fun sz => c232_X7_get l g h1 h3 0 h11 x11 x12 fm0 i_x11 i_x12 sz) gX9_paintNothing_X7_get rfl ⟨rfl, rfl⟩ 1 (by decide) ⟨Nat.le_of_ble_eq_true rfl, Nat.le_of_ble_eq_true rfl⟩ 2 rfl rfl [2, 3] [0, 1] rfl rfl (by decide) (by decide) (by decide) rfl rfl (Nat.le_of_ble_eq_true rfl) ⟨Nat.le_of_ble_eq_true rfl, Nat.le_of_ble_eq_true rfl⟩ (fun r5 _ w6 => ?_)
    refine r_ws [(h0, .inr (8, [.ref h1, .ref h2, .ref h4, .int x1, .int x2, .long r3, .int x3, .int x4, .int x5, .int x6, .ref h5, .ref h6, .ref h7, .int x7, .int x8, .ref h8, .ref h9, .int x9, .ref h10, .int x10])), (h2, .inr (5, [.ref h12, .ref h13, .int x13, .int x14, .long y1, .long y2, .int x15])), (h1, .inr (6, [.ref h3, .ref h11, .int x11, .int x12])), (h3, .inl (gJ g, 48, .inr (.inl fm0)))] rfl ?_
    have gr5 := fb_rngL r5
    refine r_lconst 68 0 C dX9_paintNothing_68 (by decide) ?_
    refine r_callVv 69 C dX9_paintNothing_69 [] [(h2, .inr (5, [.ref h12, .ref h13, .int x13, .int x14, .long y1, .long y2, .int x15]))] [(h0, .inr (8, [.ref h1, .ref h2, .ref h4, .int x1, .int x2, .long r3, .int x3, .int x4, .int x5, .int x6, .ref h5, .ref h6, .ref h7, .int x7, .int x8, .ref h8, .ref h9, .int x9, .ref h10, .int x10])), (h1, .inr (6, [.ref h3, .ref h11, .int x11, .int x12])), (h3, .inl (gJ g, 48, .inr (.inl fm0)))] (fun sz => c220_X6_goTo l g h2 r5 0 h12 h13 x13 x14 y1 y2 x15 i_x13 i_x14 i_x15 sz) gX9_paintNothing_X6_goTo rfl ⟨rfl, rfl⟩ 2 (by decide) ⟨Nat.le_of_ble_eq_true rfl, Nat.le_of_ble_eq_true rfl⟩ 1 rfl rfl [1] [0, 2, 3] rfl rfl (by decide) (by decide) (by decide) rfl rfl (Nat.le_of_ble_eq_true rfl) ⟨Nat.le_of_ble_eq_true rfl, Nat.le_of_ble_eq_true rfl⟩ (fun  _ w7 => ?_)
    refine r_ws [(h0, .inr (8, [.ref h1, .ref h2, .ref h4, .int x1, .int x2, .long r3, .int x3, .int x4, .int x5, .int x6, .ref h5, .ref h6, .ref h7, .int x7, .int x8, .ref h8, .ref h9, .int x9, .ref h10, .int x10])), (h1, .inr (6, [.ref h3, .ref h11, .int x11, .int x12])), (h3, .inl (gJ g, 48, .inr (.inl fm0))), (h2, .inr (5, [.ref h12, .ref h13, .int x13, .int x14, .long r5, .long 0, .int x15]))] rfl ?_
    refine r_iconst 72 0 C dX9_paintNothing_72 (by decide) ?_
    exact r_iret 73 Rt dX9_paintNothing_73 (r3, x6, r5, 0) (show 0 = 0 ∧ 0 ≤ (Int32.toInt x6) ∧ (Int32.toInt x6) ≤ 1 from ⟨(by ((repeat' apply And.intro) <;> first | trivial | rfl | assumption | omega | decide | exact Or.inl rfl | exact Or.inr (Or.inl rfl) | exact Or.inr (Or.inr rfl))), i_x6.1, i_x6.2⟩) [0, 1, 3, 2] (by decide) rfl (Nat.le_of_ble_eq_true rfl) (Nat.le_of_ble_eq_true rfl)
  · skip
    have k8 : ¬ ((Int32.toInt x0) = 13) := fun h_9 => c1 ((fa_eq x0 13).mpr h_9)
    by_cases c9 : x0 = 14
    · skip
      have k10 : (Int32.toInt x0) = 14 := (fa_eq x0 14).mp c9
      refine r_lookup 1 136 (off := 135) C dX9_paintNothing_1 (by decide) (by rw [c9]; decide) (by decide) ?_
      refine r_aload_n 136 0 C dX9_paintNothing_136 rfl ?_
      refine r_callUv 137 C dX9_paintNothing_137 [] [(h0, .inr (8, [.ref h1, .ref h2, .ref h4, .int x1, .int x2, .long y0, .int x3, .int x4, .int x5, .int x6, .ref h5, .ref h6, .ref h7, .int x7, .int x8, .ref h8, .ref h9, .int x9, .ref h10, .int x10]))] [(h1, .inr (6, [.ref h3, .ref h11, .int x11, .int x12])), (h2, .inr (5, [.ref h12, .ref h13, .int x13, .int x14, .long y1, .long y2, .int x15])), (h3, .inl (gJ g, 48, .inr (.inl fm0)))] (fun sz => c257_X4_finishAll l g h0 h1 h2 h4 x1 x2 y0 x3 x4 x5 x6 h5 h6 h7 x7 x8 h8 h9 x9 h10 x10 i_x6 i_x7 i_x8 i_x9 i_x10 sz) gX9_paintNothing_X4_finishAll_u124X9 rfl ⟨rfl, rfl⟩ 0 rfl (by decide) ⟨Nat.le_of_ble_eq_true rfl, Nat.le_of_ble_eq_true rfl⟩ 0 rfl rfl [0] [1, 2, 3] rfl rfl (by decide) (by decide) (by decide) rfl rfl (Nat.le_of_ble_eq_true rfl) ⟨Nat.le_of_ble_eq_true rfl, Nat.le_of_ble_eq_true rfl⟩ (fun  _ w11 => ?_)
      refine r_ws [(h1, .inr (6, [.ref h3, .ref h11, .int x11, .int x12])), (h2, .inr (5, [.ref h12, .ref h13, .int x13, .int x14, .long y1, .long y2, .int x15])), (h3, .inl (gJ g, 48, .inr (.inl fm0))), (h0, .inr (8, [.ref h1, .ref h2, .ref h4, .int x1, .int x2, .long y0, .int x3, .int x4, .int x5, .int 1, .ref h5, .ref h6, .ref h7, .int x7, .int x8, .ref h8, .ref h9, .int x9, .ref h10, .int x10]))] rfl ?_
      refine r_iconst 140 0 C dX9_paintNothing_140 (by decide) ?_
      exact r_iret 141 Rt dX9_paintNothing_141 (y0, 1, y1, y2) (show 0 = 0 ∧ 0 ≤ (Int32.toInt 1) ∧ (Int32.toInt 1) ≤ 1 from ⟨(by ((repeat' apply And.intro) <;> first | trivial | rfl | assumption | omega | decide | exact Or.inl rfl | exact Or.inr (Or.inl rfl) | exact Or.inr (Or.inr rfl))), (by ((repeat' apply And.intro) <;> first | trivial | rfl | assumption | omega | decide | exact Or.inl rfl | exact Or.inr (Or.inl rfl) | exact Or.inr (Or.inr rfl))), (by ((repeat' apply And.intro) <;> first | trivial | rfl | assumption | omega | decide | exact Or.inl rfl | exact Or.inr (Or.inl rfl) | exact Or.inr (Or.inr rfl)))⟩) [3, 0, 1, 2] (by decide) rfl (Nat.le_of_ble_eq_true rfl) (Nat.le_of_ble_eq_true rfl)
    · skip
      have k12 : ¬ ((Int32.toInt x0) = 14) := fun h_9 => c9 ((fa_eq x0 14).mpr h_9)
      by_cases c13 : x0 = 263
      · skip
        have k14 : (Int32.toInt x0) = 263 := (fa_eq x0 263).mp c13
        refine r_lookup 1 74 (off := 73) C dX9_paintNothing_1 (by decide) (by rw [c13]; decide) (by decide) ?_
        refine r_aload_n 74 0 C dX9_paintNothing_74 rfl ?_
        refine r_aload_n 75 0 C dX9_paintNothing_75 rfl ?_
        refine r_get 76 C dX9_paintNothing_76 (k := 0) 0 rfl rfl hiX9 (by decide) rfl (mg 1 rfl) (Or.inr (mg 2 rfl)) rfl ?_
        refine r_iconst 79 2 C dX9_paintNothing_79 (by decide) ?_
        refine r_callVl 80 C dX9_paintNothing_80 [.ref h0] [(h1, .inr (6, [.ref h3, .ref h11, .int x11, .int x12])), (h3, .inl (gJ g, 48, .inr (.inl fm0)))] [(h0, .inr (8, [.ref h1, .ref h2, .ref h4, .int x1, .int x2, .long y0, .int x3, .int x4, .int x5, .int x6, .ref h5, .ref h6, .ref h7, .int x7, .int x8, .ref h8, .ref h9, .int x9, .ref h10, .int x10])), (h2, .inr (5, [.ref h12, .ref h13, .int x13, .int x14, .long y1, .long y2, .int x15]))] (fun sz => c232_X7_get l g h1 h3 2 h11 x11 x12 fm0 i_x11 i_x12 sz) gX9_paintNothing_X7_get rfl ⟨rfl, rfl⟩ 1 (by decide) ⟨Nat.le_of_ble_eq_true rfl, Nat.le_of_ble_eq_true rfl⟩ 1 rfl rfl [1, 3] [0, 2] rfl rfl (by decide) (by decide) (by decide) rfl rfl (Nat.le_of_ble_eq_true rfl) ⟨Nat.le_of_ble_eq_true rfl, Nat.le_of_ble_eq_true rfl⟩ (fun r15 _ w16 => ?_)
        refine r_ws [(h0, .inr (8, [.ref h1, .ref h2, .ref h4, .int x1, .int x2, .long y0, .int x3, .int x4, .int x5, .int x6, .ref h5, .ref h6, .ref h7, .int x7, .int x8, .ref h8, .ref h9, .int x9, .ref h10, .int x10])), (h2, .inr (5, [.ref h12, .ref h13, .int x13, .int x14, .long y1, .long y2, .int x15])), (h1, .inr (6, [.ref h3, .ref h11, .int x11, .int x12])), (h3, .inl (gJ g, 48, .inr (.inl fm0)))] rfl ?_
        have gr15 := fb_rngL r15
        refine r_put 83 C dX9_paintNothing_83 (k := 5) 0 rfl rfl hiX9 tyX9 tyX9_ok nmX9 (by decide) rfl (mg 3 rfl) (Or.inr (mg 4 rfl)) rfl rfl rfl rfl (Nat.le_of_ble_eq_true rfl) [(h0, .inr (8, [.ref h1, .ref h2, .ref h4, .int x1, .int x2, .long r15, .int x3, .int x4, .int x5, .int x6, .ref h5, .ref h6, .ref h7, .int x7, .int x8, .ref h8, .ref h9, .int x9, .ref h10, .int x10])), (h2, .inr (5, [.ref h12, .ref h13, .int x13, .int x14, .long y1, .long y2, .int x15])), (h1, .inr (6, [.ref h3, .ref h11, .int x11, .int x12])), (h3, .inl (gJ g, 48, .inr (.inl fm0)))] rfl ?_
        refine r_aload_n 86 0 C dX9_paintNothing_86 rfl ?_
        refine r_get 87 C dX9_paintNothing_87 (k := 1) 0 rfl rfl hiX9 (by decide) rfl (mg 5 rfl) (Or.inr (mg 6 rfl)) rfl ?_
        refine r_aload_n 90 0 C dX9_paintNothing_90 rfl ?_
        refine r_get 91 C dX9_paintNothing_91 (k := 0) 0 rfl rfl hiX9 (by decide) rfl (mg 1 rfl) (Or.inr (mg 2 rfl)) rfl ?_
        refine r_iconst 94 0 C dX9_paintNothing_94 (by decide) ?_
        refine r_callVl 95 C dX9_paintNothing_95 [.ref h2] [(h1, .inr (6, [.ref h3, .ref h11, .int x11, .int x12])), (h3, .inl (gJ g, 48, .inr (.inl fm0)))] [(h0, .inr (8, [.ref h1, .ref h2, .ref h4, .int x1, .int x2, .long r15, .int x3, .int x4, .int x5, .int x6, .ref h5, .ref h6, .ref h7, .int x7, .int x8, .ref h8, .ref h9, .int x9, .ref h10, .int x10])), (h2, .inr (5, [.ref h12, .ref h13, .int x13, .int x14, .long y1, .long y2, .int x15]))] (fun sz => c232_X7_get l g h1 h3 0 h11 x11 x12 fm0 i_x11 i_x12 sz) gX9_paintNothing_X7_get rfl ⟨rfl, rfl⟩ 1 (by decide) ⟨Nat.le_of_ble_eq_true rfl, Nat.le_of_ble_eq_true rfl⟩ 2 rfl rfl [2, 3] [0, 1] rfl rfl (by decide) (by decide) (by decide) rfl rfl (Nat.le_of_ble_eq_true rfl) ⟨Nat.le_of_ble_eq_true rfl, Nat.le_of_ble_eq_true rfl⟩ (fun r17 _ w18 => ?_)
        refine r_ws [(h0, .inr (8, [.ref h1, .ref h2, .ref h4, .int x1, .int x2, .long r15, .int x3, .int x4, .int x5, .int x6, .ref h5, .ref h6, .ref h7, .int x7, .int x8, .ref h8, .ref h9, .int x9, .ref h10, .int x10])), (h2, .inr (5, [.ref h12, .ref h13, .int x13, .int x14, .long y1, .long y2, .int x15])), (h1, .inr (6, [.ref h3, .ref h11, .int x11, .int x12])), (h3, .inl (gJ g, 48, .inr (.inl fm0)))] rfl ?_
        have gr17 := fb_rngL r17
        refine r_aload_n 98 0 C dX9_paintNothing_98 rfl ?_
        refine r_get 99 C dX9_paintNothing_99 (k := 0) 0 rfl rfl hiX9 (by decide) rfl (mg 1 rfl) (Or.inr (mg 2 rfl)) rfl ?_
        refine r_iconst 102 1 C dX9_paintNothing_102 (by decide) ?_
        refine r_callVl 103 C dX9_paintNothing_103 [.long r17, .ref h2] [(h1, .inr (6, [.ref h3, .ref h11, .int x11, .int x12])), (h3, .inl (gJ g, 48, .inr (.inl fm0)))] [(h0, .inr (8, [.ref h1, .ref h2, .ref h4, .int x1, .int x2, .long r15, .int x3, .int x4, .int x5, .int x6, .ref h5, .ref h6, .ref h7, .int x7, .int x8, .ref h8, .ref h9, .int x9, .ref h10, .int x10])), (h2, .inr (5, [.ref h12, .ref h13, .int x13, .int x14, .long y1, .long y2, .int x15]))] (fun sz => c232_X7_get l g h1 h3 1 h11 x11 x12 fm0 i_x11 i_x12 sz) gX9_paintNothing_X7_get rfl ⟨rfl, rfl⟩ 1 (by decide) ⟨Nat.le_of_ble_eq_true rfl, Nat.le_of_ble_eq_true rfl⟩ 2 rfl rfl [2, 3] [0, 1] rfl rfl (by decide) (by decide) (by decide) rfl rfl (Nat.le_of_ble_eq_true rfl) ⟨Nat.le_of_ble_eq_true rfl, Nat.le_of_ble_eq_true rfl⟩ (fun r19 _ w20 => ?_)
        refine r_ws [(h0, .inr (8, [.ref h1, .ref h2, .ref h4, .int x1, .int x2, .long r15, .int x3, .int x4, .int x5, .int x6, .ref h5, .ref h6, .ref h7, .int x7, .int x8, .ref h8, .ref h9, .int x9, .ref h10, .int x10])), (h2, .inr (5, [.ref h12, .ref h13, .int x13, .int x14, .long y1, .long y2, .int x15])), (h1, .inr (6, [.ref h3, .ref h11, .int x11, .int x12])), (h3, .inl (gJ g, 48, .inr (.inl fm0)))] rfl ?_
        have gr19 := fb_rngL r19
        refine r_callVv 106 C dX9_paintNothing_106 [] [(h2, .inr (5, [.ref h12, .ref h13, .int x13, .int x14, .long y1, .long y2, .int x15]))] [(h0, .inr (8, [.ref h1, .ref h2, .ref h4, .int x1, .int x2, .long r15, .int x3, .int x4, .int x5, .int x6, .ref h5, .ref h6, .ref h7, .int x7, .int x8, .ref h8, .ref h9, .int x9, .ref h10, .int x10])), (h1, .inr (6, [.ref h3, .ref h11, .int x11, .int x12])), (h3, .inl (gJ g, 48, .inr (.inl fm0)))] (fun sz => c220_X6_goTo l g h2 r17 r19 h12 h13 x13 x14 y1 y2 x15 i_x13 i_x14 i_x15 sz) gX9_paintNothing_X6_goTo rfl ⟨rfl, rfl⟩ 2 (by decide) ⟨Nat.le_of_ble_eq_true rfl, Nat.le_of_ble_eq_true rfl⟩ 1 rfl rfl [1] [0, 2, 3] rfl rfl (by decide) (by decide) (by decide) rfl rfl (Nat.le_of_ble_eq_true rfl) ⟨Nat.le_of_ble_eq_true rfl, Nat.le_of_ble_eq_true rfl⟩ (fun  _ w21 => ?_)
        refine r_ws [(h0, .inr (8, [.ref h1, .ref h2, .ref h4, .int x1, .int x2, .long r15, .int x3, .int x4, .int x5, .int x6, .ref h5, .ref h6, .ref h7, .int x7, .int x8, .ref h8, .ref h9, .int x9, .ref h10, .int x10])), (h1, .inr (6, [.ref h3, .ref h11, .int x11, .int x12])), (h3, .inl (gJ g, 48, .inr (.inl fm0))), (h2, .inr (5, [.ref h12, .ref h13, .int x13, .int x14, .long r17, .long r19, .int x15]))] rfl ?_
        refine r_iconst 109 0 C dX9_paintNothing_109 (by decide) ?_
        exact r_iret 110 Rt dX9_paintNothing_110 (r15, x6, r17, r19) (show 0 = 0 ∧ 0 ≤ (Int32.toInt x6) ∧ (Int32.toInt x6) ≤ 1 from ⟨(by ((repeat' apply And.intro) <;> first | trivial | rfl | assumption | omega | decide | exact Or.inl rfl | exact Or.inr (Or.inl rfl) | exact Or.inr (Or.inr rfl))), i_x6.1, i_x6.2⟩) [0, 1, 3, 2] (by decide) rfl (Nat.le_of_ble_eq_true rfl) (Nat.le_of_ble_eq_true rfl)
      · skip
        have k22 : ¬ ((Int32.toInt x0) = 263) := fun h_9 => c13 ((fa_eq x0 263).mpr h_9)
        by_cases c23 : x0 = 289
        · skip
          have k24 : (Int32.toInt x0) = 289 := (fa_eq x0 289).mp c23
          refine r_lookup 1 111 (off := 110) C dX9_paintNothing_1 (by decide) (by rw [c23]; decide) (by decide) ?_
          refine r_aload_n 111 0 C dX9_paintNothing_111 rfl ?_
          refine r_get 112 C dX9_paintNothing_112 (k := 1) 0 rfl rfl hiX9 (by decide) rfl (mg 5 rfl) (Or.inr (mg 6 rfl)) rfl ?_
          refine r_aload_n 115 0 C dX9_paintNothing_115 rfl ?_
          refine r_get 116 C dX9_paintNothing_116 (k := 0) 0 rfl rfl hiX9 (by decide) rfl (mg 1 rfl) (Or.inr (mg 2 rfl)) rfl ?_
          refine r_iconst 119 0 C dX9_paintNothing_119 (by decide) ?_
          refine r_callVl 120 C dX9_paintNothing_120 [.ref h2] [(h1, .inr (6, [.ref h3, .ref h11, .int x11, .int x12])), (h3, .inl (gJ g, 48, .inr (.inl fm0)))] [(h0, .inr (8, [.ref h1, .ref h2, .ref h4, .int x1, .int x2, .long y0, .int x3, .int x4, .int x5, .int x6, .ref h5, .ref h6, .ref h7, .int x7, .int x8, .ref h8, .ref h9, .int x9, .ref h10, .int x10])), (h2, .inr (5, [.ref h12, .ref h13, .int x13, .int x14, .long y1, .long y2, .int x15]))] (fun sz => c232_X7_get l g h1 h3 0 h11 x11 x12 fm0 i_x11 i_x12 sz) gX9_paintNothing_X7_get rfl ⟨rfl, rfl⟩ 1 (by decide) ⟨Nat.le_of_ble_eq_true rfl, Nat.le_of_ble_eq_true rfl⟩ 1 rfl rfl [1, 3] [0, 2] rfl rfl (by decide) (by decide) (by decide) rfl rfl (Nat.le_of_ble_eq_true rfl) ⟨Nat.le_of_ble_eq_true rfl, Nat.le_of_ble_eq_true rfl⟩ (fun r25 _ w26 => ?_)
          refine r_ws [(h0, .inr (8, [.ref h1, .ref h2, .ref h4, .int x1, .int x2, .long y0, .int x3, .int x4, .int x5, .int x6, .ref h5, .ref h6, .ref h7, .int x7, .int x8, .ref h8, .ref h9, .int x9, .ref h10, .int x10])), (h2, .inr (5, [.ref h12, .ref h13, .int x13, .int x14, .long y1, .long y2, .int x15])), (h1, .inr (6, [.ref h3, .ref h11, .int x11, .int x12])), (h3, .inl (gJ g, 48, .inr (.inl fm0)))] rfl ?_
          have gr25 := fb_rngL r25
          refine r_aload_n 123 0 C dX9_paintNothing_123 rfl ?_
          refine r_get 124 C dX9_paintNothing_124 (k := 0) 0 rfl rfl hiX9 (by decide) rfl (mg 1 rfl) (Or.inr (mg 2 rfl)) rfl ?_
          refine r_iconst 127 1 C dX9_paintNothing_127 (by decide) ?_
          refine r_callVl 128 C dX9_paintNothing_128 [.long r25, .ref h2] [(h1, .inr (6, [.ref h3, .ref h11, .int x11, .int x12])), (h3, .inl (gJ g, 48, .inr (.inl fm0)))] [(h0, .inr (8, [.ref h1, .ref h2, .ref h4, .int x1, .int x2, .long y0, .int x3, .int x4, .int x5, .int x6, .ref h5, .ref h6, .ref h7, .int x7, .int x8, .ref h8, .ref h9, .int x9, .ref h10, .int x10])), (h2, .inr (5, [.ref h12, .ref h13, .int x13, .int x14, .long y1, .long y2, .int x15]))] (fun sz => c232_X7_get l g h1 h3 1 h11 x11 x12 fm0 i_x11 i_x12 sz) gX9_paintNothing_X7_get rfl ⟨rfl, rfl⟩ 1 (by decide) ⟨Nat.le_of_ble_eq_true rfl, Nat.le_of_ble_eq_true rfl⟩ 2 rfl rfl [2, 3] [0, 1] rfl rfl (by decide) (by decide) (by decide) rfl rfl (Nat.le_of_ble_eq_true rfl) ⟨Nat.le_of_ble_eq_true rfl, Nat.le_of_ble_eq_true rfl⟩ (fun r27 _ w28 => ?_)
          refine r_ws [(h0, .inr (8, [.ref h1, .ref h2, .ref h4, .int x1, .int x2, .long y0, .int x3, .int x4, .int x5, .int x6, .ref h5, .ref h6, .ref h7, .int x7, .int x8, .ref h8, .ref h9, .int x9, .ref h10, .int x10])), (h2, .inr (5, [.ref h12, .ref h13, .int x13, .int x14, .long y1, .long y2, .int x15])), (h1, .inr (6, [.ref h3, .ref h11, .int x11, .int x12])), (h3, .inl (gJ g, 48, .inr (.inl fm0)))] rfl ?_
          have gr27 := fb_rngL r27
          refine r_callVv 131 C dX9_paintNothing_131 [] [(h2, .inr (5, [.ref h12, .ref h13, .int x13, .int x14, .long y1, .long y2, .int x15]))] [(h0, .inr (8, [.ref h1, .ref h2, .ref h4, .int x1, .int x2, .long y0, .int x3, .int x4, .int x5, .int x6, .ref h5, .ref h6, .ref h7, .int x7, .int x8, .ref h8, .ref h9, .int x9, .ref h10, .int x10])), (h1, .inr (6, [.ref h3, .ref h11, .int x11, .int x12])), (h3, .inl (gJ g, 48, .inr (.inl fm0)))] (fun sz => c220_X6_goTo l g h2 r25 r27 h12 h13 x13 x14 y1 y2 x15 i_x13 i_x14 i_x15 sz) gX9_paintNothing_X6_goTo rfl ⟨rfl, rfl⟩ 2 (by decide) ⟨Nat.le_of_ble_eq_true rfl, Nat.le_of_ble_eq_true rfl⟩ 1 rfl rfl [1] [0, 2, 3] rfl rfl (by decide) (by decide) (by decide) rfl rfl (Nat.le_of_ble_eq_true rfl) ⟨Nat.le_of_ble_eq_true rfl, Nat.le_of_ble_eq_true rfl⟩ (fun  _ w29 => ?_)
          refine r_ws [(h0, .inr (8, [.ref h1, .ref h2, .ref h4, .int x1, .int x2, .long y0, .int x3, .int x4, .int x5, .int x6, .ref h5, .ref h6, .ref h7, .int x7, .int x8, .ref h8, .ref h9, .int x9, .ref h10, .int x10])), (h1, .inr (6, [.ref h3, .ref h11, .int x11, .int x12])), (h3, .inl (gJ g, 48, .inr (.inl fm0))), (h2, .inr (5, [.ref h12, .ref h13, .int x13, .int x14, .long r25, .long r27, .int x15]))] rfl ?_
          refine r_iconst 134 0 C dX9_paintNothing_134 (by decide) ?_
          exact r_iret 135 Rt dX9_paintNothing_135 (y0, x6, r25, r27) (show 0 = 0 ∧ 0 ≤ (Int32.toInt x6) ∧ (Int32.toInt x6) ≤ 1 from ⟨(by ((repeat' apply And.intro) <;> first | trivial | rfl | assumption | omega | decide | exact Or.inl rfl | exact Or.inr (Or.inl rfl) | exact Or.inr (Or.inr rfl))), i_x6.1, i_x6.2⟩) [0, 1, 3, 2] (by decide) rfl (Nat.le_of_ble_eq_true rfl) (Nat.le_of_ble_eq_true rfl)
        · skip
          have k30 : ¬ ((Int32.toInt x0) = 289) := fun h_9 => c23 ((fa_eq x0 289).mpr h_9)
          refine r_lookup 1 142 (off := 141) C dX9_paintNothing_1 (by decide) ((lv_osw c1 rfl).trans ((lv_osw c9 rfl).trans ((lv_osw c13 rfl).trans ((lv_osw c23 rfl).trans rfl)))) (by decide) ?_
          refine r_iconst 142 0 C dX9_paintNothing_142 (by decide) ?_
          exact r_iret 143 Rt dX9_paintNothing_143 (y0, x6, y1, y2) (show 0 = 0 ∧ 0 ≤ (Int32.toInt x6) ∧ (Int32.toInt x6) ≤ 1 from ⟨(by ((repeat' apply And.intro) <;> first | trivial | rfl | assumption | omega | decide | exact Or.inl rfl | exact Or.inr (Or.inl rfl) | exact Or.inr (Or.inr rfl))), i_x6.1, i_x6.2⟩) [0, 1, 2, 3] (by decide) rfl (Nat.le_of_ble_eq_true rfl) (Nat.le_of_ble_eq_true rfl)
set_option maxHeartbeats 4000000 in
set_option maxRecDepth 100000 in
theorem c259_X4_turningCurves (l : Launch) (g : GD) (h0 : Nat) (h1 : Nat) (h2 : Nat) (h3 : Nat) (h4 : Nat) (h5 : Nat) (x0 : Int32) (h6 : Nat) (x1 : Int32) (x2 : Int32) (y0 : Int64) (x3 : Int32) (x4 : Int32) (x5 : Int32) (x6 : Int32) (h7 : Nat) (h8 : Nat) (h9 : Nat) (x7 : Int32) (x8 : Int32) (h10 : Nat) (h11 : Nat) (x9 : Int32) (h12 : Nat) (x10 : Int32) (h13 : Nat) (x11 : Int32) (x12 : Int32) (x13 : Int32) (x14 : Int32) (y1 : Int64) (y2 : Int64) (x15 : Int32) (fm0 : Nat → Int64) (fn0 : Nat → Int32) (fm1 : Nat → Int64) (i_x0 : (0 ≤ (Int32.toInt x0) ∧ (Int32.toInt x0) ≤ 1)) (i_x6 : (0 ≤ (Int32.toInt x6) ∧ (Int32.toInt x6) ≤ 1)) (i_x7 : (0 ≤ (Int32.toInt x7) ∧ (Int32.toInt x7) ≤ 10)) (i_x8 : (0 ≤ (Int32.toInt x8) ∧ (Int32.toInt x8) ≤ 1)) (i_x9 : (0 ≤ (Int32.toInt x9) ∧ (Int32.toInt x9) ≤ 7)) (i_x10 : (0 ≤ (Int32.toInt x10) ∧ (Int32.toInt x10) ≤ 24)) (i_x11 : (0 ≤ (Int32.toInt x11) ∧ (Int32.toInt x11) ≤ 48)) (i_x12 : (0 ≤ (Int32.toInt x12) ∧ (Int32.toInt x12) ≤ 48)) (i_x13 : (0 ≤ (Int32.toInt x13) ∧ (Int32.toInt x13) ≤ 400)) (i_x14 : (0 ≤ (Int32.toInt x14) ∧ (Int32.toInt x14) ≤ 400)) (i_x15 : (0 ≤ (Int32.toInt x15) ∧ (Int32.toInt x15) ≤ 1)) (sz : Nat) : Met l yX4_turningCurves wsX4_turningCurves ({ frames := 2, cells := 0, slots := 0, locals := 55 }) (va_Pc [.ref h0, .int x0] (PW g [(h0, .inr (8, [.ref h1, .ref h2, .ref h6, .int x1, .int x2, .long y0, .int x3, .int x4, .int x5, .int x6, .ref h7, .ref h8, .ref h9, .int x7, .int x8, .ref h10, .ref h11, .int x9, .ref h12, .int x10])), (h1, .inr (6, [.ref h3, .ref h13, .int x11, .int x12])), (h2, .inr (5, [.ref h4, .ref h5, .int x13, .int x14, .long y1, .long y2, .int x15])), (h3, .inl (gJ g, 48, .inr (.inl fm0))), (h4, .inl (gB g, 400, .inl fn0)), (h5, .inl (gJ g, 2400, .inr (.inl fm1)))] sz)) (va_Qi (fun (r : Int32) (u : (Int32) × (Int64) × (Int64) × (Int32) × (Nat → Int32) × (Nat → Int64)) => 0 ≤ (Int32.toInt r) ∧ (Int32.toInt r) ≤ 6 ∧ 0 ≤ (Int32.toInt (u.1)) ∧ (Int32.toInt (u.1)) ≤ 400 ∧ 0 ≤ (Int32.toInt (u.2.2.2.1)) ∧ (Int32.toInt (u.2.2.2.1)) ≤ 1) (BW g (va_A [(h0, .inr (8, [.ref h1, .ref h2, .ref h6, .int x1, .int x2, .long y0, .int x3, .int x4, .int x5, .int x6, .ref h7, .ref h8, .ref h9, .int x7, .int x8, .ref h10, .ref h11, .int x9, .ref h12, .int x10])), (h1, .inr (6, [.ref h3, .ref h13, .int x11, .int x12])), (h2, .inr (5, [.ref h4, .ref h5, .int x13, .int x14, .long y1, .long y2, .int x15])), (h3, .inl (gJ g, 48, .inr (.inl fm0))), (h4, .inl (gB g, 400, .inl fn0)), (h5, .inl (gJ g, 2400, .inr (.inl fm1)))] sz) (fun u : (Int32) × (Int64) × (Int64) × (Int32) × (Nat → Int32) × (Nat → Int64) => [(h0, .inr (8, [.ref h1, .ref h2, .ref h6, .int x1, .int x2, .long y0, .int x3, .int x4, .int x5, .int x6, .ref h7, .ref h8, .ref h9, .int x7, .int x8, .ref h10, .ref h11, .int x9, .ref h12, .int x10])), (h1, .inr (6, [.ref h3, .ref h13, .int x11, .int x12])), (h2, .inr (5, [.ref h4, .ref h5, .int u.1, .int x14, .long u.2.1, .long u.2.2.1, .int u.2.2.2.1])), (h3, .inl (gJ g, 48, .inr (.inl fm0))), (h4, .inl (gB g, 400, .inl u.2.2.2.2.1)), (h5, .inl (gJ g, 2400, .inr (.inl u.2.2.2.2.2)))])) (va_A [(h0, .inr (8, [.ref h1, .ref h2, .ref h6, .int x1, .int x2, .long y0, .int x3, .int x4, .int x5, .int x6, .ref h7, .ref h8, .ref h9, .int x7, .int x8, .ref h10, .ref h11, .int x9, .ref h12, .int x10])), (h1, .inr (6, [.ref h3, .ref h13, .int x11, .int x12])), (h2, .inr (5, [.ref h4, .ref h5, .int x13, .int x14, .long y1, .long y2, .int x15])), (h3, .inl (gJ g, 48, .inr (.inl fm0))), (h4, .inl (gB g, 400, .inl fn0)), (h5, .inl (gJ g, 2400, .inr (.inl fm1)))] sz)) 0 0 (va_A [(h0, .inr (8, [.ref h1, .ref h2, .ref h6, .int x1, .int x2, .long y0, .int x3, .int x4, .int x5, .int x6, .ref h7, .ref h8, .ref h9, .int x7, .int x8, .ref h10, .ref h11, .int x9, .ref h12, .int x10])), (h1, .inr (6, [.ref h3, .ref h13, .int x11, .int x12])), (h2, .inr (5, [.ref h4, .ref h5, .int x13, .int x14, .long y1, .long y2, .int x15])), (h3, .inl (gJ g, 48, .inr (.inl fm0))), (h4, .inl (gB g, 400, .inl fn0)), (h5, .inl (gJ g, 2400, .inr (.inl fm1)))] sz) := by
  refine met_i RX4 (by decide) rfl rfl (Nat.le_of_ble_eq_true rfl) [(0, .ref h0), (1, .int x0)] rfl ?_
  intro p e s m args below meth c A Q C hnm Rt
  have hiX9 : ∀ w ∈ wsX90, w ∈ wsX4_turningCurves := fun w h => List.mem_cons_of_mem _ (List.mem_append_left _ (List.mem_append_left _ (List.mem_append_right _ (h))))
  refine r_aload_n 0 0 C dX4_turningCurves_0 rfl ?_
  refine r_get 1 C dX4_turningCurves_1 (k := 0) 0 rfl rfl hiX9 (by decide) rfl (mg 1 rfl) (Or.inl rfl) rfl ?_
  refine r_callVi 4 C dX4_turningCurves_4 [] [(h1, .inr (6, [.ref h3, .ref h13, .int x11, .int x12]))] [(h0, .inr (8, [.ref h1, .ref h2, .ref h6, .int x1, .int x2, .long y0, .int x3, .int x4, .int x5, .int x6, .ref h7, .ref h8, .ref h9, .int x7, .int x8, .ref h10, .ref h11, .int x9, .ref h12, .int x10])), (h2, .inr (5, [.ref h4, .ref h5, .int x13, .int x14, .long y1, .long y2, .int x15])), (h3, .inl (gJ g, 48, .inr (.inl fm0))), (h4, .inl (gB g, 400, .inl fn0)), (h5, .inl (gJ g, 2400, .inr (.inl fm1)))] (fun sz => c231_X7_size l g h1 h3 h13 x11 x12 i_x11 i_x12 sz) gX4_turningCurves_X7_size rfl ⟨rfl, rfl⟩ 0 (by decide) ⟨Nat.le_of_ble_eq_true rfl, Nat.le_of_ble_eq_true rfl⟩ 1 rfl rfl [1] [0, 2, 3, 4, 5] rfl rfl (by decide) (by decide) (by decide) rfl rfl (Nat.le_of_ble_eq_true rfl) ⟨Nat.le_of_ble_eq_true rfl, Nat.le_of_ble_eq_true rfl⟩ (fun r1 _ w2 => ?_)
  refine r_ws [(h0, .inr (8, [.ref h1, .ref h2, .ref h6, .int x1, .int x2, .long y0, .int x3, .int x4, .int x5, .int x6, .ref h7, .ref h8, .ref h9, .int x7, .int x8, .ref h10, .ref h11, .int x9, .ref h12, .int x10])), (h2, .inr (5, [.ref h4, .ref h5, .int x13, .int x14, .long y1, .long y2, .int x15])), (h3, .inl (gJ g, 48, .inr (.inl fm0))), (h4, .inl (gB g, 400, .inl fn0)), (h5, .inl (gJ g, 2400, .inr (.inl fm1))), (h1, .inr (6, [.ref h3, .ref h13, .int x11, .int x12]))] rfl ?_
  have p3 : x11 = r1 := (w2).symm
  subst p3
  refine r_istore_n 7 C dX4_turningCurves_7 [(2, .int x11), (0, .ref h0), (1, .int x0)] (by decide) rfl ?_
  refine r_iload_n 8 0 C dX4_turningCurves_8 rfl ?_
  refine r_iconst 9 4 C dX4_turningCurves_9 (by decide) ?_
  refine r_icmp_lt 10 20 C dX4_turningCurves_10 (by decide) (fun c4 => ?_) (fun c4 => ?_)
  · skip
    have k5 : (Int32.toInt x11) < 4 := (fa_lt x11 4).mp c4
    refine r_iconst 20 2 C dX4_turningCurves_20 (by decide) ?_
    exact r_iret 21 Rt dX4_turningCurves_21 (x13, y1, y2, x15, fn0, fm1) (show 0 ≤ (Int32.toInt 2) ∧ (Int32.toInt 2) ≤ 6 ∧ 0 ≤ (Int32.toInt x13) ∧ (Int32.toInt x13) ≤ 400 ∧ 0 ≤ (Int32.toInt x15) ∧ (Int32.toInt x15) ≤ 1 from ⟨(by ((repeat' apply And.intro) <;> first | trivial | rfl | assumption | omega | decide | exact Or.inl rfl | exact Or.inr (Or.inl rfl) | exact Or.inr (Or.inr rfl))), (by ((repeat' apply And.intro) <;> first | trivial | rfl | assumption | omega | decide | exact Or.inl rfl | exact Or.inr (Or.inl rfl) | exact Or.inr (Or.inr rfl))), i_x13.1, i_x13.2, i_x15.1, i_x15.2⟩) [0, 5, 1, 2, 3, 4] (by decide) rfl (Nat.le_of_ble_eq_true rfl) (Nat.le_of_ble_eq_true rfl)
  · skip
    have k6 : ¬ ((Int32.toInt x11) < 4) := fun h_9 => c4 ((fa_lt x11 4).mpr h_9)
    refine r_iload_n 13 0 C dX4_turningCurves_13 rfl ?_
    refine r_iconst 14 4 C dX4_turningCurves_14 (by decide) ?_
    obtain ⟨z7, ez7⟩ : ∃ z_9, x11 - x11 / 4 * 4 = z_9 := ⟨_, rfl⟩
    have tz7 : (Int32.toInt z7) = (Int32.toInt x11) % 4 := by rw [← ez7]; exact rem_nn (by omega) (n := 4) (by decide) (by decide)
    refine r_irem 15 z7 C dX4_turningCurves_15 (by decide) ez7 ?_
    refine r_iconst 16 1 C dX4_turningCurves_16 (by decide) ?_
    refine r_icmp_le 17 22 C dX4_turningCurves_17 (by decide) (fun c8 => ?_) (fun c8 => ?_)
    · skip
      have k9 : (Int32.toInt z7) ≤ 1 := (fa_le z7 1).mp c8
      refine r_iload_n 22 2 C dX4_turningCurves_22 rfl ?_
      refine r_istore_n 23 C dX4_turningCurves_23 [(3, .int x0), (2, .int x11), (0, .ref h0), (1, .int x0)] (by decide) rfl ?_
      refine r_iconst 24 0 C dX4_turningCurves_24 (by decide) ?_
      refine r_istore 25 C dX4_turningCurves_25 [(4, .int 0), (3, .int x0), (2, .int x11), (0, .ref h0), (1, .int x0)] (by decide) rfl ?_
      refine r_iconst 27 0 C dX4_turningCurves_27 (by decide) ?_
      refine r_istore 28 C dX4_turningCurves_28 [(5, .int 0), (4, .int 0), (3, .int x0), (2, .int x11), (0, .ref h0), (1, .int x0)] (by decide) rfl ?_
      have lp20 : ∀ (n19 : Nat) (z10 : Int32) (z11 : Int32) (z12 : Int32) (z13 : Int32) (z14 : Int64) (z15 : Int64) (z16 : Int32) (f17 : Nat → Int32) (f18 : Nat → Int64), (0 ≤ (Int32.toInt z10) ∧ (Int32.toInt z10) ≤ 48) → (0 ≤ (Int32.toInt z11) ∧ (Int32.toInt z11) ≤ 6) → (0 ≤ (Int32.toInt z12) ∧ (Int32.toInt z12) ≤ 1) → (0 ≤ (Int32.toInt z13) ∧ (Int32.toInt z13) ≤ 400) → (0 ≤ (Int32.toInt z16) ∧ (Int32.toInt z16) ≤ 1) → Int.toNat (48 - (Int32.toInt z10)) < n19 → WW p l e ({ frames := 2, cells := 0, slots := 0, locals := 55 } : Room) s m args below meth c A Q g 16 0 0 [(h0, .inr (8, [.ref h1, .ref h2, .ref h6, .int x1, .int x2, .long y0, .int x3, .int x4, .int x5, .int x6, .ref h7, .ref h8, .ref h9, .int x7, .int x8, .ref h10, .ref h11, .int x9, .ref h12, .int x10])), (h2, .inr (5, [.ref h4, .ref h5, .int z13, .int x14, .long z14, .long z15, .int z16])), (h3, .inl (gJ g, 48, .inr (.inl fm0))), (h4, .inl (gB g, 400, .inl f17)), (h5, .inl (gJ g, 2400, .inr (.inl f18))), (h1, .inr (6, [.ref h3, .ref h13, .int x11, .int x12]))] 30 [(5, .int z10), (4, .int z11), (3, .int z12), (2, .int x11), (0, .ref h0), (1, .int x0)] [] := by
        intro n19
        induction n19 with
        | zero => intro z10 z11 z12 z13 z14 z15 z16 f17 f18 i23 i24 i25 i26 i27 hm22; exact absurd hm22 (Nat.not_lt_zero _)
        | succ n19 ih21 =>
          intro z10 z11 z12 z13 z14 z15 z16 f17 f18 i23 i24 i25 i26 i27 hm22
          obtain ⟨i23a, i23b⟩ := i23
          obtain ⟨i24a, i24b⟩ := i24
          obtain ⟨i25a, i25b⟩ := i25
          obtain ⟨i26a, i26b⟩ := i26
          obtain ⟨i27a, i27b⟩ := i27
          have gz14 := fb_rngL z14
          have gz15 := fb_rngL z15
          refine r_iload 30 0 C dX4_turningCurves_30 rfl ?_
          refine r_iconst 32 4 C dX4_turningCurves_32 (by decide) ?_
          obtain ⟨z28, ez28⟩ : ∃ z_9, z10 + 4 = z_9 := ⟨_, rfl⟩
          have tz28 : (Int32.toInt z28) = (Int32.toInt z10) + 4 := by rw [← ez28]; exact fb_addIv (a := 0) (b := 48) (c := 4) (d := 4) ⟨i23a, i23b⟩ ⟨by decide, by decide⟩ (by decide) (by decide)
          refine r_iadd 33 z28 C dX4_turningCurves_33 ez28 ?_
          refine r_iload_n 34 3 C dX4_turningCurves_34 rfl ?_
          refine r_icmp_gt 35 179 C dX4_turningCurves_35 (by decide) (fun c29 => ?_) (fun c29 => ?_)
          · skip
            have k30 : (Int32.toInt x11) < (Int32.toInt z28) := (fa_lt x11 z28).mp c29
            refine r_iload 179 1 C dX4_turningCurves_179 rfl ?_
            exact r_iret 181 Rt dX4_turningCurves_181 (z13, z14, z15, z16, f17, f18) (show 0 ≤ (Int32.toInt z11) ∧ (Int32.toInt z11) ≤ 6 ∧ 0 ≤ (Int32.toInt z13) ∧ (Int32.toInt z13) ≤ 400 ∧ 0 ≤ (Int32.toInt z16) ∧ (Int32.toInt z16) ≤ 1 from ⟨(show _ ∧ _ from ⟨i24a, i24b⟩).1, (show _ ∧ _ from ⟨i24a, i24b⟩).2, (show _ ∧ _ from ⟨i26a, i26b⟩).1, (show _ ∧ _ from ⟨i26a, i26b⟩).2, (show _ ∧ _ from ⟨i27a, i27b⟩).1, (show _ ∧ _ from ⟨i27a, i27b⟩).2⟩) [0, 5, 1, 2, 3, 4] (by decide) rfl (Nat.le_of_ble_eq_true rfl) (Nat.le_of_ble_eq_true rfl)
          · skip
            have k31 : ¬ ((Int32.toInt x11) < (Int32.toInt z28)) := fun h_9 => c29 ((fa_lt x11 z28).mpr h_9)
            refine r_iload 38 1 C dX4_turningCurves_38 rfl ?_
            refine r_if_ne 40 179 C dX4_turningCurves_40 (by decide) (fun c32 => ?_) (fun c32 => ?_)
            · skip
              have k33 : ¬ ((Int32.toInt z11) = 0) := fun h_9 => c32 ((fa_eq z11 0).mpr h_9)
              refine r_iload 179 1 C dX4_turningCurves_179 rfl ?_
              exact r_iret 181 Rt dX4_turningCurves_181 (z13, z14, z15, z16, f17, f18) (show 0 ≤ (Int32.toInt z11) ∧ (Int32.toInt z11) ≤ 6 ∧ 0 ≤ (Int32.toInt z13) ∧ (Int32.toInt z13) ≤ 400 ∧ 0 ≤ (Int32.toInt z16) ∧ (Int32.toInt z16) ≤ 1 from ⟨(show _ ∧ _ from ⟨i24a, i24b⟩).1, (show _ ∧ _ from ⟨i24a, i24b⟩).2, (show _ ∧ _ from ⟨i26a, i26b⟩).1, (show _ ∧ _ from ⟨i26a, i26b⟩).2, (show _ ∧ _ from ⟨i27a, i27b⟩).1, (show _ ∧ _ from ⟨i27a, i27b⟩).2⟩) [0, 5, 1, 2, 3, 4] (by decide) rfl (Nat.le_of_ble_eq_true rfl) (Nat.le_of_ble_eq_true rfl)
            · skip
              have k34 : (Int32.toInt z11) = 0 := (fa_eq z11 0).mp c32
              refine r_aload_n 43 4 C dX4_turningCurves_43 rfl ?_
              refine r_get 44 C dX4_turningCurves_44 (k := 0) 0 rfl rfl hiX9 (by decide) rfl (mg 1 rfl) (Or.inl rfl) rfl ?_
              refine r_iload 47 0 C dX4_turningCurves_47 rfl ?_
              refine r_callVl 49 C dX4_turningCurves_49 [] [(h1, .inr (6, [.ref h3, .ref h13, .int x11, .int x12])), (h3, .inl (gJ g, 48, .inr (.inl fm0)))] [(h0, .inr (8, [.ref h1, .ref h2, .ref h6, .int x1, .int x2, .long y0, .int x3, .int x4, .int x5, .int x6, .ref h7, .ref h8, .ref h9, .int x7, .int x8, .ref h10, .ref h11, .int x9, .ref h12, .int x10])), (h2, .inr (5, [.ref h4, .ref h5, .int z13, .int x14, .long z14, .long z15, .int z16])), (h4, .inl (gB g, 400, .inl f17)), (h5, .inl (gJ g, 2400, .inr (.inl f18)))] (fun sz => c232_X7_get l g h1 h3 z10 h13 x11 x12 fm0 i_x11 i_x12 sz) gX4_turningCurves_X7_get rfl ⟨rfl, rfl⟩ 1 (by decide) ⟨Nat.le_of_ble_eq_true rfl, Nat.le_of_ble_eq_true rfl⟩ 5 rfl rfl [5, 2] [0, 1, 3, 4] rfl rfl (by decide) (by decide) (by decide) rfl rfl (Nat.le_of_ble_eq_true rfl) ⟨Nat.le_of_ble_eq_true rfl, Nat.le_of_ble_eq_true rfl⟩ (fun r35 _ w36 => ?_)
              refine r_ws [(h0, .inr (8, [.ref h1, .ref h2, .ref h6, .int x1, .int x2, .long y0, .int x3, .int x4, .int x5, .int x6, .ref h7, .ref h8, .ref h9, .int x7, .int x8, .ref h10, .ref h11, .int x9, .ref h12, .int x10])), (h2, .inr (5, [.ref h4, .ref h5, .int z13, .int x14, .long z14, .long z15, .int z16])), (h4, .inl (gB g, 400, .inl f17)), (h5, .inl (gJ g, 2400, .inr (.inl f18))), (h1, .inr (6, [.ref h3, .ref h13, .int x11, .int x12])), (h3, .inl (gJ g, 48, .inr (.inl fm0)))] rfl ?_
              have gr35 := fb_rngL r35
              refine r_lstore 52 C dX4_turningCurves_52 [(6, .long r35), (5, .int z10), (4, .int z11), (3, .int z12), (2, .int x11), (0, .ref h0), (1, .int x0)] (by decide) rfl ?_
              refine r_aload_n 54 5 C dX4_turningCurves_54 rfl ?_
              refine r_get 55 C dX4_turningCurves_55 (k := 0) 0 rfl rfl hiX9 (by decide) rfl (mg 1 rfl) (Or.inl rfl) rfl ?_
              refine r_iload 58 1 C dX4_turningCurves_58 rfl ?_
              refine r_iconst 60 1 C dX4_turningCurves_60 (by decide) ?_
              obtain ⟨z37, ez37⟩ : ∃ z_9, z10 + 1 = z_9 := ⟨_, rfl⟩
              have tz37 : (Int32.toInt z37) = (Int32.toInt z10) + 1 := by rw [← ez37]; exact fb_addIv (a := 0) (b := 48) (c := 1) (d := 1) ⟨i23a, i23b⟩ ⟨by decide, by decide⟩ (by decide) (by decide)
              refine r_iadd 61 z37 C dX4_turningCurves_61 ez37 ?_
              refine r_callVl 62 C dX4_turningCurves_62 [] [(h1, .inr (6, [.ref h3, .ref h13, .int x11, .int x12])), (h3, .inl (gJ g, 48, .inr (.inl fm0)))] [(h0, .inr (8, [.ref h1, .ref h2, .ref h6, .int x1, .int x2, .long y0, .int x3, .int x4, .int x5, .int x6, .ref h7, .ref h8, .ref h9, .int x7, .int x8, .ref h10, .ref h11, .int x9, .ref h12, .int x10])), (h2, .inr (5, [.ref h4, .ref h5, .int z13, .int x14, .long z14, .long z15, .int z16])), (h4, .inl (gB g, 400, .inl f17)), (h5, .inl (gJ g, 2400, .inr (.inl f18)))] (fun sz => c232_X7_get l g h1 h3 z37 h13 x11 x12 fm0 i_x11 i_x12 sz) gX4_turningCurves_X7_get rfl ⟨rfl, rfl⟩ 1 (by decide) ⟨Nat.le_of_ble_eq_true rfl, Nat.le_of_ble_eq_true rfl⟩ 4 rfl rfl [4, 5] [0, 1, 2, 3] rfl rfl (by decide) (by decide) (by decide) rfl rfl (Nat.le_of_ble_eq_true rfl) ⟨Nat.le_of_ble_eq_true rfl, Nat.le_of_ble_eq_true rfl⟩ (fun r38 _ w39 => ?_)
              refine r_ws [(h0, .inr (8, [.ref h1, .ref h2, .ref h6, .int x1, .int x2, .long y0, .int x3, .int x4, .int x5, .int x6, .ref h7, .ref h8, .ref h9, .int x7, .int x8, .ref h10, .ref h11, .int x9, .ref h12, .int x10])), (h2, .inr (5, [.ref h4, .ref h5, .int z13, .int x14, .long z14, .long z15, .int z16])), (h4, .inl (gB g, 400, .inl f17)), (h5, .inl (gJ g, 2400, .inr (.inl f18))), (h1, .inr (6, [.ref h3, .ref h13, .int x11, .int x12])), (h3, .inl (gJ g, 48, .inr (.inl fm0)))] rfl ?_
              have gr38 := fb_rngL r38
              refine r_lstore 65 C dX4_turningCurves_65 [(8, .long r38), (6, .long r35), (5, .int z10), (4, .int z11), (3, .int z12), (2, .int x11), (0, .ref h0), (1, .int x0)] (by decide) rfl ?_
              refine r_aload_n 67 6 C dX4_turningCurves_67 rfl ?_
              refine r_get 68 C dX4_turningCurves_68 (k := 0) 0 rfl rfl hiX9 (by decide) rfl (mg 1 rfl) (Or.inl rfl) rfl ?_
              refine r_iload 71 2 C dX4_turningCurves_71 rfl ?_
              refine r_iconst 73 2 C dX4_turningCurves_73 (by decide) ?_
              obtain ⟨z40, ez40⟩ : ∃ z_9, z10 + 2 = z_9 := ⟨_, rfl⟩
              have tz40 : (Int32.toInt z40) = (Int32.toInt z10) + 2 := by rw [← ez40]; exact fb_addIv (a := 0) (b := 48) (c := 2) (d := 2) ⟨i23a, i23b⟩ ⟨by decide, by decide⟩ (by decide) (by decide)
              refine r_iadd 74 z40 C dX4_turningCurves_74 ez40 ?_
              refine r_callVl 75 C dX4_turningCurves_75 [] [(h1, .inr (6, [.ref h3, .ref h13, .int x11, .int x12])), (h3, .inl (gJ g, 48, .inr (.inl fm0)))] [(h0, .inr (8, [.ref h1, .ref h2, .ref h6, .int x1, .int x2, .long y0, .int x3, .int x4, .int x5, .int x6, .ref h7, .ref h8, .ref h9, .int x7, .int x8, .ref h10, .ref h11, .int x9, .ref h12, .int x10])), (h2, .inr (5, [.ref h4, .ref h5, .int z13, .int x14, .long z14, .long z15, .int z16])), (h4, .inl (gB g, 400, .inl f17)), (h5, .inl (gJ g, 2400, .inr (.inl f18)))] (fun sz => c232_X7_get l g h1 h3 z40 h13 x11 x12 fm0 i_x11 i_x12 sz) gX4_turningCurves_X7_get rfl ⟨rfl, rfl⟩ 1 (by decide) ⟨Nat.le_of_ble_eq_true rfl, Nat.le_of_ble_eq_true rfl⟩ 4 rfl rfl [4, 5] [0, 1, 2, 3] rfl rfl (by decide) (by decide) (by decide) rfl rfl (Nat.le_of_ble_eq_true rfl) ⟨Nat.le_of_ble_eq_true rfl, Nat.le_of_ble_eq_true rfl⟩ (fun r41 _ w42 => ?_)
              refine r_ws [(h0, .inr (8, [.ref h1, .ref h2, .ref h6, .int x1, .int x2, .long y0, .int x3, .int x4, .int x5, .int x6, .ref h7, .ref h8, .ref h9, .int x7, .int x8, .ref h10, .ref h11, .int x9, .ref h12, .int x10])), (h2, .inr (5, [.ref h4, .ref h5, .int z13, .int x14, .long z14, .long z15, .int z16])), (h4, .inl (gB g, 400, .inl f17)), (h5, .inl (gJ g, 2400, .inr (.inl f18))), (h1, .inr (6, [.ref h3, .ref h13, .int x11, .int x12])), (h3, .inl (gJ g, 48, .inr (.inl fm0)))] rfl ?_
              have gr41 := fb_rngL r41
              refine r_lstore 78 C dX4_turningCurves_78 [(10, .long r41), (8, .long r38), (6, .long r35), (5, .int z10), (4, .int z11), (3, .int z12), (2, .int x11), (0, .ref h0), (1, .int x0)] (by decide) rfl ?_
              refine r_aload_n 80 7 C dX4_turningCurves_80 rfl ?_
              refine r_get 81 C dX4_turningCurves_81 (k := 0) 0 rfl rfl hiX9 (by decide) rfl (mg 1 rfl) (Or.inl rfl) rfl ?_
              refine r_iload 84 3 C dX4_turningCurves_84 rfl ?_
              refine r_iconst 86 3 C dX4_turningCurves_86 (by decide) ?_
              obtain ⟨z43, ez43⟩ : ∃ z_9, z10 + 3 = z_9 := ⟨_, rfl⟩
              have tz43 : (Int32.toInt z43) = (Int32.toInt z10) + 3 := by rw [← ez43]; exact fb_addIv (a := 0) (b := 48) (c := 3) (d := 3) ⟨i23a, i23b⟩ ⟨by decide, by decide⟩ (by decide) (by decide)
              refine r_iadd 87 z43 C dX4_turningCurves_87 ez43 ?_
              refine r_callVl 88 C dX4_turningCurves_88 [] [(h1, .inr (6, [.ref h3, .ref h13, .int x11, .int x12])), (h3, .inl (gJ g, 48, .inr (.inl fm0)))] [(h0, .inr (8, [.ref h1, .ref h2, .ref h6, .int x1, .int x2, .long y0, .int x3, .int x4, .int x5, .int x6, .ref h7, .ref h8, .ref h9, .int x7, .int x8, .ref h10, .ref h11, .int x9, .ref h12, .int x10])), (h2, .inr (5, [.ref h4, .ref h5, .int z13, .int x14, .long z14, .long z15, .int z16])), (h4, .inl (gB g, 400, .inl f17)), (h5, .inl (gJ g, 2400, .inr (.inl f18)))] (fun sz => c232_X7_get l g h1 h3 z43 h13 x11 x12 fm0 i_x11 i_x12 sz) gX4_turningCurves_X7_get rfl ⟨rfl, rfl⟩ 1 (by decide) ⟨Nat.le_of_ble_eq_true rfl, Nat.le_of_ble_eq_true rfl⟩ 4 rfl rfl [4, 5] [0, 1, 2, 3] rfl rfl (by decide) (by decide) (by decide) rfl rfl (Nat.le_of_ble_eq_true rfl) ⟨Nat.le_of_ble_eq_true rfl, Nat.le_of_ble_eq_true rfl⟩ (fun r44 _ w45 => ?_)
              refine r_ws [(h0, .inr (8, [.ref h1, .ref h2, .ref h6, .int x1, .int x2, .long y0, .int x3, .int x4, .int x5, .int x6, .ref h7, .ref h8, .ref h9, .int x7, .int x8, .ref h10, .ref h11, .int x9, .ref h12, .int x10])), (h2, .inr (5, [.ref h4, .ref h5, .int z13, .int x14, .long z14, .long z15, .int z16])), (h4, .inl (gB g, 400, .inl f17)), (h5, .inl (gJ g, 2400, .inr (.inl f18))), (h1, .inr (6, [.ref h3, .ref h13, .int x11, .int x12])), (h3, .inl (gJ g, 48, .inr (.inl fm0)))] rfl ?_
              have gr44 := fb_rngL r44
              refine r_lstore 91 C dX4_turningCurves_91 [(12, .long r44), (10, .long r41), (8, .long r38), (6, .long r35), (5, .int z10), (4, .int z11), (3, .int z12), (2, .int x11), (0, .ref h0), (1, .int x0)] (by decide) rfl ?_
              refine r_iload 93 4 C dX4_turningCurves_93 rfl ?_
              refine r_iconst 95 5 C dX4_turningCurves_95 (by decide) ?_
              obtain ⟨z46, ez46⟩ : ∃ z_9, z10 + 5 = z_9 := ⟨_, rfl⟩
              have tz46 : (Int32.toInt z46) = (Int32.toInt z10) + 5 := by rw [← ez46]; exact fb_addIv (a := 0) (b := 48) (c := 5) (d := 5) ⟨i23a, i23b⟩ ⟨by decide, by decide⟩ (by decide) (by decide)
              refine r_iadd 96 z46 C dX4_turningCurves_96 ez46 ?_
              refine r_iload_n 97 7 C dX4_turningCurves_97 rfl ?_
              refine r_icmp_ne 98 115 C dX4_turningCurves_98 (by decide) (fun c47 => ?_) (fun c47 => ?_)
              · skip
                have k48 : ¬ ((Int32.toInt z46) = (Int32.toInt x11)) := fun h_9 => c47 ((fa_eq z46 x11).mpr h_9)
                refine r_lconst 115 0 C dX4_turningCurves_115 (by decide) ?_
                refine r_lstore 116 C dX4_turningCurves_116 [(14, .long 0), (12, .long r44), (10, .long r41), (8, .long r38), (6, .long r35), (5, .int z10), (4, .int z11), (3, .int z12), (2, .int x11), (0, .ref h0), (1, .int x0)] (by decide) rfl ?_
                refine r_iload_n 118 7 C dX4_turningCurves_118 rfl ?_
                refine r_if_eq 119 143 C dX4_turningCurves_119 (by decide) (fun c49 => ?_) (fun c49 => ?_)
                · skip
                  have k50 : (Int32.toInt z12) = 0 := (fa_eq z12 0).mp c49
                  refine r_aload_n 143 9 C dX4_turningCurves_143 rfl ?_
                  refine r_get 144 C dX4_turningCurves_144 (k := 1) 0 rfl rfl hiX9 (by decide) rfl (mg 2 rfl) (Or.inl rfl) rfl ?_
                  refine r_lconst 147 0 C dX4_turningCurves_147 (by decide) ?_
                  refine r_lload 148 4 C dX4_turningCurves_148 rfl ?_
                  refine r_lload 150 3 C dX4_turningCurves_150 rfl ?_
                  refine r_lload 152 2 C dX4_turningCurves_152 rfl ?_
                  refine r_lload 154 1 C dX4_turningCurves_154 rfl ?_
                  refine r_lload 156 0 C dX4_turningCurves_156 rfl ?_
                  refine r_callVi 158 C dX4_turningCurves_158 [] [(h2, .inr (5, [.ref h4, .ref h5, .int z13, .int x14, .long z14, .long z15, .int z16])), (h4, .inl (gB g, 400, .inl f17)), (h5, .inl (gJ g, 2400, .inr (.inl f18)))] [(h0, .inr (8, [.ref h1, .ref h2, .ref h6, .int x1, .int x2, .long y0, .int x3, .int x4, .int x5, .int x6, .ref h7, .ref h8, .ref h9, .int x7, .int x8, .ref h10, .ref h11, .int x9, .ref h12, .int x10])), (h1, .inr (6, [.ref h3, .ref h13, .int x11, .int x12])), (h3, .inl (gJ g, 48, .inr (.inl fm0)))] (fun sz => c246_X6_curveBy l g h2 h4 h5 0 r35 r38 r41 r44 0 z13 x14 z14 z15 z16 f17 f18 ⟨i26a, i26b⟩ i_x14 ⟨i27a, i27b⟩ sz) gX4_turningCurves_X6_curveBy rfl ⟨rfl, rfl⟩ 6 (by decide) ⟨Nat.le_of_ble_eq_true rfl, Nat.le_of_ble_eq_true rfl⟩ 1 rfl rfl [1, 2, 3] [0, 4, 5] rfl rfl (by decide) (by decide) (by decide) rfl rfl (Nat.le_of_ble_eq_true rfl) ⟨Nat.le_of_ble_eq_true rfl, Nat.le_of_ble_eq_true rfl⟩ (fun r56 u58 w57 => ?_)
                  obtain ⟨z51, z52, z53, f54, f55⟩ := u58
                  refine r_ws [(h0, .inr (8, [.ref h1, .ref h2, .ref h6, .int x1, .int x2, .long y0, .int x3, .int x4, .int x5, .int x6, .ref h7, .ref h8, .ref h9, .int x7, .int x8, .ref h10, .ref h11, .int x9, .ref h12, .int x10])), (h1, .inr (6, [.ref h3, .ref h13, .int x11, .int x12])), (h3, .inl (gJ g, 48, .inr (.inl fm0))), (h2, .inr (5, [.ref h4, .ref h5, .int z51, .int x14, .long z52, .long z53, .int 1])), (h4, .inl (gB g, 400, .inl f54)), (h5, .inl (gJ g, 2400, .inr (.inl f55)))] rfl ?_
                  have gz52 := fb_rngL z52
                  have gz53 := fb_rngL z53
                  have p59 : 0 ≤ (Int32.toInt r56) := w57.1
                  have p60 : (Int32.toInt r56) ≤ 6 := w57.2.1
                  have p61 : 0 ≤ (Int32.toInt z51) := w57.2.2.1
                  have p62 : (Int32.toInt z51) ≤ 400 := w57.2.2.2
                  refine r_istore 161 C dX4_turningCurves_161 [(4, .int r56), (14, .long 0), (12, .long r44), (10, .long r41), (8, .long r38), (6, .long r35), (5, .int z10), (3, .int z12), (2, .int x11), (0, .ref h0), (1, .int x0)] (by decide) rfl ?_
                  refine r_iload_n 163 7 C dX4_turningCurves_163 rfl ?_
                  refine r_if_ne_f 164 171 C dX4_turningCurves_164 (by decide) ((fa_eq z12 0).mpr (by show (Int32.toInt z12) = 0; omega)) ?_
                  refine r_iconst 167 1 C dX4_turningCurves_167 (by decide) ?_
                  refine r_goto 168 172 C dX4_turningCurves_168 (by decide) ?_
                  refine r_istore_n 172 C dX4_turningCurves_172 [(3, .int 1), (4, .int r56), (14, .long 0), (12, .long r44), (10, .long r41), (8, .long r38), (6, .long r35), (5, .int z10), (2, .int x11), (0, .ref h0), (1, .int x0)] (by decide) rfl ?_
                  obtain ⟨z63, ez63⟩ : ∃ z_9, z10 + Int32.ofInt 4 = z_9 := ⟨_, rfl⟩
                  have tz63 : (Int32.toInt z63) = (Int32.toInt z10) + 4 := by rw [← ez63]; exact fb_addIv (a := 0) (b := 48) (c := 4) (d := 4) ⟨i23a, i23b⟩ ⟨by decide, by decide⟩ (by decide) (by decide)
                  refine r_iinc 173 7 z63 C dX4_turningCurves_173 rfl ez63 [(5, .int z63), (3, .int 1), (4, .int r56), (14, .long 0), (12, .long r44), (10, .long r41), (8, .long r38), (6, .long r35), (2, .int x11), (0, .ref h0), (1, .int x0)] (by decide) rfl ?_
                  refine r_goto 176 30 C dX4_turningCurves_176 (by decide) ?_
                  refine r_lv [(5, .int z63), (4, .int r56), (3, .int 1), (2, .int x11), (0, .ref h0), (1, .int x0)] [0, 2, 1, 8, 9, 10] rfl ?_
                  refine r_pick [(h0, .inr (8, [.ref h1, .ref h2, .ref h6, .int x1, .int x2, .long y0, .int x3, .int x4, .int x5, .int x6, .ref h7, .ref h8, .ref h9, .int x7, .int x8, .ref h10, .ref h11, .int x9, .ref h12, .int x10])), (h2, .inr (5, [.ref h4, .ref h5, .int z51, .int x14, .long z52, .long z53, .int 1])), (h3, .inl (gJ g, 48, .inr (.inl fm0))), (h4, .inl (gB g, 400, .inl f54)), (h5, .inl (gJ g, 2400, .inr (.inl f55))), (h1, .inr (6, [.ref h3, .ref h13, .int x11, .int x12]))] [0, 3, 2, 4, 5, 1] (by decide) rfl ?_
                  exact ih21 z63 r56 1 z51 z52 z53 1 f54 f55 ⟨by omega, by omega⟩ ⟨p59, p60⟩ (by decide) ⟨p61, p62⟩ (by decide) (by omega)
                · skip
                  have k64 : ¬ ((Int32.toInt z12) = 0) := fun h_9 => c49 ((fa_eq z12 0).mpr h_9)
                  refine r_aload_n 122 9 C dX4_turningCurves_122 rfl ?_
                  refine r_get 123 C dX4_turningCurves_123 (k := 1) 0 rfl rfl hiX9 (by decide) rfl (mg 2 rfl) (Or.inl rfl) rfl ?_
                  refine r_lload 126 4 C dX4_turningCurves_126 rfl ?_
                  refine r_lconst 128 0 C dX4_turningCurves_128 (by decide) ?_
                  refine r_lload 129 3 C dX4_turningCurves_129 rfl ?_
                  refine r_lload 131 2 C dX4_turningCurves_131 rfl ?_
                  refine r_lload 133 0 C dX4_turningCurves_133 rfl ?_
                  refine r_lload 135 1 C dX4_turningCurves_135 rfl ?_
                  refine r_callVi 137 C dX4_turningCurves_137 [] [(h2, .inr (5, [.ref h4, .ref h5, .int z13, .int x14, .long z14, .long z15, .int z16])), (h4, .inl (gB g, 400, .inl f17)), (h5, .inl (gJ g, 2400, .inr (.inl f18)))] [(h0, .inr (8, [.ref h1, .ref h2, .ref h6, .int x1, .int x2, .long y0, .int x3, .int x4, .int x5, .int x6, .ref h7, .ref h8, .ref h9, .int x7, .int x8, .ref h10, .ref h11, .int x9, .ref h12, .int x10])), (h1, .inr (6, [.ref h3, .ref h13, .int x11, .int x12])), (h3, .inl (gJ g, 48, .inr (.inl fm0)))] (fun sz => c246_X6_curveBy l g h2 h4 h5 r35 0 r38 r41 0 r44 z13 x14 z14 z15 z16 f17 f18 ⟨i26a, i26b⟩ i_x14 ⟨i27a, i27b⟩ sz) gX4_turningCurves_X6_curveBy rfl ⟨rfl, rfl⟩ 6 (by decide) ⟨Nat.le_of_ble_eq_true rfl, Nat.le_of_ble_eq_true rfl⟩ 1 rfl rfl [1, 2, 3] [0, 4, 5] rfl rfl (by decide) (by decide) (by decide) rfl rfl (Nat.le_of_ble_eq_true rfl) ⟨Nat.le_of_ble_eq_true rfl, Nat.le_of_ble_eq_true rfl⟩ (fun r70 u72 w71 => ?_)
                  obtain ⟨z65, z66, z67, f68, f69⟩ := u72
                  refine r_ws [(h0, .inr (8, [.ref h1, .ref h2, .ref h6, .int x1, .int x2, .long y0, .int x3, .int x4, .int x5, .int x6, .ref h7, .ref h8, .ref h9, .int x7, .int x8, .ref h10, .ref h11, .int x9, .ref h12, .int x10])), (h1, .inr (6, [.ref h3, .ref h13, .int x11, .int x12])), (h3, .inl (gJ g, 48, .inr (.inl fm0))), (h2, .inr (5, [.ref h4, .ref h5, .int z65, .int x14, .long z66, .long z67, .int 1])), (h4, .inl (gB g, 400, .inl f68)), (h5, .inl (gJ g, 2400, .inr (.inl f69)))] rfl ?_
                  have gz66 := fb_rngL z66
                  have gz67 := fb_rngL z67
                  have p73 : 0 ≤ (Int32.toInt r70) := w71.1
                  have p74 : (Int32.toInt r70) ≤ 6 := w71.2.1
                  have p75 : 0 ≤ (Int32.toInt z65) := w71.2.2.1
                  have p76 : (Int32.toInt z65) ≤ 400 := w71.2.2.2
                  refine r_goto 140 161 C dX4_turningCurves_140 (by decide) ?_
                  refine r_istore 161 C dX4_turningCurves_161 [(4, .int r70), (14, .long 0), (12, .long r44), (10, .long r41), (8, .long r38), (6, .long r35), (5, .int z10), (3, .int z12), (2, .int x11), (0, .ref h0), (1, .int x0)] (by decide) rfl ?_
                  refine r_iload_n 163 7 C dX4_turningCurves_163 rfl ?_
                  refine r_if_ne_t 164 171 C dX4_turningCurves_164 (by decide) (fun h_9 => by have h_8 : (Int32.toInt z12) = 0 := (fa_eq z12 0).mp h_9; omega) ?_
                  refine r_iconst 171 0 C dX4_turningCurves_171 (by decide) ?_
                  refine r_istore_n 172 C dX4_turningCurves_172 [(3, .int 0), (4, .int r70), (14, .long 0), (12, .long r44), (10, .long r41), (8, .long r38), (6, .long r35), (5, .int z10), (2, .int x11), (0, .ref h0), (1, .int x0)] (by decide) rfl ?_
                  obtain ⟨z77, ez77⟩ : ∃ z_9, z10 + Int32.ofInt 4 = z_9 := ⟨_, rfl⟩
                  have tz77 : (Int32.toInt z77) = (Int32.toInt z10) + 4 := by rw [← ez77]; exact fb_addIv (a := 0) (b := 48) (c := 4) (d := 4) ⟨i23a, i23b⟩ ⟨by decide, by decide⟩ (by decide) (by decide)
                  refine r_iinc 173 7 z77 C dX4_turningCurves_173 rfl ez77 [(5, .int z77), (3, .int 0), (4, .int r70), (14, .long 0), (12, .long r44), (10, .long r41), (8, .long r38), (6, .long r35), (2, .int x11), (0, .ref h0), (1, .int x0)] (by decide) rfl ?_
                  refine r_goto 176 30 C dX4_turningCurves_176 (by decide) ?_
                  refine r_lv [(5, .int z77), (4, .int r70), (3, .int 0), (2, .int x11), (0, .ref h0), (1, .int x0)] [0, 2, 1, 8, 9, 10] rfl ?_
                  refine r_pick [(h0, .inr (8, [.ref h1, .ref h2, .ref h6, .int x1, .int x2, .long y0, .int x3, .int x4, .int x5, .int x6, .ref h7, .ref h8, .ref h9, .int x7, .int x8, .ref h10, .ref h11, .int x9, .ref h12, .int x10])), (h2, .inr (5, [.ref h4, .ref h5, .int z65, .int x14, .long z66, .long z67, .int 1])), (h3, .inl (gJ g, 48, .inr (.inl fm0))), (h4, .inl (gB g, 400, .inl f68)), (h5, .inl (gJ g, 2400, .inr (.inl f69))), (h1, .inr (6, [.ref h3, .ref h13, .int x11, .int x12]))] [0, 3, 2, 4, 5, 1] (by decide) rfl ?_
                  exact ih21 z77 r70 0 z65 z66 z67 1 f68 f69 ⟨by omega, by omega⟩ ⟨p73, p74⟩ (by decide) ⟨p75, p76⟩ (by decide) (by omega)
              · skip
                have k78 : (Int32.toInt z46) = (Int32.toInt x11) := (fa_eq z46 x11).mp c47
                refine r_aload_n 101 8 C dX4_turningCurves_101 rfl ?_
                refine r_get 102 C dX4_turningCurves_102 (k := 0) 0 rfl rfl hiX9 (by decide) rfl (mg 1 rfl) (Or.inl rfl) rfl ?_
                refine r_iload 105 4 C dX4_turningCurves_105 rfl ?_
                refine r_iconst 107 4 C dX4_turningCurves_107 (by decide) ?_
                obtain ⟨z79, ez79⟩ : ∃ z_9, z10 + 4 = z_9 := ⟨_, rfl⟩
                have tz79 : (Int32.toInt z79) = (Int32.toInt z10) + 4 := by rw [← ez79]; exact fb_addIv (a := 0) (b := 48) (c := 4) (d := 4) ⟨i23a, i23b⟩ ⟨by decide, by decide⟩ (by decide) (by decide)
                refine r_iadd 108 z79 C dX4_turningCurves_108 ez79 ?_
                refine r_callVl 109 C dX4_turningCurves_109 [] [(h1, .inr (6, [.ref h3, .ref h13, .int x11, .int x12])), (h3, .inl (gJ g, 48, .inr (.inl fm0)))] [(h0, .inr (8, [.ref h1, .ref h2, .ref h6, .int x1, .int x2, .long y0, .int x3, .int x4, .int x5, .int x6, .ref h7, .ref h8, .ref h9, .int x7, .int x8, .ref h10, .ref h11, .int x9, .ref h12, .int x10])), (h2, .inr (5, [.ref h4, .ref h5, .int z13, .int x14, .long z14, .long z15, .int z16])), (h4, .inl (gB g, 400, .inl f17)), (h5, .inl (gJ g, 2400, .inr (.inl f18)))] (fun sz => c232_X7_get l g h1 h3 z79 h13 x11 x12 fm0 i_x11 i_x12 sz) gX4_turningCurves_X7_get rfl ⟨rfl, rfl⟩ 1 (by decide) ⟨Nat.le_of_ble_eq_true rfl, Nat.le_of_ble_eq_true rfl⟩ 4 rfl rfl [4, 5] [0, 1, 2, 3] rfl rfl (by decide) (by decide) (by decide) rfl rfl (Nat.le_of_ble_eq_true rfl) ⟨Nat.le_of_ble_eq_true rfl, Nat.le_of_ble_eq_true rfl⟩ (fun r80 _ w81 => ?_)
                refine r_ws [(h0, .inr (8, [.ref h1, .ref h2, .ref h6, .int x1, .int x2, .long y0, .int x3, .int x4, .int x5, .int x6, .ref h7, .ref h8, .ref h9, .int x7, .int x8, .ref h10, .ref h11, .int x9, .ref h12, .int x10])), (h2, .inr (5, [.ref h4, .ref h5, .int z13, .int x14, .long z14, .long z15, .int z16])), (h4, .inl (gB g, 400, .inl f17)), (h5, .inl (gJ g, 2400, .inr (.inl f18))), (h1, .inr (6, [.ref h3, .ref h13, .int x11, .int x12])), (h3, .inl (gJ g, 48, .inr (.inl fm0)))] rfl ?_
                have gr80 := fb_rngL r80
                refine r_goto 112 116 C dX4_turningCurves_112 (by decide) ?_
                refine r_lstore 116 C dX4_turningCurves_116 [(14, .long r80), (12, .long r44), (10, .long r41), (8, .long r38), (6, .long r35), (5, .int z10), (4, .int z11), (3, .int z12), (2, .int x11), (0, .ref h0), (1, .int x0)] (by decide) rfl ?_
                refine r_iload_n 118 7 C dX4_turningCurves_118 rfl ?_
                refine r_if_eq 119 143 C dX4_turningCurves_119 (by decide) (fun c82 => ?_) (fun c82 => ?_)
                · skip
                  have k83 : (Int32.toInt z12) = 0 := (fa_eq z12 0).mp c82
                  refine r_aload_n 143 9 C dX4_turningCurves_143 rfl ?_
                  refine r_get 144 C dX4_turningCurves_144 (k := 1) 0 rfl rfl hiX9 (by decide) rfl (mg 2 rfl) (Or.inl rfl) rfl ?_
                  refine r_lconst 147 0 C dX4_turningCurves_147 (by decide) ?_
                  refine r_lload 148 4 C dX4_turningCurves_148 rfl ?_
                  refine r_lload 150 3 C dX4_turningCurves_150 rfl ?_
                  refine r_lload 152 2 C dX4_turningCurves_152 rfl ?_
                  refine r_lload 154 1 C dX4_turningCurves_154 rfl ?_
                  refine r_lload 156 0 C dX4_turningCurves_156 rfl ?_
                  refine r_callVi 158 C dX4_turningCurves_158 [] [(h2, .inr (5, [.ref h4, .ref h5, .int z13, .int x14, .long z14, .long z15, .int z16])), (h4, .inl (gB g, 400, .inl f17)), (h5, .inl (gJ g, 2400, .inr (.inl f18)))] [(h0, .inr (8, [.ref h1, .ref h2, .ref h6, .int x1, .int x2, .long y0, .int x3, .int x4, .int x5, .int x6, .ref h7, .ref h8, .ref h9, .int x7, .int x8, .ref h10, .ref h11, .int x9, .ref h12, .int x10])), (h1, .inr (6, [.ref h3, .ref h13, .int x11, .int x12])), (h3, .inl (gJ g, 48, .inr (.inl fm0)))] (fun sz => c246_X6_curveBy l g h2 h4 h5 0 r35 r38 r41 r44 r80 z13 x14 z14 z15 z16 f17 f18 ⟨i26a, i26b⟩ i_x14 ⟨i27a, i27b⟩ sz) gX4_turningCurves_X6_curveBy rfl ⟨rfl, rfl⟩ 6 (by decide) ⟨Nat.le_of_ble_eq_true rfl, Nat.le_of_ble_eq_true rfl⟩ 1 rfl rfl [1, 2, 3] [0, 4, 5] rfl rfl (by decide) (by decide) (by decide) rfl rfl (Nat.le_of_ble_eq_true rfl) ⟨Nat.le_of_ble_eq_true rfl, Nat.le_of_ble_eq_true rfl⟩ (fun r89 u91 w90 => ?_)
                  obtain ⟨z84, z85, z86, f87, f88⟩ := u91
                  refine r_ws [(h0, .inr (8, [.ref h1, .ref h2, .ref h6, .int x1, .int x2, .long y0, .int x3, .int x4, .int x5, .int x6, .ref h7, .ref h8, .ref h9, .int x7, .int x8, .ref h10, .ref h11, .int x9, .ref h12, .int x10])), (h1, .inr (6, [.ref h3, .ref h13, .int x11, .int x12])), (h3, .inl (gJ g, 48, .inr (.inl fm0))), (h2, .inr (5, [.ref h4, .ref h5, .int z84, .int x14, .long z85, .long z86, .int 1])), (h4, .inl (gB g, 400, .inl f87)), (h5, .inl (gJ g, 2400, .inr (.inl f88)))] rfl ?_
                  have gz85 := fb_rngL z85
                  have gz86 := fb_rngL z86
                  have p92 : 0 ≤ (Int32.toInt r89) := w90.1
                  have p93 : (Int32.toInt r89) ≤ 6 := w90.2.1
                  have p94 : 0 ≤ (Int32.toInt z84) := w90.2.2.1
                  have p95 : (Int32.toInt z84) ≤ 400 := w90.2.2.2
                  refine r_istore 161 C dX4_turningCurves_161 [(4, .int r89), (14, .long r80), (12, .long r44), (10, .long r41), (8, .long r38), (6, .long r35), (5, .int z10), (3, .int z12), (2, .int x11), (0, .ref h0), (1, .int x0)] (by decide) rfl ?_
                  refine r_iload_n 163 7 C dX4_turningCurves_163 rfl ?_
                  refine r_if_ne_f 164 171 C dX4_turningCurves_164 (by decide) ((fa_eq z12 0).mpr (by show (Int32.toInt z12) = 0; omega)) ?_
                  refine r_iconst 167 1 C dX4_turningCurves_167 (by decide) ?_
                  refine r_goto 168 172 C dX4_turningCurves_168 (by decide) ?_
                  refine r_istore_n 172 C dX4_turningCurves_172 [(3, .int 1), (4, .int r89), (14, .long r80), (12, .long r44), (10, .long r41), (8, .long r38), (6, .long r35), (5, .int z10), (2, .int x11), (0, .ref h0), (1, .int x0)] (by decide) rfl ?_
                  obtain ⟨z96, ez96⟩ : ∃ z_9, z10 + Int32.ofInt 4 = z_9 := ⟨_, rfl⟩
                  have tz96 : (Int32.toInt z96) = (Int32.toInt z10) + 4 := by rw [← ez96]; exact fb_addIv (a := 0) (b := 48) (c := 4) (d := 4) ⟨i23a, i23b⟩ ⟨by decide, by decide⟩ (by decide) (by decide)
                  refine r_iinc 173 7 z96 C dX4_turningCurves_173 rfl ez96 [(5, .int z96), (3, .int 1), (4, .int r89), (14, .long r80), (12, .long r44), (10, .long r41), (8, .long r38), (6, .long r35), (2, .int x11), (0, .ref h0), (1, .int x0)] (by decide) rfl ?_
                  refine r_goto 176 30 C dX4_turningCurves_176 (by decide) ?_
                  refine r_lv [(5, .int z96), (4, .int r89), (3, .int 1), (2, .int x11), (0, .ref h0), (1, .int x0)] [0, 2, 1, 8, 9, 10] rfl ?_
                  refine r_pick [(h0, .inr (8, [.ref h1, .ref h2, .ref h6, .int x1, .int x2, .long y0, .int x3, .int x4, .int x5, .int x6, .ref h7, .ref h8, .ref h9, .int x7, .int x8, .ref h10, .ref h11, .int x9, .ref h12, .int x10])), (h2, .inr (5, [.ref h4, .ref h5, .int z84, .int x14, .long z85, .long z86, .int 1])), (h3, .inl (gJ g, 48, .inr (.inl fm0))), (h4, .inl (gB g, 400, .inl f87)), (h5, .inl (gJ g, 2400, .inr (.inl f88))), (h1, .inr (6, [.ref h3, .ref h13, .int x11, .int x12]))] [0, 3, 2, 4, 5, 1] (by decide) rfl ?_
                  exact ih21 z96 r89 1 z84 z85 z86 1 f87 f88 ⟨by omega, by omega⟩ ⟨p92, p93⟩ (by decide) ⟨p94, p95⟩ (by decide) (by omega)
                · skip
                  have k97 : ¬ ((Int32.toInt z12) = 0) := fun h_9 => c82 ((fa_eq z12 0).mpr h_9)
                  refine r_aload_n 122 9 C dX4_turningCurves_122 rfl ?_
                  refine r_get 123 C dX4_turningCurves_123 (k := 1) 0 rfl rfl hiX9 (by decide) rfl (mg 2 rfl) (Or.inl rfl) rfl ?_
                  refine r_lload 126 4 C dX4_turningCurves_126 rfl ?_
                  refine r_lconst 128 0 C dX4_turningCurves_128 (by decide) ?_
                  refine r_lload 129 3 C dX4_turningCurves_129 rfl ?_
                  refine r_lload 131 2 C dX4_turningCurves_131 rfl ?_
                  refine r_lload 133 0 C dX4_turningCurves_133 rfl ?_
                  refine r_lload 135 1 C dX4_turningCurves_135 rfl ?_
                  refine r_callVi 137 C dX4_turningCurves_137 [] [(h2, .inr (5, [.ref h4, .ref h5, .int z13, .int x14, .long z14, .long z15, .int z16])), (h4, .inl (gB g, 400, .inl f17)), (h5, .inl (gJ g, 2400, .inr (.inl f18)))] [(h0, .inr (8, [.ref h1, .ref h2, .ref h6, .int x1, .int x2, .long y0, .int x3, .int x4, .int x5, .int x6, .ref h7, .ref h8, .ref h9, .int x7, .int x8, .ref h10, .ref h11, .int x9, .ref h12, .int x10])), (h1, .inr (6, [.ref h3, .ref h13, .int x11, .int x12])), (h3, .inl (gJ g, 48, .inr (.inl fm0)))] (fun sz => c246_X6_curveBy l g h2 h4 h5 r35 0 r38 r41 r80 r44 z13 x14 z14 z15 z16 f17 f18 ⟨i26a, i26b⟩ i_x14 ⟨i27a, i27b⟩ sz) gX4_turningCurves_X6_curveBy rfl ⟨rfl, rfl⟩ 6 (by decide) ⟨Nat.le_of_ble_eq_true rfl, Nat.le_of_ble_eq_true rfl⟩ 1 rfl rfl [1, 2, 3] [0, 4, 5] rfl rfl (by decide) (by decide) (by decide) rfl rfl (Nat.le_of_ble_eq_true rfl) ⟨Nat.le_of_ble_eq_true rfl, Nat.le_of_ble_eq_true rfl⟩ (fun r103 u105 w104 => ?_)
                  obtain ⟨z98, z99, z100, f101, f102⟩ := u105
                  refine r_ws [(h0, .inr (8, [.ref h1, .ref h2, .ref h6, .int x1, .int x2, .long y0, .int x3, .int x4, .int x5, .int x6, .ref h7, .ref h8, .ref h9, .int x7, .int x8, .ref h10, .ref h11, .int x9, .ref h12, .int x10])), (h1, .inr (6, [.ref h3, .ref h13, .int x11, .int x12])), (h3, .inl (gJ g, 48, .inr (.inl fm0))), (h2, .inr (5, [.ref h4, .ref h5, .int z98, .int x14, .long z99, .long z100, .int 1])), (h4, .inl (gB g, 400, .inl f101)), (h5, .inl (gJ g, 2400, .inr (.inl f102)))] rfl ?_
                  have gz99 := fb_rngL z99
                  have gz100 := fb_rngL z100
                  have p106 : 0 ≤ (Int32.toInt r103) := w104.1
                  have p107 : (Int32.toInt r103) ≤ 6 := w104.2.1
                  have p108 : 0 ≤ (Int32.toInt z98) := w104.2.2.1
                  have p109 : (Int32.toInt z98) ≤ 400 := w104.2.2.2
                  refine r_goto 140 161 C dX4_turningCurves_140 (by decide) ?_
                  refine r_istore 161 C dX4_turningCurves_161 [(4, .int r103), (14, .long r80), (12, .long r44), (10, .long r41), (8, .long r38), (6, .long r35), (5, .int z10), (3, .int z12), (2, .int x11), (0, .ref h0), (1, .int x0)] (by decide) rfl ?_
                  refine r_iload_n 163 7 C dX4_turningCurves_163 rfl ?_
                  refine r_if_ne_t 164 171 C dX4_turningCurves_164 (by decide) (fun h_9 => by have h_8 : (Int32.toInt z12) = 0 := (fa_eq z12 0).mp h_9; omega) ?_
                  refine r_iconst 171 0 C dX4_turningCurves_171 (by decide) ?_
                  refine r_istore_n 172 C dX4_turningCurves_172 [(3, .int 0), (4, .int r103), (14, .long r80), (12, .long r44), (10, .long r41), (8, .long r38), (6, .long r35), (5, .int z10), (2, .int x11), (0, .ref h0), (1, .int x0)] (by decide) rfl ?_
                  obtain ⟨z110, ez110⟩ : ∃ z_9, z10 + Int32.ofInt 4 = z_9 := ⟨_, rfl⟩
                  have tz110 : (Int32.toInt z110) = (Int32.toInt z10) + 4 := by rw [← ez110]; exact fb_addIv (a := 0) (b := 48) (c := 4) (d := 4) ⟨i23a, i23b⟩ ⟨by decide, by decide⟩ (by decide) (by decide)
                  refine r_iinc 173 7 z110 C dX4_turningCurves_173 rfl ez110 [(5, .int z110), (3, .int 0), (4, .int r103), (14, .long r80), (12, .long r44), (10, .long r41), (8, .long r38), (6, .long r35), (2, .int x11), (0, .ref h0), (1, .int x0)] (by decide) rfl ?_
                  refine r_goto 176 30 C dX4_turningCurves_176 (by decide) ?_
                  refine r_lv [(5, .int z110), (4, .int r103), (3, .int 0), (2, .int x11), (0, .ref h0), (1, .int x0)] [0, 2, 1, 8, 9, 10] rfl ?_
                  refine r_pick [(h0, .inr (8, [.ref h1, .ref h2, .ref h6, .int x1, .int x2, .long y0, .int x3, .int x4, .int x5, .int x6, .ref h7, .ref h8, .ref h9, .int x7, .int x8, .ref h10, .ref h11, .int x9, .ref h12, .int x10])), (h2, .inr (5, [.ref h4, .ref h5, .int z98, .int x14, .long z99, .long z100, .int 1])), (h3, .inl (gJ g, 48, .inr (.inl fm0))), (h4, .inl (gB g, 400, .inl f101)), (h5, .inl (gJ g, 2400, .inr (.inl f102))), (h1, .inr (6, [.ref h3, .ref h13, .int x11, .int x12]))] [0, 3, 2, 4, 5, 1] (by decide) rfl ?_
                  exact ih21 z110 r103 0 z98 z99 z100 1 f101 f102 ⟨by omega, by omega⟩ ⟨p106, p107⟩ (by decide) ⟨p108, p109⟩ (by decide) (by omega)
      exact lp20 _ 0 0 x0 x13 y1 y2 x15 fn0 fm1 (by decide) (by decide) i_x0 i_x13 i_x15 (Nat.lt_succ_self _)
    · skip
      have k111 : ¬ ((Int32.toInt z7) ≤ 1) := fun h_9 => c8 ((fa_le z7 1).mpr h_9)
      refine r_iconst 20 2 C dX4_turningCurves_20 (by decide) ?_
      exact r_iret 21 Rt dX4_turningCurves_21 (x13, y1, y2, x15, fn0, fm1) (show 0 ≤ (Int32.toInt 2) ∧ (Int32.toInt 2) ≤ 6 ∧ 0 ≤ (Int32.toInt x13) ∧ (Int32.toInt x13) ≤ 400 ∧ 0 ≤ (Int32.toInt x15) ∧ (Int32.toInt x15) ≤ 1 from ⟨(by ((repeat' apply And.intro) <;> first | trivial | rfl | assumption | omega | decide | exact Or.inl rfl | exact Or.inr (Or.inl rfl) | exact Or.inr (Or.inr rfl))), (by ((repeat' apply And.intro) <;> first | trivial | rfl | assumption | omega | decide | exact Or.inl rfl | exact Or.inr (Or.inl rfl) | exact Or.inr (Or.inr rfl))), i_x13.1, i_x13.2, i_x15.1, i_x15.2⟩) [0, 5, 1, 2, 3, 4] (by decide) rfl (Nat.le_of_ble_eq_true rfl) (Nat.le_of_ble_eq_true rfl)
set_option maxHeartbeats 4000000 in
set_option maxRecDepth 100000 in
theorem c260_X9_paint (l : Launch) (g : GD) (h0 : Nat) (h1 : Nat) (h2 : Nat) (h3 : Nat) (h4 : Nat) (h5 : Nat) (x0 : Int32) (h6 : Nat) (x1 : Int32) (x2 : Int32) (y0 : Int64) (x3 : Int32) (x4 : Int32) (x5 : Int32) (x6 : Int32) (h7 : Nat) (h8 : Nat) (h9 : Nat) (x7 : Int32) (x8 : Int32) (h10 : Nat) (h11 : Nat) (x9 : Int32) (h12 : Nat) (x10 : Int32) (h13 : Nat) (x11 : Int32) (x12 : Int32) (x13 : Int32) (x14 : Int32) (y1 : Int64) (y2 : Int64) (x15 : Int32) (fm0 : Nat → Int64) (fn0 : Nat → Int32) (fm1 : Nat → Int64) (i_x6 : (0 ≤ (Int32.toInt x6) ∧ (Int32.toInt x6) ≤ 1)) (i_x7 : (0 ≤ (Int32.toInt x7) ∧ (Int32.toInt x7) ≤ 10)) (i_x8 : (0 ≤ (Int32.toInt x8) ∧ (Int32.toInt x8) ≤ 1)) (i_x9 : (0 ≤ (Int32.toInt x9) ∧ (Int32.toInt x9) ≤ 7)) (i_x10 : (0 ≤ (Int32.toInt x10) ∧ (Int32.toInt x10) ≤ 24)) (i_x11 : (0 ≤ (Int32.toInt x11) ∧ (Int32.toInt x11) ≤ 48)) (i_x12 : (0 ≤ (Int32.toInt x12) ∧ (Int32.toInt x12) ≤ 48)) (i_x13 : (0 ≤ (Int32.toInt x13) ∧ (Int32.toInt x13) ≤ 400)) (i_x14 : (0 ≤ (Int32.toInt x14) ∧ (Int32.toInt x14) ≤ 400)) (i_x15 : (0 ≤ (Int32.toInt x15) ∧ (Int32.toInt x15) ≤ 1)) (sz : Nat) : Met l yX9_paint wsX9_paint ({ frames := 3, cells := 0, slots := 0, locals := 90 }) (va_Pc [.ref h0, .int x0] (PW g [(h0, .inr (8, [.ref h1, .ref h2, .ref h6, .int x1, .int x2, .long y0, .int x3, .int x4, .int x5, .int x6, .ref h7, .ref h8, .ref h9, .int x7, .int x8, .ref h10, .ref h11, .int x9, .ref h12, .int x10])), (h1, .inr (6, [.ref h3, .ref h13, .int x11, .int x12])), (h2, .inr (5, [.ref h4, .ref h5, .int x13, .int x14, .long y1, .long y2, .int x15])), (h3, .inl (gJ g, 48, .inr (.inl fm0))), (h4, .inl (gB g, 400, .inl fn0)), (h5, .inl (gJ g, 2400, .inr (.inl fm1)))] sz)) (va_Qi (fun (r : Int32) (u : (Int64) × (Int32) × (Int32) × (Int64) × (Int64) × (Int32) × (Nat → Int32) × (Nat → Int64)) => 0 ≤ (Int32.toInt r) ∧ (Int32.toInt r) ≤ 6 ∧ 0 ≤ (Int32.toInt (u.2.1)) ∧ (Int32.toInt (u.2.1)) ≤ 1 ∧ 0 ≤ (Int32.toInt (u.2.2.1)) ∧ (Int32.toInt (u.2.2.1)) ≤ 400 ∧ 0 ≤ (Int32.toInt (u.2.2.2.2.2.1)) ∧ (Int32.toInt (u.2.2.2.2.2.1)) ≤ 1) (BW g (va_A [(h0, .inr (8, [.ref h1, .ref h2, .ref h6, .int x1, .int x2, .long y0, .int x3, .int x4, .int x5, .int x6, .ref h7, .ref h8, .ref h9, .int x7, .int x8, .ref h10, .ref h11, .int x9, .ref h12, .int x10])), (h1, .inr (6, [.ref h3, .ref h13, .int x11, .int x12])), (h2, .inr (5, [.ref h4, .ref h5, .int x13, .int x14, .long y1, .long y2, .int x15])), (h3, .inl (gJ g, 48, .inr (.inl fm0))), (h4, .inl (gB g, 400, .inl fn0)), (h5, .inl (gJ g, 2400, .inr (.inl fm1)))] sz) (fun u : (Int64) × (Int32) × (Int32) × (Int64) × (Int64) × (Int32) × (Nat → Int32) × (Nat → Int64) => [(h0, .inr (8, [.ref h1, .ref h2, .ref h6, .int x1, .int x2, .long u.1, .int x3, .int x4, .int x5, .int u.2.1, .ref h7, .ref h8, .ref h9, .int x7, .int x8, .ref h10, .ref h11, .int x9, .ref h12, .int x10])), (h1, .inr (6, [.ref h3, .ref h13, .int x11, .int x12])), (h2, .inr (5, [.ref h4, .ref h5, .int u.2.2.1, .int x14, .long u.2.2.2.1, .long u.2.2.2.2.1, .int u.2.2.2.2.2.1])), (h3, .inl (gJ g, 48, .inr (.inl fm0))), (h4, .inl (gB g, 400, .inl u.2.2.2.2.2.2.1)), (h5, .inl (gJ g, 2400, .inr (.inl u.2.2.2.2.2.2.2)))])) (va_A [(h0, .inr (8, [.ref h1, .ref h2, .ref h6, .int x1, .int x2, .long y0, .int x3, .int x4, .int x5, .int x6, .ref h7, .ref h8, .ref h9, .int x7, .int x8, .ref h10, .ref h11, .int x9, .ref h12, .int x10])), (h1, .inr (6, [.ref h3, .ref h13, .int x11, .int x12])), (h2, .inr (5, [.ref h4, .ref h5, .int x13, .int x14, .long y1, .long y2, .int x15])), (h3, .inl (gJ g, 48, .inr (.inl fm0))), (h4, .inl (gB g, 400, .inl fn0)), (h5, .inl (gJ g, 2400, .inr (.inl fm1)))] sz)) 0 0 (va_A [(h0, .inr (8, [.ref h1, .ref h2, .ref h6, .int x1, .int x2, .long y0, .int x3, .int x4, .int x5, .int x6, .ref h7, .ref h8, .ref h9, .int x7, .int x8, .ref h10, .ref h11, .int x9, .ref h12, .int x10])), (h1, .inr (6, [.ref h3, .ref h13, .int x11, .int x12])), (h2, .inr (5, [.ref h4, .ref h5, .int x13, .int x14, .long y1, .long y2, .int x15])), (h3, .inl (gJ g, 48, .inr (.inl fm0))), (h4, .inl (gB g, 400, .inl fn0)), (h5, .inl (gJ g, 2400, .inr (.inl fm1)))] sz) := by
  refine met_i RX9 (by decide) rfl rfl (Nat.le_of_ble_eq_true rfl) [(0, .ref h0), (1, .int x0)] rfl ?_
  intro p e s m args below meth c A Q C hnm Rt
  have gx0 := fb_rng x0
  have hiX9 : ∀ w ∈ wsX90, w ∈ wsX9_paint := fun w h => List.mem_cons_of_mem _ (List.mem_append_left _ (List.mem_append_left _ (List.mem_append_right _ (h))))
  refine r_aload_n 0 0 C dX9_paint_0 rfl ?_
  refine r_get 1 C dX9_paint_1 (k := 0) 0 rfl rfl hiX9 (by decide) rfl (mg 1 rfl) (Or.inr (mg 2 rfl)) rfl ?_
  refine r_iconst 4 0 C dX9_paint_4 (by decide) ?_
  refine r_callVl 5 C dX9_paint_5 [] [(h1, .inr (6, [.ref h3, .ref h13, .int x11, .int x12])), (h3, .inl (gJ g, 48, .inr (.inl fm0)))] [(h0, .inr (8, [.ref h1, .ref h2, .ref h6, .int x1, .int x2, .long y0, .int x3, .int x4, .int x5, .int x6, .ref h7, .ref h8, .ref h9, .int x7, .int x8, .ref h10, .ref h11, .int x9, .ref h12, .int x10])), (h2, .inr (5, [.ref h4, .ref h5, .int x13, .int x14, .long y1, .long y2, .int x15])), (h4, .inl (gB g, 400, .inl fn0)), (h5, .inl (gJ g, 2400, .inr (.inl fm1)))] (fun sz => c232_X7_get l g h1 h3 0 h13 x11 x12 fm0 i_x11 i_x12 sz) gX9_paint_X7_get rfl ⟨rfl, rfl⟩ 1 (by decide) ⟨Nat.le_of_ble_eq_true rfl, Nat.le_of_ble_eq_true rfl⟩ 1 rfl rfl [1, 3] [0, 2, 4, 5] rfl rfl (by decide) (by decide) (by decide) rfl rfl (Nat.le_of_ble_eq_true rfl) ⟨Nat.le_of_ble_eq_true rfl, Nat.le_of_ble_eq_true rfl⟩ (fun r1 _ w2 => ?_)
  refine r_ws [(h0, .inr (8, [.ref h1, .ref h2, .ref h6, .int x1, .int x2, .long y0, .int x3, .int x4, .int x5, .int x6, .ref h7, .ref h8, .ref h9, .int x7, .int x8, .ref h10, .ref h11, .int x9, .ref h12, .int x10])), (h2, .inr (5, [.ref h4, .ref h5, .int x13, .int x14, .long y1, .long y2, .int x15])), (h4, .inl (gB g, 400, .inl fn0)), (h5, .inl (gJ g, 2400, .inr (.inl fm1))), (h1, .inr (6, [.ref h3, .ref h13, .int x11, .int x12])), (h3, .inl (gJ g, 48, .inr (.inl fm0)))] rfl ?_
  have gr1 := fb_rngL r1
  refine r_lstore_n 8 C dX9_paint_8 [(2, .long r1), (0, .ref h0), (1, .int x0)] (by decide) rfl ?_
  refine r_aload_n 9 1 C dX9_paint_9 rfl ?_
  refine r_get 10 C dX9_paint_10 (k := 0) 0 rfl rfl hiX9 (by decide) rfl (mg 1 rfl) (Or.inr (mg 2 rfl)) rfl ?_
  refine r_iconst 13 1 C dX9_paint_13 (by decide) ?_
  refine r_callVl 14 C dX9_paint_14 [] [(h1, .inr (6, [.ref h3, .ref h13, .int x11, .int x12])), (h3, .inl (gJ g, 48, .inr (.inl fm0)))] [(h0, .inr (8, [.ref h1, .ref h2, .ref h6, .int x1, .int x2, .long y0, .int x3, .int x4, .int x5, .int x6, .ref h7, .ref h8, .ref h9, .int x7, .int x8, .ref h10, .ref h11, .int x9, .ref h12, .int x10])), (h2, .inr (5, [.ref h4, .ref h5, .int x13, .int x14, .long y1, .long y2, .int x15])), (h4, .inl (gB g, 400, .inl fn0)), (h5, .inl (gJ g, 2400, .inr (.inl fm1)))] (fun sz => c232_X7_get l g h1 h3 1 h13 x11 x12 fm0 i_x11 i_x12 sz) gX9_paint_X7_get rfl ⟨rfl, rfl⟩ 1 (by decide) ⟨Nat.le_of_ble_eq_true rfl, Nat.le_of_ble_eq_true rfl⟩ 4 rfl rfl [4, 5] [0, 1, 2, 3] rfl rfl (by decide) (by decide) (by decide) rfl rfl (Nat.le_of_ble_eq_true rfl) ⟨Nat.le_of_ble_eq_true rfl, Nat.le_of_ble_eq_true rfl⟩ (fun r3 _ w4 => ?_)
  refine r_ws [(h0, .inr (8, [.ref h1, .ref h2, .ref h6, .int x1, .int x2, .long y0, .int x3, .int x4, .int x5, .int x6, .ref h7, .ref h8, .ref h9, .int x7, .int x8, .ref h10, .ref h11, .int x9, .ref h12, .int x10])), (h2, .inr (5, [.ref h4, .ref h5, .int x13, .int x14, .long y1, .long y2, .int x15])), (h4, .inl (gB g, 400, .inl fn0)), (h5, .inl (gJ g, 2400, .inr (.inl fm1))), (h1, .inr (6, [.ref h3, .ref h13, .int x11, .int x12])), (h3, .inl (gJ g, 48, .inr (.inl fm0)))] rfl ?_
  have gr3 := fb_rngL r3
  refine r_lstore 17 C dX9_paint_17 [(4, .long r3), (2, .long r1), (0, .ref h0), (1, .int x0)] (by decide) rfl ?_
  refine r_iload_n 19 3 C dX9_paint_19 rfl ?_
  by_cases c5 : x0 = 4
  · skip
    have k6 : (Int32.toInt x0) = 4 := (fa_eq x0 4).mp c5
    refine r_tableIn 20 148 4 C dX9_paint_20 c5 (by decide) (by decide) rfl (by decide) ?_
    refine r_aload_n 148 2 C dX9_paint_148 rfl ?_
    refine r_lconst 149 0 C dX9_paint_149 (by decide) ?_
    refine r_lload_n 150 1 C dX9_paint_150 rfl ?_
    refine r_callVi 151 C dX9_paint_151 [] [(h0, .inr (8, [.ref h1, .ref h2, .ref h6, .int x1, .int x2, .long y0, .int x3, .int x4, .int x5, .int x6, .ref h7, .ref h8, .ref h9, .int x7, .int x8, .ref h10, .ref h11, .int x9, .ref h12, .int x10])), (h2, .inr (5, [.ref h4, .ref h5, .int x13, .int x14, .long y1, .long y2, .int x15])), (h4, .inl (gB g, 400, .inl fn0)), (h5, .inl (gJ g, 2400, .inr (.inl fm1)))] [(h1, .inr (6, [.ref h3, .ref h13, .int x11, .int x12])), (h3, .inl (gJ g, 48, .inr (.inl fm0)))] (fun sz => c253_X9_move l g h0 h2 h4 h5 0 r1 h1 h6 x1 x2 y0 x3 x4 x5 x6 h7 h8 h9 x7 x8 h10 h11 x9 h12 x10 x13 x14 y1 y2 x15 fn0 fm1 i_x6 i_x7 i_x8 i_x9 i_x10 i_x13 i_x14 i_x15 sz) gX9_paint_X9_move rfl ⟨rfl, rfl⟩ 2 (by decide) ⟨Nat.le_of_ble_eq_true rfl, Nat.le_of_ble_eq_true rfl⟩ 0 rfl rfl [0, 1, 2, 3] [4, 5] rfl rfl (by decide) (by decide) (by decide) rfl rfl (Nat.le_of_ble_eq_true rfl) ⟨Nat.le_of_ble_eq_true rfl, Nat.le_of_ble_eq_true rfl⟩ (fun r13 u15 w14 => ?_)
    obtain ⟨z7, z8, z9, z10, f11, f12⟩ := u15
    refine r_ws [(h1, .inr (6, [.ref h3, .ref h13, .int x11, .int x12])), (h3, .inl (gJ g, 48, .inr (.inl fm0))), (h0, .inr (8, [.ref h1, .ref h2, .ref h6, .int x1, .int x2, .long y0, .int x3, .int x4, .int x5, .int x6, .ref h7, .ref h8, .ref h9, .int x7, .int x8, .ref h10, .ref h11, .int x9, .ref h12, .int x10])), (h2, .inr (5, [.ref h4, .ref h5, .int z7, .int x14, .long z8, .long z9, .int z10])), (h4, .inl (gB g, 400, .inl f11)), (h5, .inl (gJ g, 2400, .inr (.inl f12)))] rfl ?_
    have gz8 := fb_rngL z8
    have gz9 := fb_rngL z9
    have p16 : 0 ≤ (Int32.toInt r13) := w14.1
    have p17 : (Int32.toInt r13) ≤ 6 := w14.2.1
    have p18 : 0 ≤ (Int32.toInt z7) := w14.2.2.1
    have p19 : (Int32.toInt z7) ≤ 400 := w14.2.2.2.1
    have p20 : 0 ≤ (Int32.toInt z10) := w14.2.2.2.2.1
    have p21 : (Int32.toInt z10) ≤ 1 := w14.2.2.2.2.2
    exact r_iret 154 Rt dX9_paint_154 (y0, x6, z7, z8, z9, z10, f11, f12) (show 0 ≤ (Int32.toInt r13) ∧ (Int32.toInt r13) ≤ 6 ∧ 0 ≤ (Int32.toInt x6) ∧ (Int32.toInt x6) ≤ 1 ∧ 0 ≤ (Int32.toInt z7) ∧ (Int32.toInt z7) ≤ 400 ∧ 0 ≤ (Int32.toInt z10) ∧ (Int32.toInt z10) ≤ 1 from ⟨(show _ ∧ _ from ⟨p16, p17⟩).1, (show _ ∧ _ from ⟨p16, p17⟩).2, i_x6.1, i_x6.2, (show _ ∧ _ from ⟨p18, p19⟩).1, (show _ ∧ _ from ⟨p18, p19⟩).2, (show _ ∧ _ from ⟨p20, p21⟩).1, (show _ ∧ _ from ⟨p20, p21⟩).2⟩) [2, 0, 3, 1, 4, 5] (by decide) rfl (Nat.le_of_ble_eq_true rfl) (Nat.le_of_ble_eq_true rfl)
  · skip
    have k22 : ¬ ((Int32.toInt x0) = 4) := fun h_9 => c5 ((fa_eq x0 4).mpr h_9)
    by_cases c23 : x0 = 5
    · skip
      have k24 : (Int32.toInt x0) = 5 := (fa_eq x0 5).mp c23
      refine r_tableIn 20 155 5 C dX9_paint_20 c23 (by decide) (by decide) rfl (by decide) ?_
      refine r_aload_n 155 2 C dX9_paint_155 rfl ?_
      refine r_get 156 C dX9_paint_156 (k := 1) 0 rfl rfl hiX9 (by decide) rfl (mg 3 rfl) (Or.inr (mg 4 rfl)) rfl ?_
      refine r_lload_n 159 1 C dX9_paint_159 rfl ?_
      refine r_lload 160 0 C dX9_paint_160 rfl ?_
      refine r_callVi 162 C dX9_paint_162 [] [(h2, .inr (5, [.ref h4, .ref h5, .int x13, .int x14, .long y1, .long y2, .int x15])), (h4, .inl (gB g, 400, .inl fn0)), (h5, .inl (gJ g, 2400, .inr (.inl fm1)))] [(h0, .inr (8, [.ref h1, .ref h2, .ref h6, .int x1, .int x2, .long y0, .int x3, .int x4, .int x5, .int x6, .ref h7, .ref h8, .ref h9, .int x7, .int x8, .ref h10, .ref h11, .int x9, .ref h12, .int x10])), (h1, .inr (6, [.ref h3, .ref h13, .int x11, .int x12])), (h3, .inl (gJ g, 48, .inr (.inl fm0)))] (fun sz => c254_X6_lineBy l g h2 h4 h5 r1 r3 x13 x14 y1 y2 x15 fn0 fm1 i_x13 i_x14 i_x15 sz) gX9_paint_X6_lineBy rfl ⟨rfl, rfl⟩ 2 (by decide) ⟨Nat.le_of_ble_eq_true rfl, Nat.le_of_ble_eq_true rfl⟩ 1 rfl rfl [1, 2, 3] [0, 4, 5] rfl rfl (by decide) (by decide) (by decide) rfl rfl (Nat.le_of_ble_eq_true rfl) ⟨Nat.le_of_ble_eq_true rfl, Nat.le_of_ble_eq_true rfl⟩ (fun r30 u32 w31 => ?_)
      obtain ⟨z25, z26, z27, f28, f29⟩ := u32
      refine r_ws [(h0, .inr (8, [.ref h1, .ref h2, .ref h6, .int x1, .int x2, .long y0, .int x3, .int x4, .int x5, .int x6, .ref h7, .ref h8, .ref h9, .int x7, .int x8, .ref h10, .ref h11, .int x9, .ref h12, .int x10])), (h1, .inr (6, [.ref h3, .ref h13, .int x11, .int x12])), (h3, .inl (gJ g, 48, .inr (.inl fm0))), (h2, .inr (5, [.ref h4, .ref h5, .int z25, .int x14, .long z26, .long z27, .int 1])), (h4, .inl (gB g, 400, .inl f28)), (h5, .inl (gJ g, 2400, .inr (.inl f29)))] rfl ?_
      have gz26 := fb_rngL z26
      have gz27 := fb_rngL z27
      have p33 : 0 ≤ (Int32.toInt r30) := w31.1
      have p34 : (Int32.toInt r30) ≤ 6 := w31.2.1
      have p35 : 0 ≤ (Int32.toInt z25) := w31.2.2.1
      have p36 : (Int32.toInt z25) ≤ 400 := w31.2.2.2
      exact r_iret 165 Rt dX9_paint_165 (y0, x6, z25, z26, z27, 1, f28, f29) (show 0 ≤ (Int32.toInt r30) ∧ (Int32.toInt r30) ≤ 6 ∧ 0 ≤ (Int32.toInt x6) ∧ (Int32.toInt x6) ≤ 1 ∧ 0 ≤ (Int32.toInt z25) ∧ (Int32.toInt z25) ≤ 400 ∧ 0 ≤ (Int32.toInt 1) ∧ (Int32.toInt 1) ≤ 1 from ⟨(show _ ∧ _ from ⟨p33, p34⟩).1, (show _ ∧ _ from ⟨p33, p34⟩).2, i_x6.1, i_x6.2, (show _ ∧ _ from ⟨p35, p36⟩).1, (show _ ∧ _ from ⟨p35, p36⟩).2, (by ((repeat' apply And.intro) <;> first | trivial | rfl | assumption | omega | decide | exact Or.inl rfl | exact Or.inr (Or.inl rfl) | exact Or.inr (Or.inr rfl))), (by ((repeat' apply And.intro) <;> first | trivial | rfl | assumption | omega | decide | exact Or.inl rfl | exact Or.inr (Or.inl rfl) | exact Or.inr (Or.inr rfl)))⟩) [0, 1, 3, 2, 4, 5] (by decide) rfl (Nat.le_of_ble_eq_true rfl) (Nat.le_of_ble_eq_true rfl)
    · skip
      have k37 : ¬ ((Int32.toInt x0) = 5) := fun h_9 => c23 ((fa_eq x0 5).mpr h_9)
      by_cases c38 : x0 = 6
      · skip
        have k39 : (Int32.toInt x0) = 6 := (fa_eq x0 6).mp c38
        refine r_tableIn 20 166 6 C dX9_paint_20 c38 (by decide) (by decide) rfl (by decide) ?_
        refine r_aload_n 166 2 C dX9_paint_166 rfl ?_
        refine r_get 167 C dX9_paint_167 (k := 1) 0 rfl rfl hiX9 (by decide) rfl (mg 3 rfl) (Or.inr (mg 4 rfl)) rfl ?_
        refine r_lload_n 170 1 C dX9_paint_170 rfl ?_
        refine r_lconst 171 0 C dX9_paint_171 (by decide) ?_
        refine r_callVi 172 C dX9_paint_172 [] [(h2, .inr (5, [.ref h4, .ref h5, .int x13, .int x14, .long y1, .long y2, .int x15])), (h4, .inl (gB g, 400, .inl fn0)), (h5, .inl (gJ g, 2400, .inr (.inl fm1)))] [(h0, .inr (8, [.ref h1, .ref h2, .ref h6, .int x1, .int x2, .long y0, .int x3, .int x4, .int x5, .int x6, .ref h7, .ref h8, .ref h9, .int x7, .int x8, .ref h10, .ref h11, .int x9, .ref h12, .int x10])), (h1, .inr (6, [.ref h3, .ref h13, .int x11, .int x12])), (h3, .inl (gJ g, 48, .inr (.inl fm0)))] (fun sz => c254_X6_lineBy l g h2 h4 h5 r1 0 x13 x14 y1 y2 x15 fn0 fm1 i_x13 i_x14 i_x15 sz) gX9_paint_X6_lineBy rfl ⟨rfl, rfl⟩ 2 (by decide) ⟨Nat.le_of_ble_eq_true rfl, Nat.le_of_ble_eq_true rfl⟩ 1 rfl rfl [1, 2, 3] [0, 4, 5] rfl rfl (by decide) (by decide) (by decide) rfl rfl (Nat.le_of_ble_eq_true rfl) ⟨Nat.le_of_ble_eq_true rfl, Nat.le_of_ble_eq_true rfl⟩ (fun r45 u47 w46 => ?_)
        obtain ⟨z40, z41, z42, f43, f44⟩ := u47
        refine r_ws [(h0, .inr (8, [.ref h1, .ref h2, .ref h6, .int x1, .int x2, .long y0, .int x3, .int x4, .int x5, .int x6, .ref h7, .ref h8, .ref h9, .int x7, .int x8, .ref h10, .ref h11, .int x9, .ref h12, .int x10])), (h1, .inr (6, [.ref h3, .ref h13, .int x11, .int x12])), (h3, .inl (gJ g, 48, .inr (.inl fm0))), (h2, .inr (5, [.ref h4, .ref h5, .int z40, .int x14, .long z41, .long z42, .int 1])), (h4, .inl (gB g, 400, .inl f43)), (h5, .inl (gJ g, 2400, .inr (.inl f44)))] rfl ?_
        have gz41 := fb_rngL z41
        have gz42 := fb_rngL z42
        have p48 : 0 ≤ (Int32.toInt r45) := w46.1
        have p49 : (Int32.toInt r45) ≤ 6 := w46.2.1
        have p50 : 0 ≤ (Int32.toInt z40) := w46.2.2.1
        have p51 : (Int32.toInt z40) ≤ 400 := w46.2.2.2
        exact r_iret 175 Rt dX9_paint_175 (y0, x6, z40, z41, z42, 1, f43, f44) (show 0 ≤ (Int32.toInt r45) ∧ (Int32.toInt r45) ≤ 6 ∧ 0 ≤ (Int32.toInt x6) ∧ (Int32.toInt x6) ≤ 1 ∧ 0 ≤ (Int32.toInt z40) ∧ (Int32.toInt z40) ≤ 400 ∧ 0 ≤ (Int32.toInt 1) ∧ (Int32.toInt 1) ≤ 1 from ⟨(show _ ∧ _ from ⟨p48, p49⟩).1, (show _ ∧ _ from ⟨p48, p49⟩).2, i_x6.1, i_x6.2, (show _ ∧ _ from ⟨p50, p51⟩).1, (show _ ∧ _ from ⟨p50, p51⟩).2, (by ((repeat' apply And.intro) <;> first | trivial | rfl | assumption | omega | decide | exact Or.inl rfl | exact Or.inr (Or.inl rfl) | exact Or.inr (Or.inr rfl))), (by ((repeat' apply And.intro) <;> first | trivial | rfl | assumption | omega | decide | exact Or.inl rfl | exact Or.inr (Or.inl rfl) | exact Or.inr (Or.inr rfl)))⟩) [0, 1, 3, 2, 4, 5] (by decide) rfl (Nat.le_of_ble_eq_true rfl) (Nat.le_of_ble_eq_true rfl)
      · skip
        have k52 : ¬ ((Int32.toInt x0) = 6) := fun h_9 => c38 ((fa_eq x0 6).mpr h_9)
        by_cases c53 : x0 = 7
        · skip
          have k54 : (Int32.toInt x0) = 7 := (fa_eq x0 7).mp c53
          refine r_tableIn 20 176 7 C dX9_paint_20 c53 (by decide) (by decide) rfl (by decide) ?_
          refine r_aload_n 176 2 C dX9_paint_176 rfl ?_
          refine r_get 177 C dX9_paint_177 (k := 1) 0 rfl rfl hiX9 (by decide) rfl (mg 3 rfl) (Or.inr (mg 4 rfl)) rfl ?_
          refine r_lconst 180 0 C dX9_paint_180 (by decide) ?_
          refine r_lload_n 181 1 C dX9_paint_181 rfl ?_
          refine r_callVi 182 C dX9_paint_182 [] [(h2, .inr (5, [.ref h4, .ref h5, .int x13, .int x14, .long y1, .long y2, .int x15])), (h4, .inl (gB g, 400, .inl fn0)), (h5, .inl (gJ g, 2400, .inr (.inl fm1)))] [(h0, .inr (8, [.ref h1, .ref h2, .ref h6, .int x1, .int x2, .long y0, .int x3, .int x4, .int x5, .int x6, .ref h7, .ref h8, .ref h9, .int x7, .int x8, .ref h10, .ref h11, .int x9, .ref h12, .int x10])), (h1, .inr (6, [.ref h3, .ref h13, .int x11, .int x12])), (h3, .inl (gJ g, 48, .inr (.inl fm0)))] (fun sz => c254_X6_lineBy l g h2 h4 h5 0 r1 x13 x14 y1 y2 x15 fn0 fm1 i_x13 i_x14 i_x15 sz) gX9_paint_X6_lineBy rfl ⟨rfl, rfl⟩ 2 (by decide) ⟨Nat.le_of_ble_eq_true rfl, Nat.le_of_ble_eq_true rfl⟩ 1 rfl rfl [1, 2, 3] [0, 4, 5] rfl rfl (by decide) (by decide) (by decide) rfl rfl (Nat.le_of_ble_eq_true rfl) ⟨Nat.le_of_ble_eq_true rfl, Nat.le_of_ble_eq_true rfl⟩ (fun r60 u62 w61 => ?_)
          obtain ⟨z55, z56, z57, f58, f59⟩ := u62
          refine r_ws [(h0, .inr (8, [.ref h1, .ref h2, .ref h6, .int x1, .int x2, .long y0, .int x3, .int x4, .int x5, .int x6, .ref h7, .ref h8, .ref h9, .int x7, .int x8, .ref h10, .ref h11, .int x9, .ref h12, .int x10])), (h1, .inr (6, [.ref h3, .ref h13, .int x11, .int x12])), (h3, .inl (gJ g, 48, .inr (.inl fm0))), (h2, .inr (5, [.ref h4, .ref h5, .int z55, .int x14, .long z56, .long z57, .int 1])), (h4, .inl (gB g, 400, .inl f58)), (h5, .inl (gJ g, 2400, .inr (.inl f59)))] rfl ?_
          have gz56 := fb_rngL z56
          have gz57 := fb_rngL z57
          have p63 : 0 ≤ (Int32.toInt r60) := w61.1
          have p64 : (Int32.toInt r60) ≤ 6 := w61.2.1
          have p65 : 0 ≤ (Int32.toInt z55) := w61.2.2.1
          have p66 : (Int32.toInt z55) ≤ 400 := w61.2.2.2
          exact r_iret 185 Rt dX9_paint_185 (y0, x6, z55, z56, z57, 1, f58, f59) (show 0 ≤ (Int32.toInt r60) ∧ (Int32.toInt r60) ≤ 6 ∧ 0 ≤ (Int32.toInt x6) ∧ (Int32.toInt x6) ≤ 1 ∧ 0 ≤ (Int32.toInt z55) ∧ (Int32.toInt z55) ≤ 400 ∧ 0 ≤ (Int32.toInt 1) ∧ (Int32.toInt 1) ≤ 1 from ⟨(show _ ∧ _ from ⟨p63, p64⟩).1, (show _ ∧ _ from ⟨p63, p64⟩).2, i_x6.1, i_x6.2, (show _ ∧ _ from ⟨p65, p66⟩).1, (show _ ∧ _ from ⟨p65, p66⟩).2, (by ((repeat' apply And.intro) <;> first | trivial | rfl | assumption | omega | decide | exact Or.inl rfl | exact Or.inr (Or.inl rfl) | exact Or.inr (Or.inr rfl))), (by ((repeat' apply And.intro) <;> first | trivial | rfl | assumption | omega | decide | exact Or.inl rfl | exact Or.inr (Or.inl rfl) | exact Or.inr (Or.inr rfl)))⟩) [0, 1, 3, 2, 4, 5] (by decide) rfl (Nat.le_of_ble_eq_true rfl) (Nat.le_of_ble_eq_true rfl)
        · skip
          have k67 : ¬ ((Int32.toInt x0) = 7) := fun h_9 => c53 ((fa_eq x0 7).mpr h_9)
          by_cases c68 : x0 = 8
          · skip
            have k69 : (Int32.toInt x0) = 8 := (fa_eq x0 8).mp c68
            refine r_tableIn 20 186 8 C dX9_paint_20 c68 (by decide) (by decide) rfl (by decide) ?_
            refine r_aload_n 186 2 C dX9_paint_186 rfl ?_
            refine r_iconst 187 0 C dX9_paint_187 (by decide) ?_
            refine r_bipush 188 6 C dX9_paint_188 (by decide) ?_
            refine r_callUi 190 C dX9_paint_190 [] [(h0, .inr (8, [.ref h1, .ref h2, .ref h6, .int x1, .int x2, .long y0, .int x3, .int x4, .int x5, .int x6, .ref h7, .ref h8, .ref h9, .int x7, .int x8, .ref h10, .ref h11, .int x9, .ref h12, .int x10])), (h1, .inr (6, [.ref h3, .ref h13, .int x11, .int x12])), (h2, .inr (5, [.ref h4, .ref h5, .int x13, .int x14, .long y1, .long y2, .int x15])), (h3, .inl (gJ g, 48, .inr (.inl fm0))), (h4, .inl (gB g, 400, .inl fn0)), (h5, .inl (gJ g, 2400, .inr (.inl fm1)))] [] (fun sz => c255_X4_curves l g h0 h1 h2 h3 h4 h5 0 6 h6 x1 x2 y0 x3 x4 x5 x6 h7 h8 h9 x7 x8 h10 h11 x9 h12 x10 h13 x11 x12 x13 x14 y1 y2 x15 fm0 fn0 fm1 (by decide) (by decide) i_x6 i_x7 i_x8 i_x9 i_x10 i_x11 i_x12 i_x13 i_x14 i_x15 sz) gX9_paint_X4_curves_u102X9 rfl ⟨rfl, rfl⟩ 2 rfl (by decide) ⟨Nat.le_of_ble_eq_true rfl, Nat.le_of_ble_eq_true rfl⟩ 0 rfl rfl [0, 4, 1, 5, 2, 3] [] rfl rfl (by decide) (by decide) (by decide) rfl rfl (Nat.le_of_ble_eq_true rfl) ⟨Nat.le_of_ble_eq_true rfl, Nat.le_of_ble_eq_true rfl⟩ (fun r76 u78 w77 => ?_)
            obtain ⟨z70, z71, z72, z73, f74, f75⟩ := u78
            refine r_ws [(h0, .inr (8, [.ref h1, .ref h2, .ref h6, .int x1, .int x2, .long y0, .int x3, .int x4, .int x5, .int x6, .ref h7, .ref h8, .ref h9, .int x7, .int x8, .ref h10, .ref h11, .int x9, .ref h12, .int x10])), (h1, .inr (6, [.ref h3, .ref h13, .int x11, .int x12])), (h2, .inr (5, [.ref h4, .ref h5, .int z70, .int x14, .long z71, .long z72, .int z73])), (h3, .inl (gJ g, 48, .inr (.inl fm0))), (h4, .inl (gB g, 400, .inl f74)), (h5, .inl (gJ g, 2400, .inr (.inl f75)))] rfl ?_
            have gz71 := fb_rngL z71
            have gz72 := fb_rngL z72
            have p79 : 0 ≤ (Int32.toInt r76) := w77.1
            have p80 : (Int32.toInt r76) ≤ 6 := w77.2.1
            have p81 : 0 ≤ (Int32.toInt z70) := w77.2.2.1
            have p82 : (Int32.toInt z70) ≤ 400 := w77.2.2.2.1
            have p83 : 0 ≤ (Int32.toInt z73) := w77.2.2.2.2.1
            have p84 : (Int32.toInt z73) ≤ 1 := w77.2.2.2.2.2
            exact r_iret 193 Rt dX9_paint_193 (y0, x6, z70, z71, z72, z73, f74, f75) (show 0 ≤ (Int32.toInt r76) ∧ (Int32.toInt r76) ≤ 6 ∧ 0 ≤ (Int32.toInt x6) ∧ (Int32.toInt x6) ≤ 1 ∧ 0 ≤ (Int32.toInt z70) ∧ (Int32.toInt z70) ≤ 400 ∧ 0 ≤ (Int32.toInt z73) ∧ (Int32.toInt z73) ≤ 1 from ⟨(show _ ∧ _ from ⟨p79, p80⟩).1, (show _ ∧ _ from ⟨p79, p80⟩).2, i_x6.1, i_x6.2, (show _ ∧ _ from ⟨p81, p82⟩).1, (show _ ∧ _ from ⟨p81, p82⟩).2, (show _ ∧ _ from ⟨p83, p84⟩).1, (show _ ∧ _ from ⟨p83, p84⟩).2⟩) [0, 1, 2, 3, 4, 5] (by decide) rfl (Nat.le_of_ble_eq_true rfl) (Nat.le_of_ble_eq_true rfl)
          · skip
            have k85 : ¬ ((Int32.toInt x0) = 8) := fun h_9 => c68 ((fa_eq x0 8).mpr h_9)
            by_cases c86 : x0 = 9
            · skip
              have k87 : (Int32.toInt x0) = 9 := (fa_eq x0 9).mp c86
              refine r_tableIn 20 194 9 C dX9_paint_20 c86 (by decide) (by decide) rfl (by decide) ?_
              refine r_aload_n 194 2 C dX9_paint_194 rfl ?_
              refine r_get 195 C dX9_paint_195 (k := 1) 0 rfl rfl hiX9 (by decide) rfl (mg 3 rfl) (Or.inr (mg 4 rfl)) rfl ?_
              refine r_callVi 198 C dX9_paint_198 [] [(h2, .inr (5, [.ref h4, .ref h5, .int x13, .int x14, .long y1, .long y2, .int x15])), (h4, .inl (gB g, 400, .inl fn0)), (h5, .inl (gJ g, 2400, .inr (.inl fm1)))] [(h0, .inr (8, [.ref h1, .ref h2, .ref h6, .int x1, .int x2, .long y0, .int x3, .int x4, .int x5, .int x6, .ref h7, .ref h8, .ref h9, .int x7, .int x8, .ref h10, .ref h11, .int x9, .ref h12, .int x10])), (h1, .inr (6, [.ref h3, .ref h13, .int x11, .int x12])), (h3, .inl (gJ g, 48, .inr (.inl fm0)))] (fun sz => c256_X6_close l g h2 h4 h5 x13 x14 y1 y2 x15 fn0 fm1 i_x13 i_x14 i_x15 sz) gX9_paint_X6_close rfl ⟨rfl, rfl⟩ 0 (by decide) ⟨Nat.le_of_ble_eq_true rfl, Nat.le_of_ble_eq_true rfl⟩ 1 rfl rfl [1, 2, 3] [0, 4, 5] rfl rfl (by decide) (by decide) (by decide) rfl rfl (Nat.le_of_ble_eq_true rfl) ⟨Nat.le_of_ble_eq_true rfl, Nat.le_of_ble_eq_true rfl⟩ (fun r91 u93 w92 => ?_)
              obtain ⟨z88, f89, f90⟩ := u93
              refine r_ws [(h0, .inr (8, [.ref h1, .ref h2, .ref h6, .int x1, .int x2, .long y0, .int x3, .int x4, .int x5, .int x6, .ref h7, .ref h8, .ref h9, .int x7, .int x8, .ref h10, .ref h11, .int x9, .ref h12, .int x10])), (h1, .inr (6, [.ref h3, .ref h13, .int x11, .int x12])), (h3, .inl (gJ g, 48, .inr (.inl fm0))), (h2, .inr (5, [.ref h4, .ref h5, .int z88, .int x14, .long y1, .long y2, .int x15])), (h4, .inl (gB g, 400, .inl f89)), (h5, .inl (gJ g, 2400, .inr (.inl f90)))] rfl ?_
              have p94 : 0 ≤ (Int32.toInt r91) := w92.1
              have p95 : (Int32.toInt r91) ≤ 6 := w92.2.1
              have p96 : 0 ≤ (Int32.toInt z88) := w92.2.2.1
              have p97 : (Int32.toInt z88) ≤ 400 := w92.2.2.2
              exact r_iret 201 Rt dX9_paint_201 (y0, x6, z88, y1, y2, x15, f89, f90) (show 0 ≤ (Int32.toInt r91) ∧ (Int32.toInt r91) ≤ 6 ∧ 0 ≤ (Int32.toInt x6) ∧ (Int32.toInt x6) ≤ 1 ∧ 0 ≤ (Int32.toInt z88) ∧ (Int32.toInt z88) ≤ 400 ∧ 0 ≤ (Int32.toInt x15) ∧ (Int32.toInt x15) ≤ 1 from ⟨(show _ ∧ _ from ⟨p94, p95⟩).1, (show _ ∧ _ from ⟨p94, p95⟩).2, i_x6.1, i_x6.2, (show _ ∧ _ from ⟨p96, p97⟩).1, (show _ ∧ _ from ⟨p96, p97⟩).2, i_x15.1, i_x15.2⟩) [0, 1, 3, 2, 4, 5] (by decide) rfl (Nat.le_of_ble_eq_true rfl) (Nat.le_of_ble_eq_true rfl)
            · skip
              have k98 : ¬ ((Int32.toInt x0) = 9) := fun h_9 => c86 ((fa_eq x0 9).mpr h_9)
              by_cases c99 : x0 = 10
              · skip
                have k100 : (Int32.toInt x0) = 10 := (fa_eq x0 10).mp c99
                refine r_tableIn 20 229 10 C dX9_paint_20 c99 (by decide) (by decide) rfl (by decide) ?_
                refine r_aload_n 229 2 C dX9_paint_229 rfl ?_
                refine r_iload_n 230 3 C dX9_paint_230 rfl ?_
                refine r_callVi 231 C dX9_paint_231 [] [(h0, .inr (8, [.ref h1, .ref h2, .ref h6, .int x1, .int x2, .long y0, .int x3, .int x4, .int x5, .int x6, .ref h7, .ref h8, .ref h9, .int x7, .int x8, .ref h10, .ref h11, .int x9, .ref h12, .int x10])), (h1, .inr (6, [.ref h3, .ref h13, .int x11, .int x12])), (h2, .inr (5, [.ref h4, .ref h5, .int x13, .int x14, .long y1, .long y2, .int x15])), (h3, .inl (gJ g, 48, .inr (.inl fm0)))] [(h4, .inl (gB g, 400, .inl fn0)), (h5, .inl (gJ g, 2400, .inr (.inl fm1)))] (fun sz => c258_X9_paintNothing l g h0 h1 h2 h3 x0 h6 x1 x2 y0 x3 x4 x5 x6 h7 h8 h9 x7 x8 h10 h11 x9 h12 x10 h13 x11 x12 h4 h5 x13 x14 y1 y2 x15 fm0 i_x6 i_x7 i_x8 i_x9 i_x10 i_x11 i_x12 i_x13 i_x14 i_x15 sz) gX9_paint_X9_paintNothing rfl ⟨rfl, rfl⟩ 1 (by decide) ⟨Nat.le_of_ble_eq_true rfl, Nat.le_of_ble_eq_true rfl⟩ 0 rfl rfl [0, 4, 1, 5] [2, 3] rfl rfl (by decide) (by decide) (by decide) rfl rfl (Nat.le_of_ble_eq_true rfl) ⟨Nat.le_of_ble_eq_true rfl, Nat.le_of_ble_eq_true rfl⟩ (fun r105 u107 w106 => ?_)
                obtain ⟨z101, z102, z103, z104⟩ := u107
                refine r_ws [(h4, .inl (gB g, 400, .inl fn0)), (h5, .inl (gJ g, 2400, .inr (.inl fm1))), (h0, .inr (8, [.ref h1, .ref h2, .ref h6, .int x1, .int x2, .long z101, .int x3, .int x4, .int x5, .int z102, .ref h7, .ref h8, .ref h9, .int x7, .int x8, .ref h10, .ref h11, .int x9, .ref h12, .int x10])), (h1, .inr (6, [.ref h3, .ref h13, .int x11, .int x12])), (h2, .inr (5, [.ref h4, .ref h5, .int x13, .int x14, .long z103, .long z104, .int x15])), (h3, .inl (gJ g, 48, .inr (.inl fm0)))] rfl ?_
                have gz101 := fb_rngL z101
                have gz103 := fb_rngL z103
                have gz104 := fb_rngL z104
                have p108 : 0 = r105 := (w106.1).symm
                subst p108
                have p109 : 0 ≤ (Int32.toInt z102) := w106.2.1
                have p110 : (Int32.toInt z102) ≤ 1 := w106.2.2
                exact r_iret 234 Rt dX9_paint_234 (z101, z102, x13, z103, z104, x15, fn0, fm1) (show 0 ≤ (Int32.toInt 0) ∧ (Int32.toInt 0) ≤ 6 ∧ 0 ≤ (Int32.toInt z102) ∧ (Int32.toInt z102) ≤ 1 ∧ 0 ≤ (Int32.toInt x13) ∧ (Int32.toInt x13) ≤ 400 ∧ 0 ≤ (Int32.toInt x15) ∧ (Int32.toInt x15) ≤ 1 from ⟨(by ((repeat' apply And.intro) <;> first | trivial | rfl | assumption | omega | decide | exact Or.inl rfl | exact Or.inr (Or.inl rfl) | exact Or.inr (Or.inr rfl))), (by ((repeat' apply And.intro) <;> first | trivial | rfl | assumption | omega | decide | exact Or.inl rfl | exact Or.inr (Or.inl rfl) | exact Or.inr (Or.inr rfl))), (show _ ∧ _ from ⟨p109, p110⟩).1, (show _ ∧ _ from ⟨p109, p110⟩).2, i_x13.1, i_x13.2, i_x15.1, i_x15.2⟩) [2, 3, 4, 5, 0, 1] (by decide) rfl (Nat.le_of_ble_eq_true rfl) (Nat.le_of_ble_eq_true rfl)
              · skip
                have k111 : ¬ ((Int32.toInt x0) = 10) := fun h_9 => c99 ((fa_eq x0 10).mpr h_9)
                by_cases c112 : x0 = 11
                · skip
                  have k113 : (Int32.toInt x0) = 11 := (fa_eq x0 11).mp c112
                  refine r_tableIn 20 229 11 C dX9_paint_20 c112 (by decide) (by decide) rfl (by decide) ?_
                  refine r_aload_n 229 2 C dX9_paint_229 rfl ?_
                  refine r_iload_n 230 3 C dX9_paint_230 rfl ?_
                  refine r_callVi 231 C dX9_paint_231 [] [(h0, .inr (8, [.ref h1, .ref h2, .ref h6, .int x1, .int x2, .long y0, .int x3, .int x4, .int x5, .int x6, .ref h7, .ref h8, .ref h9, .int x7, .int x8, .ref h10, .ref h11, .int x9, .ref h12, .int x10])), (h1, .inr (6, [.ref h3, .ref h13, .int x11, .int x12])), (h2, .inr (5, [.ref h4, .ref h5, .int x13, .int x14, .long y1, .long y2, .int x15])), (h3, .inl (gJ g, 48, .inr (.inl fm0)))] [(h4, .inl (gB g, 400, .inl fn0)), (h5, .inl (gJ g, 2400, .inr (.inl fm1)))] (fun sz => c258_X9_paintNothing l g h0 h1 h2 h3 x0 h6 x1 x2 y0 x3 x4 x5 x6 h7 h8 h9 x7 x8 h10 h11 x9 h12 x10 h13 x11 x12 h4 h5 x13 x14 y1 y2 x15 fm0 i_x6 i_x7 i_x8 i_x9 i_x10 i_x11 i_x12 i_x13 i_x14 i_x15 sz) gX9_paint_X9_paintNothing rfl ⟨rfl, rfl⟩ 1 (by decide) ⟨Nat.le_of_ble_eq_true rfl, Nat.le_of_ble_eq_true rfl⟩ 0 rfl rfl [0, 4, 1, 5] [2, 3] rfl rfl (by decide) (by decide) (by decide) rfl rfl (Nat.le_of_ble_eq_true rfl) ⟨Nat.le_of_ble_eq_true rfl, Nat.le_of_ble_eq_true rfl⟩ (fun r118 u120 w119 => ?_)
                  obtain ⟨z114, z115, z116, z117⟩ := u120
                  refine r_ws [(h4, .inl (gB g, 400, .inl fn0)), (h5, .inl (gJ g, 2400, .inr (.inl fm1))), (h0, .inr (8, [.ref h1, .ref h2, .ref h6, .int x1, .int x2, .long z114, .int x3, .int x4, .int x5, .int z115, .ref h7, .ref h8, .ref h9, .int x7, .int x8, .ref h10, .ref h11, .int x9, .ref h12, .int x10])), (h1, .inr (6, [.ref h3, .ref h13, .int x11, .int x12])), (h2, .inr (5, [.ref h4, .ref h5, .int x13, .int x14, .long z116, .long z117, .int x15])), (h3, .inl (gJ g, 48, .inr (.inl fm0)))] rfl ?_
                  have gz114 := fb_rngL z114
                  have gz116 := fb_rngL z116
                  have gz117 := fb_rngL z117
                  have p121 : 0 = r118 := (w119.1).symm
                  subst p121
                  have p122 : 0 ≤ (Int32.toInt z115) := w119.2.1
                  have p123 : (Int32.toInt z115) ≤ 1 := w119.2.2
                  exact r_iret 234 Rt dX9_paint_234 (z114, z115, x13, z116, z117, x15, fn0, fm1) (show 0 ≤ (Int32.toInt 0) ∧ (Int32.toInt 0) ≤ 6 ∧ 0 ≤ (Int32.toInt z115) ∧ (Int32.toInt z115) ≤ 1 ∧ 0 ≤ (Int32.toInt x13) ∧ (Int32.toInt x13) ≤ 400 ∧ 0 ≤ (Int32.toInt x15) ∧ (Int32.toInt x15) ≤ 1 from ⟨(by ((repeat' apply And.intro) <;> first | trivial | rfl | assumption | omega | decide | exact Or.inl rfl | exact Or.inr (Or.inl rfl) | exact Or.inr (Or.inr rfl))), (by ((repeat' apply And.intro) <;> first | trivial | rfl | assumption | omega | decide | exact Or.inl rfl | exact Or.inr (Or.inl rfl) | exact Or.inr (Or.inr rfl))), (show _ ∧ _ from ⟨p122, p123⟩).1, (show _ ∧ _ from ⟨p122, p123⟩).2, i_x13.1, i_x13.2, i_x15.1, i_x15.2⟩) [2, 3, 4, 5, 0, 1] (by decide) rfl (Nat.le_of_ble_eq_true rfl) (Nat.le_of_ble_eq_true rfl)
                · skip
                  have k124 : ¬ ((Int32.toInt x0) = 11) := fun h_9 => c112 ((fa_eq x0 11).mpr h_9)
                  by_cases c125 : x0 = 12
                  · skip
                    have k126 : (Int32.toInt x0) = 12 := (fa_eq x0 12).mp c125
                    refine r_tableIn 20 229 12 C dX9_paint_20 c125 (by decide) (by decide) rfl (by decide) ?_
                    refine r_aload_n 229 2 C dX9_paint_229 rfl ?_
                    refine r_iload_n 230 3 C dX9_paint_230 rfl ?_
                    refine r_callVi 231 C dX9_paint_231 [] [(h0, .inr (8, [.ref h1, .ref h2, .ref h6, .int x1, .int x2, .long y0, .int x3, .int x4, .int x5, .int x6, .ref h7, .ref h8, .ref h9, .int x7, .int x8, .ref h10, .ref h11, .int x9, .ref h12, .int x10])), (h1, .inr (6, [.ref h3, .ref h13, .int x11, .int x12])), (h2, .inr (5, [.ref h4, .ref h5, .int x13, .int x14, .long y1, .long y2, .int x15])), (h3, .inl (gJ g, 48, .inr (.inl fm0)))] [(h4, .inl (gB g, 400, .inl fn0)), (h5, .inl (gJ g, 2400, .inr (.inl fm1)))] (fun sz => c258_X9_paintNothing l g h0 h1 h2 h3 x0 h6 x1 x2 y0 x3 x4 x5 x6 h7 h8 h9 x7 x8 h10 h11 x9 h12 x10 h13 x11 x12 h4 h5 x13 x14 y1 y2 x15 fm0 i_x6 i_x7 i_x8 i_x9 i_x10 i_x11 i_x12 i_x13 i_x14 i_x15 sz) gX9_paint_X9_paintNothing rfl ⟨rfl, rfl⟩ 1 (by decide) ⟨Nat.le_of_ble_eq_true rfl, Nat.le_of_ble_eq_true rfl⟩ 0 rfl rfl [0, 4, 1, 5] [2, 3] rfl rfl (by decide) (by decide) (by decide) rfl rfl (Nat.le_of_ble_eq_true rfl) ⟨Nat.le_of_ble_eq_true rfl, Nat.le_of_ble_eq_true rfl⟩ (fun r131 u133 w132 => ?_)
                    obtain ⟨z127, z128, z129, z130⟩ := u133
                    refine r_ws [(h4, .inl (gB g, 400, .inl fn0)), (h5, .inl (gJ g, 2400, .inr (.inl fm1))), (h0, .inr (8, [.ref h1, .ref h2, .ref h6, .int x1, .int x2, .long z127, .int x3, .int x4, .int x5, .int z128, .ref h7, .ref h8, .ref h9, .int x7, .int x8, .ref h10, .ref h11, .int x9, .ref h12, .int x10])), (h1, .inr (6, [.ref h3, .ref h13, .int x11, .int x12])), (h2, .inr (5, [.ref h4, .ref h5, .int x13, .int x14, .long z129, .long z130, .int x15])), (h3, .inl (gJ g, 48, .inr (.inl fm0)))] rfl ?_
                    have gz127 := fb_rngL z127
                    have gz129 := fb_rngL z129
                    have gz130 := fb_rngL z130
                    have p134 : 0 = r131 := (w132.1).symm
                    subst p134
                    have p135 : 0 ≤ (Int32.toInt z128) := w132.2.1
                    have p136 : (Int32.toInt z128) ≤ 1 := w132.2.2
                    exact r_iret 234 Rt dX9_paint_234 (z127, z128, x13, z129, z130, x15, fn0, fm1) (show 0 ≤ (Int32.toInt 0) ∧ (Int32.toInt 0) ≤ 6 ∧ 0 ≤ (Int32.toInt z128) ∧ (Int32.toInt z128) ≤ 1 ∧ 0 ≤ (Int32.toInt x13) ∧ (Int32.toInt x13) ≤ 400 ∧ 0 ≤ (Int32.toInt x15) ∧ (Int32.toInt x15) ≤ 1 from ⟨(by ((repeat' apply And.intro) <;> first | trivial | rfl | assumption | omega | decide | exact Or.inl rfl | exact Or.inr (Or.inl rfl) | exact Or.inr (Or.inr rfl))), (by ((repeat' apply And.intro) <;> first | trivial | rfl | assumption | omega | decide | exact Or.inl rfl | exact Or.inr (Or.inl rfl) | exact Or.inr (Or.inr rfl))), (show _ ∧ _ from ⟨p135, p136⟩).1, (show _ ∧ _ from ⟨p135, p136⟩).2, i_x13.1, i_x13.2, i_x15.1, i_x15.2⟩) [2, 3, 4, 5, 0, 1] (by decide) rfl (Nat.le_of_ble_eq_true rfl) (Nat.le_of_ble_eq_true rfl)
                  · skip
                    have k137 : ¬ ((Int32.toInt x0) = 12) := fun h_9 => c125 ((fa_eq x0 12).mpr h_9)
                    by_cases c138 : x0 = 13
                    · skip
                      have k139 : (Int32.toInt x0) = 13 := (fa_eq x0 13).mp c138
                      refine r_tableIn 20 229 13 C dX9_paint_20 c138 (by decide) (by decide) rfl (by decide) ?_
                      refine r_aload_n 229 2 C dX9_paint_229 rfl ?_
                      refine r_iload_n 230 3 C dX9_paint_230 rfl ?_
                      refine r_callVi 231 C dX9_paint_231 [] [(h0, .inr (8, [.ref h1, .ref h2, .ref h6, .int x1, .int x2, .long y0, .int x3, .int x4, .int x5, .int x6, .ref h7, .ref h8, .ref h9, .int x7, .int x8, .ref h10, .ref h11, .int x9, .ref h12, .int x10])), (h1, .inr (6, [.ref h3, .ref h13, .int x11, .int x12])), (h2, .inr (5, [.ref h4, .ref h5, .int x13, .int x14, .long y1, .long y2, .int x15])), (h3, .inl (gJ g, 48, .inr (.inl fm0)))] [(h4, .inl (gB g, 400, .inl fn0)), (h5, .inl (gJ g, 2400, .inr (.inl fm1)))] (fun sz => c258_X9_paintNothing l g h0 h1 h2 h3 x0 h6 x1 x2 y0 x3 x4 x5 x6 h7 h8 h9 x7 x8 h10 h11 x9 h12 x10 h13 x11 x12 h4 h5 x13 x14 y1 y2 x15 fm0 i_x6 i_x7 i_x8 i_x9 i_x10 i_x11 i_x12 i_x13 i_x14 i_x15 sz) gX9_paint_X9_paintNothing rfl ⟨rfl, rfl⟩ 1 (by decide) ⟨Nat.le_of_ble_eq_true rfl, Nat.le_of_ble_eq_true rfl⟩ 0 rfl rfl [0, 4, 1, 5] [2, 3] rfl rfl (by decide) (by decide) (by decide) rfl rfl (Nat.le_of_ble_eq_true rfl) ⟨Nat.le_of_ble_eq_true rfl, Nat.le_of_ble_eq_true rfl⟩ (fun r144 u146 w145 => ?_)
                      obtain ⟨z140, z141, z142, z143⟩ := u146
                      refine r_ws [(h4, .inl (gB g, 400, .inl fn0)), (h5, .inl (gJ g, 2400, .inr (.inl fm1))), (h0, .inr (8, [.ref h1, .ref h2, .ref h6, .int x1, .int x2, .long z140, .int x3, .int x4, .int x5, .int z141, .ref h7, .ref h8, .ref h9, .int x7, .int x8, .ref h10, .ref h11, .int x9, .ref h12, .int x10])), (h1, .inr (6, [.ref h3, .ref h13, .int x11, .int x12])), (h2, .inr (5, [.ref h4, .ref h5, .int x13, .int x14, .long z142, .long z143, .int x15])), (h3, .inl (gJ g, 48, .inr (.inl fm0)))] rfl ?_
                      have gz140 := fb_rngL z140
                      have gz142 := fb_rngL z142
                      have gz143 := fb_rngL z143
                      have p147 : 0 = r144 := (w145.1).symm
                      subst p147
                      have p148 : 0 ≤ (Int32.toInt z141) := w145.2.1
                      have p149 : (Int32.toInt z141) ≤ 1 := w145.2.2
                      exact r_iret 234 Rt dX9_paint_234 (z140, z141, x13, z142, z143, x15, fn0, fm1) (show 0 ≤ (Int32.toInt 0) ∧ (Int32.toInt 0) ≤ 6 ∧ 0 ≤ (Int32.toInt z141) ∧ (Int32.toInt z141) ≤ 1 ∧ 0 ≤ (Int32.toInt x13) ∧ (Int32.toInt x13) ≤ 400 ∧ 0 ≤ (Int32.toInt x15) ∧ (Int32.toInt x15) ≤ 1 from ⟨(by ((repeat' apply And.intro) <;> first | trivial | rfl | assumption | omega | decide | exact Or.inl rfl | exact Or.inr (Or.inl rfl) | exact Or.inr (Or.inr rfl))), (by ((repeat' apply And.intro) <;> first | trivial | rfl | assumption | omega | decide | exact Or.inl rfl | exact Or.inr (Or.inl rfl) | exact Or.inr (Or.inr rfl))), (show _ ∧ _ from ⟨p148, p149⟩).1, (show _ ∧ _ from ⟨p148, p149⟩).2, i_x13.1, i_x13.2, i_x15.1, i_x15.2⟩) [2, 3, 4, 5, 0, 1] (by decide) rfl (Nat.le_of_ble_eq_true rfl) (Nat.le_of_ble_eq_true rfl)
                    · skip
                      have k150 : ¬ ((Int32.toInt x0) = 13) := fun h_9 => c138 ((fa_eq x0 13).mpr h_9)
                      by_cases c151 : x0 = 14
                      · skip
                        have k152 : (Int32.toInt x0) = 14 := (fa_eq x0 14).mp c151
                        refine r_tableIn 20 229 14 C dX9_paint_20 c151 (by decide) (by decide) rfl (by decide) ?_
                        refine r_aload_n 229 2 C dX9_paint_229 rfl ?_
                        refine r_iload_n 230 3 C dX9_paint_230 rfl ?_
                        refine r_callVi 231 C dX9_paint_231 [] [(h0, .inr (8, [.ref h1, .ref h2, .ref h6, .int x1, .int x2, .long y0, .int x3, .int x4, .int x5, .int x6, .ref h7, .ref h8, .ref h9, .int x7, .int x8, .ref h10, .ref h11, .int x9, .ref h12, .int x10])), (h1, .inr (6, [.ref h3, .ref h13, .int x11, .int x12])), (h2, .inr (5, [.ref h4, .ref h5, .int x13, .int x14, .long y1, .long y2, .int x15])), (h3, .inl (gJ g, 48, .inr (.inl fm0)))] [(h4, .inl (gB g, 400, .inl fn0)), (h5, .inl (gJ g, 2400, .inr (.inl fm1)))] (fun sz => c258_X9_paintNothing l g h0 h1 h2 h3 x0 h6 x1 x2 y0 x3 x4 x5 x6 h7 h8 h9 x7 x8 h10 h11 x9 h12 x10 h13 x11 x12 h4 h5 x13 x14 y1 y2 x15 fm0 i_x6 i_x7 i_x8 i_x9 i_x10 i_x11 i_x12 i_x13 i_x14 i_x15 sz) gX9_paint_X9_paintNothing rfl ⟨rfl, rfl⟩ 1 (by decide) ⟨Nat.le_of_ble_eq_true rfl, Nat.le_of_ble_eq_true rfl⟩ 0 rfl rfl [0, 4, 1, 5] [2, 3] rfl rfl (by decide) (by decide) (by decide) rfl rfl (Nat.le_of_ble_eq_true rfl) ⟨Nat.le_of_ble_eq_true rfl, Nat.le_of_ble_eq_true rfl⟩ (fun r157 u159 w158 => ?_)
                        obtain ⟨z153, z154, z155, z156⟩ := u159
                        refine r_ws [(h4, .inl (gB g, 400, .inl fn0)), (h5, .inl (gJ g, 2400, .inr (.inl fm1))), (h0, .inr (8, [.ref h1, .ref h2, .ref h6, .int x1, .int x2, .long z153, .int x3, .int x4, .int x5, .int z154, .ref h7, .ref h8, .ref h9, .int x7, .int x8, .ref h10, .ref h11, .int x9, .ref h12, .int x10])), (h1, .inr (6, [.ref h3, .ref h13, .int x11, .int x12])), (h2, .inr (5, [.ref h4, .ref h5, .int x13, .int x14, .long z155, .long z156, .int x15])), (h3, .inl (gJ g, 48, .inr (.inl fm0)))] rfl ?_
                        have gz153 := fb_rngL z153
                        have gz155 := fb_rngL z155
                        have gz156 := fb_rngL z156
                        have p160 : 0 = r157 := (w158.1).symm
                        subst p160
                        have p161 : 0 ≤ (Int32.toInt z154) := w158.2.1
                        have p162 : (Int32.toInt z154) ≤ 1 := w158.2.2
                        exact r_iret 234 Rt dX9_paint_234 (z153, z154, x13, z155, z156, x15, fn0, fm1) (show 0 ≤ (Int32.toInt 0) ∧ (Int32.toInt 0) ≤ 6 ∧ 0 ≤ (Int32.toInt z154) ∧ (Int32.toInt z154) ≤ 1 ∧ 0 ≤ (Int32.toInt x13) ∧ (Int32.toInt x13) ≤ 400 ∧ 0 ≤ (Int32.toInt x15) ∧ (Int32.toInt x15) ≤ 1 from ⟨(by ((repeat' apply And.intro) <;> first | trivial | rfl | assumption | omega | decide | exact Or.inl rfl | exact Or.inr (Or.inl rfl) | exact Or.inr (Or.inr rfl))), (by ((repeat' apply And.intro) <;> first | trivial | rfl | assumption | omega | decide | exact Or.inl rfl | exact Or.inr (Or.inl rfl) | exact Or.inr (Or.inr rfl))), (show _ ∧ _ from ⟨p161, p162⟩).1, (show _ ∧ _ from ⟨p161, p162⟩).2, i_x13.1, i_x13.2, i_x15.1, i_x15.2⟩) [2, 3, 4, 5, 0, 1] (by decide) rfl (Nat.le_of_ble_eq_true rfl) (Nat.le_of_ble_eq_true rfl)
                      · skip
                        have k163 : ¬ ((Int32.toInt x0) = 14) := fun h_9 => c151 ((fa_eq x0 14).mpr h_9)
                        by_cases c164 : x0 = 15
                        · skip
                          have k165 : (Int32.toInt x0) = 15 := (fa_eq x0 15).mp c164
                          refine r_tableIn 20 229 15 C dX9_paint_20 c164 (by decide) (by decide) rfl (by decide) ?_
                          refine r_aload_n 229 2 C dX9_paint_229 rfl ?_
                          refine r_iload_n 230 3 C dX9_paint_230 rfl ?_
                          refine r_callVi 231 C dX9_paint_231 [] [(h0, .inr (8, [.ref h1, .ref h2, .ref h6, .int x1, .int x2, .long y0, .int x3, .int x4, .int x5, .int x6, .ref h7, .ref h8, .ref h9, .int x7, .int x8, .ref h10, .ref h11, .int x9, .ref h12, .int x10])), (h1, .inr (6, [.ref h3, .ref h13, .int x11, .int x12])), (h2, .inr (5, [.ref h4, .ref h5, .int x13, .int x14, .long y1, .long y2, .int x15])), (h3, .inl (gJ g, 48, .inr (.inl fm0)))] [(h4, .inl (gB g, 400, .inl fn0)), (h5, .inl (gJ g, 2400, .inr (.inl fm1)))] (fun sz => c258_X9_paintNothing l g h0 h1 h2 h3 x0 h6 x1 x2 y0 x3 x4 x5 x6 h7 h8 h9 x7 x8 h10 h11 x9 h12 x10 h13 x11 x12 h4 h5 x13 x14 y1 y2 x15 fm0 i_x6 i_x7 i_x8 i_x9 i_x10 i_x11 i_x12 i_x13 i_x14 i_x15 sz) gX9_paint_X9_paintNothing rfl ⟨rfl, rfl⟩ 1 (by decide) ⟨Nat.le_of_ble_eq_true rfl, Nat.le_of_ble_eq_true rfl⟩ 0 rfl rfl [0, 4, 1, 5] [2, 3] rfl rfl (by decide) (by decide) (by decide) rfl rfl (Nat.le_of_ble_eq_true rfl) ⟨Nat.le_of_ble_eq_true rfl, Nat.le_of_ble_eq_true rfl⟩ (fun r170 u172 w171 => ?_)
                          obtain ⟨z166, z167, z168, z169⟩ := u172
                          refine r_ws [(h4, .inl (gB g, 400, .inl fn0)), (h5, .inl (gJ g, 2400, .inr (.inl fm1))), (h0, .inr (8, [.ref h1, .ref h2, .ref h6, .int x1, .int x2, .long z166, .int x3, .int x4, .int x5, .int z167, .ref h7, .ref h8, .ref h9, .int x7, .int x8, .ref h10, .ref h11, .int x9, .ref h12, .int x10])), (h1, .inr (6, [.ref h3, .ref h13, .int x11, .int x12])), (h2, .inr (5, [.ref h4, .ref h5, .int x13, .int x14, .long z168, .long z169, .int x15])), (h3, .inl (gJ g, 48, .inr (.inl fm0)))] rfl ?_
                          have gz166 := fb_rngL z166
                          have gz168 := fb_rngL z168
                          have gz169 := fb_rngL z169
                          have p173 : 0 = r170 := (w171.1).symm
                          subst p173
                          have p174 : 0 ≤ (Int32.toInt z167) := w171.2.1
                          have p175 : (Int32.toInt z167) ≤ 1 := w171.2.2
                          exact r_iret 234 Rt dX9_paint_234 (z166, z167, x13, z168, z169, x15, fn0, fm1) (show 0 ≤ (Int32.toInt 0) ∧ (Int32.toInt 0) ≤ 6 ∧ 0 ≤ (Int32.toInt z167) ∧ (Int32.toInt z167) ≤ 1 ∧ 0 ≤ (Int32.toInt x13) ∧ (Int32.toInt x13) ≤ 400 ∧ 0 ≤ (Int32.toInt x15) ∧ (Int32.toInt x15) ≤ 1 from ⟨(by ((repeat' apply And.intro) <;> first | trivial | rfl | assumption | omega | decide | exact Or.inl rfl | exact Or.inr (Or.inl rfl) | exact Or.inr (Or.inr rfl))), (by ((repeat' apply And.intro) <;> first | trivial | rfl | assumption | omega | decide | exact Or.inl rfl | exact Or.inr (Or.inl rfl) | exact Or.inr (Or.inr rfl))), (show _ ∧ _ from ⟨p174, p175⟩).1, (show _ ∧ _ from ⟨p174, p175⟩).2, i_x13.1, i_x13.2, i_x15.1, i_x15.2⟩) [2, 3, 4, 5, 0, 1] (by decide) rfl (Nat.le_of_ble_eq_true rfl) (Nat.le_of_ble_eq_true rfl)
                        · skip
                          have k176 : ¬ ((Int32.toInt x0) = 15) := fun h_9 => c164 ((fa_eq x0 15).mpr h_9)
                          by_cases c177 : x0 = 16
                          · skip
                            have k178 : (Int32.toInt x0) = 16 := (fa_eq x0 16).mp c177
                            refine r_tableIn 20 229 16 C dX9_paint_20 c177 (by decide) (by decide) rfl (by decide) ?_
                            refine r_aload_n 229 2 C dX9_paint_229 rfl ?_
                            refine r_iload_n 230 3 C dX9_paint_230 rfl ?_
                            refine r_callVi 231 C dX9_paint_231 [] [(h0, .inr (8, [.ref h1, .ref h2, .ref h6, .int x1, .int x2, .long y0, .int x3, .int x4, .int x5, .int x6, .ref h7, .ref h8, .ref h9, .int x7, .int x8, .ref h10, .ref h11, .int x9, .ref h12, .int x10])), (h1, .inr (6, [.ref h3, .ref h13, .int x11, .int x12])), (h2, .inr (5, [.ref h4, .ref h5, .int x13, .int x14, .long y1, .long y2, .int x15])), (h3, .inl (gJ g, 48, .inr (.inl fm0)))] [(h4, .inl (gB g, 400, .inl fn0)), (h5, .inl (gJ g, 2400, .inr (.inl fm1)))] (fun sz => c258_X9_paintNothing l g h0 h1 h2 h3 x0 h6 x1 x2 y0 x3 x4 x5 x6 h7 h8 h9 x7 x8 h10 h11 x9 h12 x10 h13 x11 x12 h4 h5 x13 x14 y1 y2 x15 fm0 i_x6 i_x7 i_x8 i_x9 i_x10 i_x11 i_x12 i_x13 i_x14 i_x15 sz) gX9_paint_X9_paintNothing rfl ⟨rfl, rfl⟩ 1 (by decide) ⟨Nat.le_of_ble_eq_true rfl, Nat.le_of_ble_eq_true rfl⟩ 0 rfl rfl [0, 4, 1, 5] [2, 3] rfl rfl (by decide) (by decide) (by decide) rfl rfl (Nat.le_of_ble_eq_true rfl) ⟨Nat.le_of_ble_eq_true rfl, Nat.le_of_ble_eq_true rfl⟩ (fun r183 u185 w184 => ?_)
                            obtain ⟨z179, z180, z181, z182⟩ := u185
                            refine r_ws [(h4, .inl (gB g, 400, .inl fn0)), (h5, .inl (gJ g, 2400, .inr (.inl fm1))), (h0, .inr (8, [.ref h1, .ref h2, .ref h6, .int x1, .int x2, .long z179, .int x3, .int x4, .int x5, .int z180, .ref h7, .ref h8, .ref h9, .int x7, .int x8, .ref h10, .ref h11, .int x9, .ref h12, .int x10])), (h1, .inr (6, [.ref h3, .ref h13, .int x11, .int x12])), (h2, .inr (5, [.ref h4, .ref h5, .int x13, .int x14, .long z181, .long z182, .int x15])), (h3, .inl (gJ g, 48, .inr (.inl fm0)))] rfl ?_
                            have gz179 := fb_rngL z179
                            have gz181 := fb_rngL z181
                            have gz182 := fb_rngL z182
                            have p186 : 0 = r183 := (w184.1).symm
                            subst p186
                            have p187 : 0 ≤ (Int32.toInt z180) := w184.2.1
                            have p188 : (Int32.toInt z180) ≤ 1 := w184.2.2
                            exact r_iret 234 Rt dX9_paint_234 (z179, z180, x13, z181, z182, x15, fn0, fm1) (show 0 ≤ (Int32.toInt 0) ∧ (Int32.toInt 0) ≤ 6 ∧ 0 ≤ (Int32.toInt z180) ∧ (Int32.toInt z180) ≤ 1 ∧ 0 ≤ (Int32.toInt x13) ∧ (Int32.toInt x13) ≤ 400 ∧ 0 ≤ (Int32.toInt x15) ∧ (Int32.toInt x15) ≤ 1 from ⟨(by ((repeat' apply And.intro) <;> first | trivial | rfl | assumption | omega | decide | exact Or.inl rfl | exact Or.inr (Or.inl rfl) | exact Or.inr (Or.inr rfl))), (by ((repeat' apply And.intro) <;> first | trivial | rfl | assumption | omega | decide | exact Or.inl rfl | exact Or.inr (Or.inl rfl) | exact Or.inr (Or.inr rfl))), (show _ ∧ _ from ⟨p187, p188⟩).1, (show _ ∧ _ from ⟨p187, p188⟩).2, i_x13.1, i_x13.2, i_x15.1, i_x15.2⟩) [2, 3, 4, 5, 0, 1] (by decide) rfl (Nat.le_of_ble_eq_true rfl) (Nat.le_of_ble_eq_true rfl)
                          · skip
                            have k189 : ¬ ((Int32.toInt x0) = 16) := fun h_9 => c177 ((fa_eq x0 16).mpr h_9)
                            by_cases c190 : x0 = 17
                            · skip
                              have k191 : (Int32.toInt x0) = 17 := (fa_eq x0 17).mp c190
                              refine r_tableIn 20 229 17 C dX9_paint_20 c190 (by decide) (by decide) rfl (by decide) ?_
                              refine r_aload_n 229 2 C dX9_paint_229 rfl ?_
                              refine r_iload_n 230 3 C dX9_paint_230 rfl ?_
                              refine r_callVi 231 C dX9_paint_231 [] [(h0, .inr (8, [.ref h1, .ref h2, .ref h6, .int x1, .int x2, .long y0, .int x3, .int x4, .int x5, .int x6, .ref h7, .ref h8, .ref h9, .int x7, .int x8, .ref h10, .ref h11, .int x9, .ref h12, .int x10])), (h1, .inr (6, [.ref h3, .ref h13, .int x11, .int x12])), (h2, .inr (5, [.ref h4, .ref h5, .int x13, .int x14, .long y1, .long y2, .int x15])), (h3, .inl (gJ g, 48, .inr (.inl fm0)))] [(h4, .inl (gB g, 400, .inl fn0)), (h5, .inl (gJ g, 2400, .inr (.inl fm1)))] (fun sz => c258_X9_paintNothing l g h0 h1 h2 h3 x0 h6 x1 x2 y0 x3 x4 x5 x6 h7 h8 h9 x7 x8 h10 h11 x9 h12 x10 h13 x11 x12 h4 h5 x13 x14 y1 y2 x15 fm0 i_x6 i_x7 i_x8 i_x9 i_x10 i_x11 i_x12 i_x13 i_x14 i_x15 sz) gX9_paint_X9_paintNothing rfl ⟨rfl, rfl⟩ 1 (by decide) ⟨Nat.le_of_ble_eq_true rfl, Nat.le_of_ble_eq_true rfl⟩ 0 rfl rfl [0, 4, 1, 5] [2, 3] rfl rfl (by decide) (by decide) (by decide) rfl rfl (Nat.le_of_ble_eq_true rfl) ⟨Nat.le_of_ble_eq_true rfl, Nat.le_of_ble_eq_true rfl⟩ (fun r196 u198 w197 => ?_)
                              obtain ⟨z192, z193, z194, z195⟩ := u198
                              refine r_ws [(h4, .inl (gB g, 400, .inl fn0)), (h5, .inl (gJ g, 2400, .inr (.inl fm1))), (h0, .inr (8, [.ref h1, .ref h2, .ref h6, .int x1, .int x2, .long z192, .int x3, .int x4, .int x5, .int z193, .ref h7, .ref h8, .ref h9, .int x7, .int x8, .ref h10, .ref h11, .int x9, .ref h12, .int x10])), (h1, .inr (6, [.ref h3, .ref h13, .int x11, .int x12])), (h2, .inr (5, [.ref h4, .ref h5, .int x13, .int x14, .long z194, .long z195, .int x15])), (h3, .inl (gJ g, 48, .inr (.inl fm0)))] rfl ?_
                              have gz192 := fb_rngL z192
                              have gz194 := fb_rngL z194
                              have gz195 := fb_rngL z195
                              have p199 : 0 = r196 := (w197.1).symm
                              subst p199
                              have p200 : 0 ≤ (Int32.toInt z193) := w197.2.1
                              have p201 : (Int32.toInt z193) ≤ 1 := w197.2.2
                              exact r_iret 234 Rt dX9_paint_234 (z192, z193, x13, z194, z195, x15, fn0, fm1) (show 0 ≤ (Int32.toInt 0) ∧ (Int32.toInt 0) ≤ 6 ∧ 0 ≤ (Int32.toInt z193) ∧ (Int32.toInt z193) ≤ 1 ∧ 0 ≤ (Int32.toInt x13) ∧ (Int32.toInt x13) ≤ 400 ∧ 0 ≤ (Int32.toInt x15) ∧ (Int32.toInt x15) ≤ 1 from ⟨(by ((repeat' apply And.intro) <;> first | trivial | rfl | assumption | omega | decide | exact Or.inl rfl | exact Or.inr (Or.inl rfl) | exact Or.inr (Or.inr rfl))), (by ((repeat' apply And.intro) <;> first | trivial | rfl | assumption | omega | decide | exact Or.inl rfl | exact Or.inr (Or.inl rfl) | exact Or.inr (Or.inr rfl))), (show _ ∧ _ from ⟨p200, p201⟩).1, (show _ ∧ _ from ⟨p200, p201⟩).2, i_x13.1, i_x13.2, i_x15.1, i_x15.2⟩) [2, 3, 4, 5, 0, 1] (by decide) rfl (Nat.le_of_ble_eq_true rfl) (Nat.le_of_ble_eq_true rfl)
                            · skip
                              have k202 : ¬ ((Int32.toInt x0) = 17) := fun h_9 => c190 ((fa_eq x0 17).mpr h_9)
                              by_cases c203 : x0 = 18
                              · skip
                                have k204 : (Int32.toInt x0) = 18 := (fa_eq x0 18).mp c203
                                refine r_tableIn 20 229 18 C dX9_paint_20 c203 (by decide) (by decide) rfl (by decide) ?_
                                refine r_aload_n 229 2 C dX9_paint_229 rfl ?_
                                refine r_iload_n 230 3 C dX9_paint_230 rfl ?_
                                refine r_callVi 231 C dX9_paint_231 [] [(h0, .inr (8, [.ref h1, .ref h2, .ref h6, .int x1, .int x2, .long y0, .int x3, .int x4, .int x5, .int x6, .ref h7, .ref h8, .ref h9, .int x7, .int x8, .ref h10, .ref h11, .int x9, .ref h12, .int x10])), (h1, .inr (6, [.ref h3, .ref h13, .int x11, .int x12])), (h2, .inr (5, [.ref h4, .ref h5, .int x13, .int x14, .long y1, .long y2, .int x15])), (h3, .inl (gJ g, 48, .inr (.inl fm0)))] [(h4, .inl (gB g, 400, .inl fn0)), (h5, .inl (gJ g, 2400, .inr (.inl fm1)))] (fun sz => c258_X9_paintNothing l g h0 h1 h2 h3 x0 h6 x1 x2 y0 x3 x4 x5 x6 h7 h8 h9 x7 x8 h10 h11 x9 h12 x10 h13 x11 x12 h4 h5 x13 x14 y1 y2 x15 fm0 i_x6 i_x7 i_x8 i_x9 i_x10 i_x11 i_x12 i_x13 i_x14 i_x15 sz) gX9_paint_X9_paintNothing rfl ⟨rfl, rfl⟩ 1 (by decide) ⟨Nat.le_of_ble_eq_true rfl, Nat.le_of_ble_eq_true rfl⟩ 0 rfl rfl [0, 4, 1, 5] [2, 3] rfl rfl (by decide) (by decide) (by decide) rfl rfl (Nat.le_of_ble_eq_true rfl) ⟨Nat.le_of_ble_eq_true rfl, Nat.le_of_ble_eq_true rfl⟩ (fun r209 u211 w210 => ?_)
                                obtain ⟨z205, z206, z207, z208⟩ := u211
                                refine r_ws [(h4, .inl (gB g, 400, .inl fn0)), (h5, .inl (gJ g, 2400, .inr (.inl fm1))), (h0, .inr (8, [.ref h1, .ref h2, .ref h6, .int x1, .int x2, .long z205, .int x3, .int x4, .int x5, .int z206, .ref h7, .ref h8, .ref h9, .int x7, .int x8, .ref h10, .ref h11, .int x9, .ref h12, .int x10])), (h1, .inr (6, [.ref h3, .ref h13, .int x11, .int x12])), (h2, .inr (5, [.ref h4, .ref h5, .int x13, .int x14, .long z207, .long z208, .int x15])), (h3, .inl (gJ g, 48, .inr (.inl fm0)))] rfl ?_
                                have gz205 := fb_rngL z205
                                have gz207 := fb_rngL z207
                                have gz208 := fb_rngL z208
                                have p212 : 0 = r209 := (w210.1).symm
                                subst p212
                                have p213 : 0 ≤ (Int32.toInt z206) := w210.2.1
                                have p214 : (Int32.toInt z206) ≤ 1 := w210.2.2
                                exact r_iret 234 Rt dX9_paint_234 (z205, z206, x13, z207, z208, x15, fn0, fm1) (show 0 ≤ (Int32.toInt 0) ∧ (Int32.toInt 0) ≤ 6 ∧ 0 ≤ (Int32.toInt z206) ∧ (Int32.toInt z206) ≤ 1 ∧ 0 ≤ (Int32.toInt x13) ∧ (Int32.toInt x13) ≤ 400 ∧ 0 ≤ (Int32.toInt x15) ∧ (Int32.toInt x15) ≤ 1 from ⟨(by ((repeat' apply And.intro) <;> first | trivial | rfl | assumption | omega | decide | exact Or.inl rfl | exact Or.inr (Or.inl rfl) | exact Or.inr (Or.inr rfl))), (by ((repeat' apply And.intro) <;> first | trivial | rfl | assumption | omega | decide | exact Or.inl rfl | exact Or.inr (Or.inl rfl) | exact Or.inr (Or.inr rfl))), (show _ ∧ _ from ⟨p213, p214⟩).1, (show _ ∧ _ from ⟨p213, p214⟩).2, i_x13.1, i_x13.2, i_x15.1, i_x15.2⟩) [2, 3, 4, 5, 0, 1] (by decide) rfl (Nat.le_of_ble_eq_true rfl) (Nat.le_of_ble_eq_true rfl)
                              · skip
                                have k215 : ¬ ((Int32.toInt x0) = 18) := fun h_9 => c203 ((fa_eq x0 18).mpr h_9)
                                by_cases c216 : x0 = 19
                                · skip
                                  have k217 : (Int32.toInt x0) = 19 := (fa_eq x0 19).mp c216
                                  refine r_tableIn 20 229 19 C dX9_paint_20 c216 (by decide) (by decide) rfl (by decide) ?_
                                  refine r_aload_n 229 2 C dX9_paint_229 rfl ?_
                                  refine r_iload_n 230 3 C dX9_paint_230 rfl ?_
                                  refine r_callVi 231 C dX9_paint_231 [] [(h0, .inr (8, [.ref h1, .ref h2, .ref h6, .int x1, .int x2, .long y0, .int x3, .int x4, .int x5, .int x6, .ref h7, .ref h8, .ref h9, .int x7, .int x8, .ref h10, .ref h11, .int x9, .ref h12, .int x10])), (h1, .inr (6, [.ref h3, .ref h13, .int x11, .int x12])), (h2, .inr (5, [.ref h4, .ref h5, .int x13, .int x14, .long y1, .long y2, .int x15])), (h3, .inl (gJ g, 48, .inr (.inl fm0)))] [(h4, .inl (gB g, 400, .inl fn0)), (h5, .inl (gJ g, 2400, .inr (.inl fm1)))] (fun sz => c258_X9_paintNothing l g h0 h1 h2 h3 x0 h6 x1 x2 y0 x3 x4 x5 x6 h7 h8 h9 x7 x8 h10 h11 x9 h12 x10 h13 x11 x12 h4 h5 x13 x14 y1 y2 x15 fm0 i_x6 i_x7 i_x8 i_x9 i_x10 i_x11 i_x12 i_x13 i_x14 i_x15 sz) gX9_paint_X9_paintNothing rfl ⟨rfl, rfl⟩ 1 (by decide) ⟨Nat.le_of_ble_eq_true rfl, Nat.le_of_ble_eq_true rfl⟩ 0 rfl rfl [0, 4, 1, 5] [2, 3] rfl rfl (by decide) (by decide) (by decide) rfl rfl (Nat.le_of_ble_eq_true rfl) ⟨Nat.le_of_ble_eq_true rfl, Nat.le_of_ble_eq_true rfl⟩ (fun r222 u224 w223 => ?_)
                                  obtain ⟨z218, z219, z220, z221⟩ := u224
                                  refine r_ws [(h4, .inl (gB g, 400, .inl fn0)), (h5, .inl (gJ g, 2400, .inr (.inl fm1))), (h0, .inr (8, [.ref h1, .ref h2, .ref h6, .int x1, .int x2, .long z218, .int x3, .int x4, .int x5, .int z219, .ref h7, .ref h8, .ref h9, .int x7, .int x8, .ref h10, .ref h11, .int x9, .ref h12, .int x10])), (h1, .inr (6, [.ref h3, .ref h13, .int x11, .int x12])), (h2, .inr (5, [.ref h4, .ref h5, .int x13, .int x14, .long z220, .long z221, .int x15])), (h3, .inl (gJ g, 48, .inr (.inl fm0)))] rfl ?_
                                  have gz218 := fb_rngL z218
                                  have gz220 := fb_rngL z220
                                  have gz221 := fb_rngL z221
                                  have p225 : 0 = r222 := (w223.1).symm
                                  subst p225
                                  have p226 : 0 ≤ (Int32.toInt z219) := w223.2.1
                                  have p227 : (Int32.toInt z219) ≤ 1 := w223.2.2
                                  exact r_iret 234 Rt dX9_paint_234 (z218, z219, x13, z220, z221, x15, fn0, fm1) (show 0 ≤ (Int32.toInt 0) ∧ (Int32.toInt 0) ≤ 6 ∧ 0 ≤ (Int32.toInt z219) ∧ (Int32.toInt z219) ≤ 1 ∧ 0 ≤ (Int32.toInt x13) ∧ (Int32.toInt x13) ≤ 400 ∧ 0 ≤ (Int32.toInt x15) ∧ (Int32.toInt x15) ≤ 1 from ⟨(by ((repeat' apply And.intro) <;> first | trivial | rfl | assumption | omega | decide | exact Or.inl rfl | exact Or.inr (Or.inl rfl) | exact Or.inr (Or.inr rfl))), (by ((repeat' apply And.intro) <;> first | trivial | rfl | assumption | omega | decide | exact Or.inl rfl | exact Or.inr (Or.inl rfl) | exact Or.inr (Or.inr rfl))), (show _ ∧ _ from ⟨p226, p227⟩).1, (show _ ∧ _ from ⟨p226, p227⟩).2, i_x13.1, i_x13.2, i_x15.1, i_x15.2⟩) [2, 3, 4, 5, 0, 1] (by decide) rfl (Nat.le_of_ble_eq_true rfl) (Nat.le_of_ble_eq_true rfl)
                                · skip
                                  have k228 : ¬ ((Int32.toInt x0) = 19) := fun h_9 => c216 ((fa_eq x0 19).mpr h_9)
                                  by_cases c229 : x0 = 20
                                  · skip
                                    have k230 : (Int32.toInt x0) = 20 := (fa_eq x0 20).mp c229
                                    refine r_tableIn 20 229 20 C dX9_paint_20 c229 (by decide) (by decide) rfl (by decide) ?_
                                    refine r_aload_n 229 2 C dX9_paint_229 rfl ?_
                                    refine r_iload_n 230 3 C dX9_paint_230 rfl ?_
                                    refine r_callVi 231 C dX9_paint_231 [] [(h0, .inr (8, [.ref h1, .ref h2, .ref h6, .int x1, .int x2, .long y0, .int x3, .int x4, .int x5, .int x6, .ref h7, .ref h8, .ref h9, .int x7, .int x8, .ref h10, .ref h11, .int x9, .ref h12, .int x10])), (h1, .inr (6, [.ref h3, .ref h13, .int x11, .int x12])), (h2, .inr (5, [.ref h4, .ref h5, .int x13, .int x14, .long y1, .long y2, .int x15])), (h3, .inl (gJ g, 48, .inr (.inl fm0)))] [(h4, .inl (gB g, 400, .inl fn0)), (h5, .inl (gJ g, 2400, .inr (.inl fm1)))] (fun sz => c258_X9_paintNothing l g h0 h1 h2 h3 x0 h6 x1 x2 y0 x3 x4 x5 x6 h7 h8 h9 x7 x8 h10 h11 x9 h12 x10 h13 x11 x12 h4 h5 x13 x14 y1 y2 x15 fm0 i_x6 i_x7 i_x8 i_x9 i_x10 i_x11 i_x12 i_x13 i_x14 i_x15 sz) gX9_paint_X9_paintNothing rfl ⟨rfl, rfl⟩ 1 (by decide) ⟨Nat.le_of_ble_eq_true rfl, Nat.le_of_ble_eq_true rfl⟩ 0 rfl rfl [0, 4, 1, 5] [2, 3] rfl rfl (by decide) (by decide) (by decide) rfl rfl (Nat.le_of_ble_eq_true rfl) ⟨Nat.le_of_ble_eq_true rfl, Nat.le_of_ble_eq_true rfl⟩ (fun r235 u237 w236 => ?_)
                                    obtain ⟨z231, z232, z233, z234⟩ := u237
                                    refine r_ws [(h4, .inl (gB g, 400, .inl fn0)), (h5, .inl (gJ g, 2400, .inr (.inl fm1))), (h0, .inr (8, [.ref h1, .ref h2, .ref h6, .int x1, .int x2, .long z231, .int x3, .int x4, .int x5, .int z232, .ref h7, .ref h8, .ref h9, .int x7, .int x8, .ref h10, .ref h11, .int x9, .ref h12, .int x10])), (h1, .inr (6, [.ref h3, .ref h13, .int x11, .int x12])), (h2, .inr (5, [.ref h4, .ref h5, .int x13, .int x14, .long z233, .long z234, .int x15])), (h3, .inl (gJ g, 48, .inr (.inl fm0)))] rfl ?_
                                    have gz231 := fb_rngL z231
                                    have gz233 := fb_rngL z233
                                    have gz234 := fb_rngL z234
                                    have p238 : 0 = r235 := (w236.1).symm
                                    subst p238
                                    have p239 : 0 ≤ (Int32.toInt z232) := w236.2.1
                                    have p240 : (Int32.toInt z232) ≤ 1 := w236.2.2
                                    exact r_iret 234 Rt dX9_paint_234 (z231, z232, x13, z233, z234, x15, fn0, fm1) (show 0 ≤ (Int32.toInt 0) ∧ (Int32.toInt 0) ≤ 6 ∧ 0 ≤ (Int32.toInt z232) ∧ (Int32.toInt z232) ≤ 1 ∧ 0 ≤ (Int32.toInt x13) ∧ (Int32.toInt x13) ≤ 400 ∧ 0 ≤ (Int32.toInt x15) ∧ (Int32.toInt x15) ≤ 1 from ⟨(by ((repeat' apply And.intro) <;> first | trivial | rfl | assumption | omega | decide | exact Or.inl rfl | exact Or.inr (Or.inl rfl) | exact Or.inr (Or.inr rfl))), (by ((repeat' apply And.intro) <;> first | trivial | rfl | assumption | omega | decide | exact Or.inl rfl | exact Or.inr (Or.inl rfl) | exact Or.inr (Or.inr rfl))), (show _ ∧ _ from ⟨p239, p240⟩).1, (show _ ∧ _ from ⟨p239, p240⟩).2, i_x13.1, i_x13.2, i_x15.1, i_x15.2⟩) [2, 3, 4, 5, 0, 1] (by decide) rfl (Nat.le_of_ble_eq_true rfl) (Nat.le_of_ble_eq_true rfl)
                                  · skip
                                    have k241 : ¬ ((Int32.toInt x0) = 20) := fun h_9 => c229 ((fa_eq x0 20).mpr h_9)
                                    by_cases c242 : x0 = 21
                                    · skip
                                      have k243 : (Int32.toInt x0) = 21 := (fa_eq x0 21).mp c242
                                      refine r_tableIn 20 202 21 C dX9_paint_20 c242 (by decide) (by decide) rfl (by decide) ?_
                                      refine r_aload_n 202 2 C dX9_paint_202 rfl ?_
                                      refine r_lload_n 203 1 C dX9_paint_203 rfl ?_
                                      refine r_lload 204 0 C dX9_paint_204 rfl ?_
                                      refine r_callVi 206 C dX9_paint_206 [] [(h0, .inr (8, [.ref h1, .ref h2, .ref h6, .int x1, .int x2, .long y0, .int x3, .int x4, .int x5, .int x6, .ref h7, .ref h8, .ref h9, .int x7, .int x8, .ref h10, .ref h11, .int x9, .ref h12, .int x10])), (h2, .inr (5, [.ref h4, .ref h5, .int x13, .int x14, .long y1, .long y2, .int x15])), (h4, .inl (gB g, 400, .inl fn0)), (h5, .inl (gJ g, 2400, .inr (.inl fm1)))] [(h1, .inr (6, [.ref h3, .ref h13, .int x11, .int x12])), (h3, .inl (gJ g, 48, .inr (.inl fm0)))] (fun sz => c253_X9_move l g h0 h2 h4 h5 r1 r3 h1 h6 x1 x2 y0 x3 x4 x5 x6 h7 h8 h9 x7 x8 h10 h11 x9 h12 x10 x13 x14 y1 y2 x15 fn0 fm1 i_x6 i_x7 i_x8 i_x9 i_x10 i_x13 i_x14 i_x15 sz) gX9_paint_X9_move rfl ⟨rfl, rfl⟩ 2 (by decide) ⟨Nat.le_of_ble_eq_true rfl, Nat.le_of_ble_eq_true rfl⟩ 0 rfl rfl [0, 1, 2, 3] [4, 5] rfl rfl (by decide) (by decide) (by decide) rfl rfl (Nat.le_of_ble_eq_true rfl) ⟨Nat.le_of_ble_eq_true rfl, Nat.le_of_ble_eq_true rfl⟩ (fun r250 u252 w251 => ?_)
                                      obtain ⟨z244, z245, z246, z247, f248, f249⟩ := u252
                                      refine r_ws [(h1, .inr (6, [.ref h3, .ref h13, .int x11, .int x12])), (h3, .inl (gJ g, 48, .inr (.inl fm0))), (h0, .inr (8, [.ref h1, .ref h2, .ref h6, .int x1, .int x2, .long y0, .int x3, .int x4, .int x5, .int x6, .ref h7, .ref h8, .ref h9, .int x7, .int x8, .ref h10, .ref h11, .int x9, .ref h12, .int x10])), (h2, .inr (5, [.ref h4, .ref h5, .int z244, .int x14, .long z245, .long z246, .int z247])), (h4, .inl (gB g, 400, .inl f248)), (h5, .inl (gJ g, 2400, .inr (.inl f249)))] rfl ?_
                                      have gz245 := fb_rngL z245
                                      have gz246 := fb_rngL z246
                                      have p253 : 0 ≤ (Int32.toInt r250) := w251.1
                                      have p254 : (Int32.toInt r250) ≤ 6 := w251.2.1
                                      have p255 : 0 ≤ (Int32.toInt z244) := w251.2.2.1
                                      have p256 : (Int32.toInt z244) ≤ 400 := w251.2.2.2.1
                                      have p257 : 0 ≤ (Int32.toInt z247) := w251.2.2.2.2.1
                                      have p258 : (Int32.toInt z247) ≤ 1 := w251.2.2.2.2.2
                                      exact r_iret 209 Rt dX9_paint_209 (y0, x6, z244, z245, z246, z247, f248, f249) (show 0 ≤ (Int32.toInt r250) ∧ (Int32.toInt r250) ≤ 6 ∧ 0 ≤ (Int32.toInt x6) ∧ (Int32.toInt x6) ≤ 1 ∧ 0 ≤ (Int32.toInt z244) ∧ (Int32.toInt z244) ≤ 400 ∧ 0 ≤ (Int32.toInt z247) ∧ (Int32.toInt z247) ≤ 1 from ⟨(show _ ∧ _ from ⟨p253, p254⟩).1, (show _ ∧ _ from ⟨p253, p254⟩).2, i_x6.1, i_x6.2, (show _ ∧ _ from ⟨p255, p256⟩).1, (show _ ∧ _ from ⟨p255, p256⟩).2, (show _ ∧ _ from ⟨p257, p258⟩).1, (show _ ∧ _ from ⟨p257, p258⟩).2⟩) [2, 0, 3, 1, 4, 5] (by decide) rfl (Nat.le_of_ble_eq_true rfl) (Nat.le_of_ble_eq_true rfl)
                                    · skip
                                      have k259 : ¬ ((Int32.toInt x0) = 21) := fun h_9 => c242 ((fa_eq x0 21).mpr h_9)
                                      by_cases c260 : x0 = 22
                                      · skip
                                        have k261 : (Int32.toInt x0) = 22 := (fa_eq x0 22).mp c260
                                        refine r_tableIn 20 210 22 C dX9_paint_20 c260 (by decide) (by decide) rfl (by decide) ?_
                                        refine r_aload_n 210 2 C dX9_paint_210 rfl ?_
                                        refine r_lload_n 211 1 C dX9_paint_211 rfl ?_
                                        refine r_lconst 212 0 C dX9_paint_212 (by decide) ?_
                                        refine r_callVi 213 C dX9_paint_213 [] [(h0, .inr (8, [.ref h1, .ref h2, .ref h6, .int x1, .int x2, .long y0, .int x3, .int x4, .int x5, .int x6, .ref h7, .ref h8, .ref h9, .int x7, .int x8, .ref h10, .ref h11, .int x9, .ref h12, .int x10])), (h2, .inr (5, [.ref h4, .ref h5, .int x13, .int x14, .long y1, .long y2, .int x15])), (h4, .inl (gB g, 400, .inl fn0)), (h5, .inl (gJ g, 2400, .inr (.inl fm1)))] [(h1, .inr (6, [.ref h3, .ref h13, .int x11, .int x12])), (h3, .inl (gJ g, 48, .inr (.inl fm0)))] (fun sz => c253_X9_move l g h0 h2 h4 h5 r1 0 h1 h6 x1 x2 y0 x3 x4 x5 x6 h7 h8 h9 x7 x8 h10 h11 x9 h12 x10 x13 x14 y1 y2 x15 fn0 fm1 i_x6 i_x7 i_x8 i_x9 i_x10 i_x13 i_x14 i_x15 sz) gX9_paint_X9_move rfl ⟨rfl, rfl⟩ 2 (by decide) ⟨Nat.le_of_ble_eq_true rfl, Nat.le_of_ble_eq_true rfl⟩ 0 rfl rfl [0, 1, 2, 3] [4, 5] rfl rfl (by decide) (by decide) (by decide) rfl rfl (Nat.le_of_ble_eq_true rfl) ⟨Nat.le_of_ble_eq_true rfl, Nat.le_of_ble_eq_true rfl⟩ (fun r268 u270 w269 => ?_)
                                        obtain ⟨z262, z263, z264, z265, f266, f267⟩ := u270
                                        refine r_ws [(h1, .inr (6, [.ref h3, .ref h13, .int x11, .int x12])), (h3, .inl (gJ g, 48, .inr (.inl fm0))), (h0, .inr (8, [.ref h1, .ref h2, .ref h6, .int x1, .int x2, .long y0, .int x3, .int x4, .int x5, .int x6, .ref h7, .ref h8, .ref h9, .int x7, .int x8, .ref h10, .ref h11, .int x9, .ref h12, .int x10])), (h2, .inr (5, [.ref h4, .ref h5, .int z262, .int x14, .long z263, .long z264, .int z265])), (h4, .inl (gB g, 400, .inl f266)), (h5, .inl (gJ g, 2400, .inr (.inl f267)))] rfl ?_
                                        have gz263 := fb_rngL z263
                                        have gz264 := fb_rngL z264
                                        have p271 : 0 ≤ (Int32.toInt r268) := w269.1
                                        have p272 : (Int32.toInt r268) ≤ 6 := w269.2.1
                                        have p273 : 0 ≤ (Int32.toInt z262) := w269.2.2.1
                                        have p274 : (Int32.toInt z262) ≤ 400 := w269.2.2.2.1
                                        have p275 : 0 ≤ (Int32.toInt z265) := w269.2.2.2.2.1
                                        have p276 : (Int32.toInt z265) ≤ 1 := w269.2.2.2.2.2
                                        exact r_iret 216 Rt dX9_paint_216 (y0, x6, z262, z263, z264, z265, f266, f267) (show 0 ≤ (Int32.toInt r268) ∧ (Int32.toInt r268) ≤ 6 ∧ 0 ≤ (Int32.toInt x6) ∧ (Int32.toInt x6) ≤ 1 ∧ 0 ≤ (Int32.toInt z262) ∧ (Int32.toInt z262) ≤ 400 ∧ 0 ≤ (Int32.toInt z265) ∧ (Int32.toInt z265) ≤ 1 from ⟨(show _ ∧ _ from ⟨p271, p272⟩).1, (show _ ∧ _ from ⟨p271, p272⟩).2, i_x6.1, i_x6.2, (show _ ∧ _ from ⟨p273, p274⟩).1, (show _ ∧ _ from ⟨p273, p274⟩).2, (show _ ∧ _ from ⟨p275, p276⟩).1, (show _ ∧ _ from ⟨p275, p276⟩).2⟩) [2, 0, 3, 1, 4, 5] (by decide) rfl (Nat.le_of_ble_eq_true rfl) (Nat.le_of_ble_eq_true rfl)
                                      · skip
                                        have k277 : ¬ ((Int32.toInt x0) = 22) := fun h_9 => c260 ((fa_eq x0 22).mpr h_9)
                                        by_cases c278 : x0 = 23
                                        · skip
                                          have k279 : (Int32.toInt x0) = 23 := (fa_eq x0 23).mp c278
                                          refine r_tableIn 20 229 23 C dX9_paint_20 c278 (by decide) (by decide) rfl (by decide) ?_
                                          refine r_aload_n 229 2 C dX9_paint_229 rfl ?_
                                          refine r_iload_n 230 3 C dX9_paint_230 rfl ?_
                                          refine r_callVi 231 C dX9_paint_231 [] [(h0, .inr (8, [.ref h1, .ref h2, .ref h6, .int x1, .int x2, .long y0, .int x3, .int x4, .int x5, .int x6, .ref h7, .ref h8, .ref h9, .int x7, .int x8, .ref h10, .ref h11, .int x9, .ref h12, .int x10])), (h1, .inr (6, [.ref h3, .ref h13, .int x11, .int x12])), (h2, .inr (5, [.ref h4, .ref h5, .int x13, .int x14, .long y1, .long y2, .int x15])), (h3, .inl (gJ g, 48, .inr (.inl fm0)))] [(h4, .inl (gB g, 400, .inl fn0)), (h5, .inl (gJ g, 2400, .inr (.inl fm1)))] (fun sz => c258_X9_paintNothing l g h0 h1 h2 h3 x0 h6 x1 x2 y0 x3 x4 x5 x6 h7 h8 h9 x7 x8 h10 h11 x9 h12 x10 h13 x11 x12 h4 h5 x13 x14 y1 y2 x15 fm0 i_x6 i_x7 i_x8 i_x9 i_x10 i_x11 i_x12 i_x13 i_x14 i_x15 sz) gX9_paint_X9_paintNothing rfl ⟨rfl, rfl⟩ 1 (by decide) ⟨Nat.le_of_ble_eq_true rfl, Nat.le_of_ble_eq_true rfl⟩ 0 rfl rfl [0, 4, 1, 5] [2, 3] rfl rfl (by decide) (by decide) (by decide) rfl rfl (Nat.le_of_ble_eq_true rfl) ⟨Nat.le_of_ble_eq_true rfl, Nat.le_of_ble_eq_true rfl⟩ (fun r284 u286 w285 => ?_)
                                          obtain ⟨z280, z281, z282, z283⟩ := u286
                                          refine r_ws [(h4, .inl (gB g, 400, .inl fn0)), (h5, .inl (gJ g, 2400, .inr (.inl fm1))), (h0, .inr (8, [.ref h1, .ref h2, .ref h6, .int x1, .int x2, .long z280, .int x3, .int x4, .int x5, .int z281, .ref h7, .ref h8, .ref h9, .int x7, .int x8, .ref h10, .ref h11, .int x9, .ref h12, .int x10])), (h1, .inr (6, [.ref h3, .ref h13, .int x11, .int x12])), (h2, .inr (5, [.ref h4, .ref h5, .int x13, .int x14, .long z282, .long z283, .int x15])), (h3, .inl (gJ g, 48, .inr (.inl fm0)))] rfl ?_
                                          have gz280 := fb_rngL z280
                                          have gz282 := fb_rngL z282
                                          have gz283 := fb_rngL z283
                                          have p287 : 0 = r284 := (w285.1).symm
                                          subst p287
                                          have p288 : 0 ≤ (Int32.toInt z281) := w285.2.1
                                          have p289 : (Int32.toInt z281) ≤ 1 := w285.2.2
                                          exact r_iret 234 Rt dX9_paint_234 (z280, z281, x13, z282, z283, x15, fn0, fm1) (show 0 ≤ (Int32.toInt 0) ∧ (Int32.toInt 0) ≤ 6 ∧ 0 ≤ (Int32.toInt z281) ∧ (Int32.toInt z281) ≤ 1 ∧ 0 ≤ (Int32.toInt x13) ∧ (Int32.toInt x13) ≤ 400 ∧ 0 ≤ (Int32.toInt x15) ∧ (Int32.toInt x15) ≤ 1 from ⟨(by ((repeat' apply And.intro) <;> first | trivial | rfl | assumption | omega | decide | exact Or.inl rfl | exact Or.inr (Or.inl rfl) | exact Or.inr (Or.inr rfl))), (by ((repeat' apply And.intro) <;> first | trivial | rfl | assumption | omega | decide | exact Or.inl rfl | exact Or.inr (Or.inl rfl) | exact Or.inr (Or.inr rfl))), (show _ ∧ _ from ⟨p288, p289⟩).1, (show _ ∧ _ from ⟨p288, p289⟩).2, i_x13.1, i_x13.2, i_x15.1, i_x15.2⟩) [2, 3, 4, 5, 0, 1] (by decide) rfl (Nat.le_of_ble_eq_true rfl) (Nat.le_of_ble_eq_true rfl)
                                        · skip
                                          have k290 : ¬ ((Int32.toInt x0) = 23) := fun h_9 => c278 ((fa_eq x0 23).mpr h_9)
                                          by_cases c291 : x0 = 24
                                          · skip
                                            have k292 : (Int32.toInt x0) = 24 := (fa_eq x0 24).mp c291
                                            refine r_tableIn 20 229 24 C dX9_paint_20 c291 (by decide) (by decide) rfl (by decide) ?_
                                            refine r_aload_n 229 2 C dX9_paint_229 rfl ?_
                                            refine r_iload_n 230 3 C dX9_paint_230 rfl ?_
                                            refine r_callVi 231 C dX9_paint_231 [] [(h0, .inr (8, [.ref h1, .ref h2, .ref h6, .int x1, .int x2, .long y0, .int x3, .int x4, .int x5, .int x6, .ref h7, .ref h8, .ref h9, .int x7, .int x8, .ref h10, .ref h11, .int x9, .ref h12, .int x10])), (h1, .inr (6, [.ref h3, .ref h13, .int x11, .int x12])), (h2, .inr (5, [.ref h4, .ref h5, .int x13, .int x14, .long y1, .long y2, .int x15])), (h3, .inl (gJ g, 48, .inr (.inl fm0)))] [(h4, .inl (gB g, 400, .inl fn0)), (h5, .inl (gJ g, 2400, .inr (.inl fm1)))] (fun sz => c258_X9_paintNothing l g h0 h1 h2 h3 x0 h6 x1 x2 y0 x3 x4 x5 x6 h7 h8 h9 x7 x8 h10 h11 x9 h12 x10 h13 x11 x12 h4 h5 x13 x14 y1 y2 x15 fm0 i_x6 i_x7 i_x8 i_x9 i_x10 i_x11 i_x12 i_x13 i_x14 i_x15 sz) gX9_paint_X9_paintNothing rfl ⟨rfl, rfl⟩ 1 (by decide) ⟨Nat.le_of_ble_eq_true rfl, Nat.le_of_ble_eq_true rfl⟩ 0 rfl rfl [0, 4, 1, 5] [2, 3] rfl rfl (by decide) (by decide) (by decide) rfl rfl (Nat.le_of_ble_eq_true rfl) ⟨Nat.le_of_ble_eq_true rfl, Nat.le_of_ble_eq_true rfl⟩ (fun r297 u299 w298 => ?_)
                                            obtain ⟨z293, z294, z295, z296⟩ := u299
                                            refine r_ws [(h4, .inl (gB g, 400, .inl fn0)), (h5, .inl (gJ g, 2400, .inr (.inl fm1))), (h0, .inr (8, [.ref h1, .ref h2, .ref h6, .int x1, .int x2, .long z293, .int x3, .int x4, .int x5, .int z294, .ref h7, .ref h8, .ref h9, .int x7, .int x8, .ref h10, .ref h11, .int x9, .ref h12, .int x10])), (h1, .inr (6, [.ref h3, .ref h13, .int x11, .int x12])), (h2, .inr (5, [.ref h4, .ref h5, .int x13, .int x14, .long z295, .long z296, .int x15])), (h3, .inl (gJ g, 48, .inr (.inl fm0)))] rfl ?_
                                            have gz293 := fb_rngL z293
                                            have gz295 := fb_rngL z295
                                            have gz296 := fb_rngL z296
                                            have p300 : 0 = r297 := (w298.1).symm
                                            subst p300
                                            have p301 : 0 ≤ (Int32.toInt z294) := w298.2.1
                                            have p302 : (Int32.toInt z294) ≤ 1 := w298.2.2
                                            exact r_iret 234 Rt dX9_paint_234 (z293, z294, x13, z295, z296, x15, fn0, fm1) (show 0 ≤ (Int32.toInt 0) ∧ (Int32.toInt 0) ≤ 6 ∧ 0 ≤ (Int32.toInt z294) ∧ (Int32.toInt z294) ≤ 1 ∧ 0 ≤ (Int32.toInt x13) ∧ (Int32.toInt x13) ≤ 400 ∧ 0 ≤ (Int32.toInt x15) ∧ (Int32.toInt x15) ≤ 1 from ⟨(by ((repeat' apply And.intro) <;> first | trivial | rfl | assumption | omega | decide | exact Or.inl rfl | exact Or.inr (Or.inl rfl) | exact Or.inr (Or.inr rfl))), (by ((repeat' apply And.intro) <;> first | trivial | rfl | assumption | omega | decide | exact Or.inl rfl | exact Or.inr (Or.inl rfl) | exact Or.inr (Or.inr rfl))), (show _ ∧ _ from ⟨p301, p302⟩).1, (show _ ∧ _ from ⟨p301, p302⟩).2, i_x13.1, i_x13.2, i_x15.1, i_x15.2⟩) [2, 3, 4, 5, 0, 1] (by decide) rfl (Nat.le_of_ble_eq_true rfl) (Nat.le_of_ble_eq_true rfl)
                                          · skip
                                            have k303 : ¬ ((Int32.toInt x0) = 24) := fun h_9 => c291 ((fa_eq x0 24).mpr h_9)
                                            by_cases c304 : x0 = 25
                                            · skip
                                              have k305 : (Int32.toInt x0) = 25 := (fa_eq x0 25).mp c304
                                              refine r_tableIn 20 229 25 C dX9_paint_20 c304 (by decide) (by decide) rfl (by decide) ?_
                                              refine r_aload_n 229 2 C dX9_paint_229 rfl ?_
                                              refine r_iload_n 230 3 C dX9_paint_230 rfl ?_
                                              refine r_callVi 231 C dX9_paint_231 [] [(h0, .inr (8, [.ref h1, .ref h2, .ref h6, .int x1, .int x2, .long y0, .int x3, .int x4, .int x5, .int x6, .ref h7, .ref h8, .ref h9, .int x7, .int x8, .ref h10, .ref h11, .int x9, .ref h12, .int x10])), (h1, .inr (6, [.ref h3, .ref h13, .int x11, .int x12])), (h2, .inr (5, [.ref h4, .ref h5, .int x13, .int x14, .long y1, .long y2, .int x15])), (h3, .inl (gJ g, 48, .inr (.inl fm0)))] [(h4, .inl (gB g, 400, .inl fn0)), (h5, .inl (gJ g, 2400, .inr (.inl fm1)))] (fun sz => c258_X9_paintNothing l g h0 h1 h2 h3 x0 h6 x1 x2 y0 x3 x4 x5 x6 h7 h8 h9 x7 x8 h10 h11 x9 h12 x10 h13 x11 x12 h4 h5 x13 x14 y1 y2 x15 fm0 i_x6 i_x7 i_x8 i_x9 i_x10 i_x11 i_x12 i_x13 i_x14 i_x15 sz) gX9_paint_X9_paintNothing rfl ⟨rfl, rfl⟩ 1 (by decide) ⟨Nat.le_of_ble_eq_true rfl, Nat.le_of_ble_eq_true rfl⟩ 0 rfl rfl [0, 4, 1, 5] [2, 3] rfl rfl (by decide) (by decide) (by decide) rfl rfl (Nat.le_of_ble_eq_true rfl) ⟨Nat.le_of_ble_eq_true rfl, Nat.le_of_ble_eq_true rfl⟩ (fun r310 u312 w311 => ?_)
                                              obtain ⟨z306, z307, z308, z309⟩ := u312
                                              refine r_ws [(h4, .inl (gB g, 400, .inl fn0)), (h5, .inl (gJ g, 2400, .inr (.inl fm1))), (h0, .inr (8, [.ref h1, .ref h2, .ref h6, .int x1, .int x2, .long z306, .int x3, .int x4, .int x5, .int z307, .ref h7, .ref h8, .ref h9, .int x7, .int x8, .ref h10, .ref h11, .int x9, .ref h12, .int x10])), (h1, .inr (6, [.ref h3, .ref h13, .int x11, .int x12])), (h2, .inr (5, [.ref h4, .ref h5, .int x13, .int x14, .long z308, .long z309, .int x15])), (h3, .inl (gJ g, 48, .inr (.inl fm0)))] rfl ?_
                                              have gz306 := fb_rngL z306
                                              have gz308 := fb_rngL z308
                                              have gz309 := fb_rngL z309
                                              have p313 : 0 = r310 := (w311.1).symm
                                              subst p313
                                              have p314 : 0 ≤ (Int32.toInt z307) := w311.2.1
                                              have p315 : (Int32.toInt z307) ≤ 1 := w311.2.2
                                              exact r_iret 234 Rt dX9_paint_234 (z306, z307, x13, z308, z309, x15, fn0, fm1) (show 0 ≤ (Int32.toInt 0) ∧ (Int32.toInt 0) ≤ 6 ∧ 0 ≤ (Int32.toInt z307) ∧ (Int32.toInt z307) ≤ 1 ∧ 0 ≤ (Int32.toInt x13) ∧ (Int32.toInt x13) ≤ 400 ∧ 0 ≤ (Int32.toInt x15) ∧ (Int32.toInt x15) ≤ 1 from ⟨(by ((repeat' apply And.intro) <;> first | trivial | rfl | assumption | omega | decide | exact Or.inl rfl | exact Or.inr (Or.inl rfl) | exact Or.inr (Or.inr rfl))), (by ((repeat' apply And.intro) <;> first | trivial | rfl | assumption | omega | decide | exact Or.inl rfl | exact Or.inr (Or.inl rfl) | exact Or.inr (Or.inr rfl))), (show _ ∧ _ from ⟨p314, p315⟩).1, (show _ ∧ _ from ⟨p314, p315⟩).2, i_x13.1, i_x13.2, i_x15.1, i_x15.2⟩) [2, 3, 4, 5, 0, 1] (by decide) rfl (Nat.le_of_ble_eq_true rfl) (Nat.le_of_ble_eq_true rfl)
                                            · skip
                                              have k316 : ¬ ((Int32.toInt x0) = 25) := fun h_9 => c304 ((fa_eq x0 25).mpr h_9)
                                              by_cases c317 : x0 = 26
                                              · skip
                                                have k318 : (Int32.toInt x0) = 26 := (fa_eq x0 26).mp c317
                                                refine r_tableIn 20 229 26 C dX9_paint_20 c317 (by decide) (by decide) rfl (by decide) ?_
                                                refine r_aload_n 229 2 C dX9_paint_229 rfl ?_
                                                refine r_iload_n 230 3 C dX9_paint_230 rfl ?_
                                                refine r_callVi 231 C dX9_paint_231 [] [(h0, .inr (8, [.ref h1, .ref h2, .ref h6, .int x1, .int x2, .long y0, .int x3, .int x4, .int x5, .int x6, .ref h7, .ref h8, .ref h9, .int x7, .int x8, .ref h10, .ref h11, .int x9, .ref h12, .int x10])), (h1, .inr (6, [.ref h3, .ref h13, .int x11, .int x12])), (h2, .inr (5, [.ref h4, .ref h5, .int x13, .int x14, .long y1, .long y2, .int x15])), (h3, .inl (gJ g, 48, .inr (.inl fm0)))] [(h4, .inl (gB g, 400, .inl fn0)), (h5, .inl (gJ g, 2400, .inr (.inl fm1)))] (fun sz => c258_X9_paintNothing l g h0 h1 h2 h3 x0 h6 x1 x2 y0 x3 x4 x5 x6 h7 h8 h9 x7 x8 h10 h11 x9 h12 x10 h13 x11 x12 h4 h5 x13 x14 y1 y2 x15 fm0 i_x6 i_x7 i_x8 i_x9 i_x10 i_x11 i_x12 i_x13 i_x14 i_x15 sz) gX9_paint_X9_paintNothing rfl ⟨rfl, rfl⟩ 1 (by decide) ⟨Nat.le_of_ble_eq_true rfl, Nat.le_of_ble_eq_true rfl⟩ 0 rfl rfl [0, 4, 1, 5] [2, 3] rfl rfl (by decide) (by decide) (by decide) rfl rfl (Nat.le_of_ble_eq_true rfl) ⟨Nat.le_of_ble_eq_true rfl, Nat.le_of_ble_eq_true rfl⟩ (fun r323 u325 w324 => ?_)
                                                obtain ⟨z319, z320, z321, z322⟩ := u325
                                                refine r_ws [(h4, .inl (gB g, 400, .inl fn0)), (h5, .inl (gJ g, 2400, .inr (.inl fm1))), (h0, .inr (8, [.ref h1, .ref h2, .ref h6, .int x1, .int x2, .long z319, .int x3, .int x4, .int x5, .int z320, .ref h7, .ref h8, .ref h9, .int x7, .int x8, .ref h10, .ref h11, .int x9, .ref h12, .int x10])), (h1, .inr (6, [.ref h3, .ref h13, .int x11, .int x12])), (h2, .inr (5, [.ref h4, .ref h5, .int x13, .int x14, .long z321, .long z322, .int x15])), (h3, .inl (gJ g, 48, .inr (.inl fm0)))] rfl ?_
                                                have gz319 := fb_rngL z319
                                                have gz321 := fb_rngL z321
                                                have gz322 := fb_rngL z322
                                                have p326 : 0 = r323 := (w324.1).symm
                                                subst p326
                                                have p327 : 0 ≤ (Int32.toInt z320) := w324.2.1
                                                have p328 : (Int32.toInt z320) ≤ 1 := w324.2.2
                                                exact r_iret 234 Rt dX9_paint_234 (z319, z320, x13, z321, z322, x15, fn0, fm1) (show 0 ≤ (Int32.toInt 0) ∧ (Int32.toInt 0) ≤ 6 ∧ 0 ≤ (Int32.toInt z320) ∧ (Int32.toInt z320) ≤ 1 ∧ 0 ≤ (Int32.toInt x13) ∧ (Int32.toInt x13) ≤ 400 ∧ 0 ≤ (Int32.toInt x15) ∧ (Int32.toInt x15) ≤ 1 from ⟨(by ((repeat' apply And.intro) <;> first | trivial | rfl | assumption | omega | decide | exact Or.inl rfl | exact Or.inr (Or.inl rfl) | exact Or.inr (Or.inr rfl))), (by ((repeat' apply And.intro) <;> first | trivial | rfl | assumption | omega | decide | exact Or.inl rfl | exact Or.inr (Or.inl rfl) | exact Or.inr (Or.inr rfl))), (show _ ∧ _ from ⟨p327, p328⟩).1, (show _ ∧ _ from ⟨p327, p328⟩).2, i_x13.1, i_x13.2, i_x15.1, i_x15.2⟩) [2, 3, 4, 5, 0, 1] (by decide) rfl (Nat.le_of_ble_eq_true rfl) (Nat.le_of_ble_eq_true rfl)
                                              · skip
                                                have k329 : ¬ ((Int32.toInt x0) = 26) := fun h_9 => c317 ((fa_eq x0 26).mpr h_9)
                                                by_cases c330 : x0 = 27
                                                · skip
                                                  have k331 : (Int32.toInt x0) = 27 := (fa_eq x0 27).mp c330
                                                  refine r_tableIn 20 229 27 C dX9_paint_20 c330 (by decide) (by decide) rfl (by decide) ?_
                                                  refine r_aload_n 229 2 C dX9_paint_229 rfl ?_
                                                  refine r_iload_n 230 3 C dX9_paint_230 rfl ?_
                                                  refine r_callVi 231 C dX9_paint_231 [] [(h0, .inr (8, [.ref h1, .ref h2, .ref h6, .int x1, .int x2, .long y0, .int x3, .int x4, .int x5, .int x6, .ref h7, .ref h8, .ref h9, .int x7, .int x8, .ref h10, .ref h11, .int x9, .ref h12, .int x10])), (h1, .inr (6, [.ref h3, .ref h13, .int x11, .int x12])), (h2, .inr (5, [.ref h4, .ref h5, .int x13, .int x14, .long y1, .long y2, .int x15])), (h3, .inl (gJ g, 48, .inr (.inl fm0)))] [(h4, .inl (gB g, 400, .inl fn0)), (h5, .inl (gJ g, 2400, .inr (.inl fm1)))] (fun sz => c258_X9_paintNothing l g h0 h1 h2 h3 x0 h6 x1 x2 y0 x3 x4 x5 x6 h7 h8 h9 x7 x8 h10 h11 x9 h12 x10 h13 x11 x12 h4 h5 x13 x14 y1 y2 x15 fm0 i_x6 i_x7 i_x8 i_x9 i_x10 i_x11 i_x12 i_x13 i_x14 i_x15 sz) gX9_paint_X9_paintNothing rfl ⟨rfl, rfl⟩ 1 (by decide) ⟨Nat.le_of_ble_eq_true rfl, Nat.le_of_ble_eq_true rfl⟩ 0 rfl rfl [0, 4, 1, 5] [2, 3] rfl rfl (by decide) (by decide) (by decide) rfl rfl (Nat.le_of_ble_eq_true rfl) ⟨Nat.le_of_ble_eq_true rfl, Nat.le_of_ble_eq_true rfl⟩ (fun r336 u338 w337 => ?_)
                                                  obtain ⟨z332, z333, z334, z335⟩ := u338
                                                  refine r_ws [(h4, .inl (gB g, 400, .inl fn0)), (h5, .inl (gJ g, 2400, .inr (.inl fm1))), (h0, .inr (8, [.ref h1, .ref h2, .ref h6, .int x1, .int x2, .long z332, .int x3, .int x4, .int x5, .int z333, .ref h7, .ref h8, .ref h9, .int x7, .int x8, .ref h10, .ref h11, .int x9, .ref h12, .int x10])), (h1, .inr (6, [.ref h3, .ref h13, .int x11, .int x12])), (h2, .inr (5, [.ref h4, .ref h5, .int x13, .int x14, .long z334, .long z335, .int x15])), (h3, .inl (gJ g, 48, .inr (.inl fm0)))] rfl ?_
                                                  have gz332 := fb_rngL z332
                                                  have gz334 := fb_rngL z334
                                                  have gz335 := fb_rngL z335
                                                  have p339 : 0 = r336 := (w337.1).symm
                                                  subst p339
                                                  have p340 : 0 ≤ (Int32.toInt z333) := w337.2.1
                                                  have p341 : (Int32.toInt z333) ≤ 1 := w337.2.2
                                                  exact r_iret 234 Rt dX9_paint_234 (z332, z333, x13, z334, z335, x15, fn0, fm1) (show 0 ≤ (Int32.toInt 0) ∧ (Int32.toInt 0) ≤ 6 ∧ 0 ≤ (Int32.toInt z333) ∧ (Int32.toInt z333) ≤ 1 ∧ 0 ≤ (Int32.toInt x13) ∧ (Int32.toInt x13) ≤ 400 ∧ 0 ≤ (Int32.toInt x15) ∧ (Int32.toInt x15) ≤ 1 from ⟨(by ((repeat' apply And.intro) <;> first | trivial | rfl | assumption | omega | decide | exact Or.inl rfl | exact Or.inr (Or.inl rfl) | exact Or.inr (Or.inr rfl))), (by ((repeat' apply And.intro) <;> first | trivial | rfl | assumption | omega | decide | exact Or.inl rfl | exact Or.inr (Or.inl rfl) | exact Or.inr (Or.inr rfl))), (show _ ∧ _ from ⟨p340, p341⟩).1, (show _ ∧ _ from ⟨p340, p341⟩).2, i_x13.1, i_x13.2, i_x15.1, i_x15.2⟩) [2, 3, 4, 5, 0, 1] (by decide) rfl (Nat.le_of_ble_eq_true rfl) (Nat.le_of_ble_eq_true rfl)
                                                · skip
                                                  have k342 : ¬ ((Int32.toInt x0) = 27) := fun h_9 => c330 ((fa_eq x0 27).mpr h_9)
                                                  by_cases c343 : x0 = 28
                                                  · skip
                                                    have k344 : (Int32.toInt x0) = 28 := (fa_eq x0 28).mp c343
                                                    refine r_tableIn 20 229 28 C dX9_paint_20 c343 (by decide) (by decide) rfl (by decide) ?_
                                                    refine r_aload_n 229 2 C dX9_paint_229 rfl ?_
                                                    refine r_iload_n 230 3 C dX9_paint_230 rfl ?_
                                                    refine r_callVi 231 C dX9_paint_231 [] [(h0, .inr (8, [.ref h1, .ref h2, .ref h6, .int x1, .int x2, .long y0, .int x3, .int x4, .int x5, .int x6, .ref h7, .ref h8, .ref h9, .int x7, .int x8, .ref h10, .ref h11, .int x9, .ref h12, .int x10])), (h1, .inr (6, [.ref h3, .ref h13, .int x11, .int x12])), (h2, .inr (5, [.ref h4, .ref h5, .int x13, .int x14, .long y1, .long y2, .int x15])), (h3, .inl (gJ g, 48, .inr (.inl fm0)))] [(h4, .inl (gB g, 400, .inl fn0)), (h5, .inl (gJ g, 2400, .inr (.inl fm1)))] (fun sz => c258_X9_paintNothing l g h0 h1 h2 h3 x0 h6 x1 x2 y0 x3 x4 x5 x6 h7 h8 h9 x7 x8 h10 h11 x9 h12 x10 h13 x11 x12 h4 h5 x13 x14 y1 y2 x15 fm0 i_x6 i_x7 i_x8 i_x9 i_x10 i_x11 i_x12 i_x13 i_x14 i_x15 sz) gX9_paint_X9_paintNothing rfl ⟨rfl, rfl⟩ 1 (by decide) ⟨Nat.le_of_ble_eq_true rfl, Nat.le_of_ble_eq_true rfl⟩ 0 rfl rfl [0, 4, 1, 5] [2, 3] rfl rfl (by decide) (by decide) (by decide) rfl rfl (Nat.le_of_ble_eq_true rfl) ⟨Nat.le_of_ble_eq_true rfl, Nat.le_of_ble_eq_true rfl⟩ (fun r349 u351 w350 => ?_)
                                                    obtain ⟨z345, z346, z347, z348⟩ := u351
                                                    refine r_ws [(h4, .inl (gB g, 400, .inl fn0)), (h5, .inl (gJ g, 2400, .inr (.inl fm1))), (h0, .inr (8, [.ref h1, .ref h2, .ref h6, .int x1, .int x2, .long z345, .int x3, .int x4, .int x5, .int z346, .ref h7, .ref h8, .ref h9, .int x7, .int x8, .ref h10, .ref h11, .int x9, .ref h12, .int x10])), (h1, .inr (6, [.ref h3, .ref h13, .int x11, .int x12])), (h2, .inr (5, [.ref h4, .ref h5, .int x13, .int x14, .long z347, .long z348, .int x15])), (h3, .inl (gJ g, 48, .inr (.inl fm0)))] rfl ?_
                                                    have gz345 := fb_rngL z345
                                                    have gz347 := fb_rngL z347
                                                    have gz348 := fb_rngL z348
                                                    have p352 : 0 = r349 := (w350.1).symm
                                                    subst p352
                                                    have p353 : 0 ≤ (Int32.toInt z346) := w350.2.1
                                                    have p354 : (Int32.toInt z346) ≤ 1 := w350.2.2
                                                    exact r_iret 234 Rt dX9_paint_234 (z345, z346, x13, z347, z348, x15, fn0, fm1) (show 0 ≤ (Int32.toInt 0) ∧ (Int32.toInt 0) ≤ 6 ∧ 0 ≤ (Int32.toInt z346) ∧ (Int32.toInt z346) ≤ 1 ∧ 0 ≤ (Int32.toInt x13) ∧ (Int32.toInt x13) ≤ 400 ∧ 0 ≤ (Int32.toInt x15) ∧ (Int32.toInt x15) ≤ 1 from ⟨(by ((repeat' apply And.intro) <;> first | trivial | rfl | assumption | omega | decide | exact Or.inl rfl | exact Or.inr (Or.inl rfl) | exact Or.inr (Or.inr rfl))), (by ((repeat' apply And.intro) <;> first | trivial | rfl | assumption | omega | decide | exact Or.inl rfl | exact Or.inr (Or.inl rfl) | exact Or.inr (Or.inr rfl))), (show _ ∧ _ from ⟨p353, p354⟩).1, (show _ ∧ _ from ⟨p353, p354⟩).2, i_x13.1, i_x13.2, i_x15.1, i_x15.2⟩) [2, 3, 4, 5, 0, 1] (by decide) rfl (Nat.le_of_ble_eq_true rfl) (Nat.le_of_ble_eq_true rfl)
                                                  · skip
                                                    have k355 : ¬ ((Int32.toInt x0) = 28) := fun h_9 => c343 ((fa_eq x0 28).mpr h_9)
                                                    by_cases c356 : x0 = 29
                                                    · skip
                                                      have k357 : (Int32.toInt x0) = 29 := (fa_eq x0 29).mp c356
                                                      refine r_tableIn 20 229 29 C dX9_paint_20 c356 (by decide) (by decide) rfl (by decide) ?_
                                                      refine r_aload_n 229 2 C dX9_paint_229 rfl ?_
                                                      refine r_iload_n 230 3 C dX9_paint_230 rfl ?_
                                                      refine r_callVi 231 C dX9_paint_231 [] [(h0, .inr (8, [.ref h1, .ref h2, .ref h6, .int x1, .int x2, .long y0, .int x3, .int x4, .int x5, .int x6, .ref h7, .ref h8, .ref h9, .int x7, .int x8, .ref h10, .ref h11, .int x9, .ref h12, .int x10])), (h1, .inr (6, [.ref h3, .ref h13, .int x11, .int x12])), (h2, .inr (5, [.ref h4, .ref h5, .int x13, .int x14, .long y1, .long y2, .int x15])), (h3, .inl (gJ g, 48, .inr (.inl fm0)))] [(h4, .inl (gB g, 400, .inl fn0)), (h5, .inl (gJ g, 2400, .inr (.inl fm1)))] (fun sz => c258_X9_paintNothing l g h0 h1 h2 h3 x0 h6 x1 x2 y0 x3 x4 x5 x6 h7 h8 h9 x7 x8 h10 h11 x9 h12 x10 h13 x11 x12 h4 h5 x13 x14 y1 y2 x15 fm0 i_x6 i_x7 i_x8 i_x9 i_x10 i_x11 i_x12 i_x13 i_x14 i_x15 sz) gX9_paint_X9_paintNothing rfl ⟨rfl, rfl⟩ 1 (by decide) ⟨Nat.le_of_ble_eq_true rfl, Nat.le_of_ble_eq_true rfl⟩ 0 rfl rfl [0, 4, 1, 5] [2, 3] rfl rfl (by decide) (by decide) (by decide) rfl rfl (Nat.le_of_ble_eq_true rfl) ⟨Nat.le_of_ble_eq_true rfl, Nat.le_of_ble_eq_true rfl⟩ (fun r362 u364 w363 => ?_)
                                                      obtain ⟨z358, z359, z360, z361⟩ := u364
                                                      refine r_ws [(h4, .inl (gB g, 400, .inl fn0)), (h5, .inl (gJ g, 2400, .inr (.inl fm1))), (h0, .inr (8, [.ref h1, .ref h2, .ref h6, .int x1, .int x2, .long z358, .int x3, .int x4, .int x5, .int z359, .ref h7, .ref h8, .ref h9, .int x7, .int x8, .ref h10, .ref h11, .int x9, .ref h12, .int x10])), (h1, .inr (6, [.ref h3, .ref h13, .int x11, .int x12])), (h2, .inr (5, [.ref h4, .ref h5, .int x13, .int x14, .long z360, .long z361, .int x15])), (h3, .inl (gJ g, 48, .inr (.inl fm0)))] rfl ?_
                                                      have gz358 := fb_rngL z358
                                                      have gz360 := fb_rngL z360
                                                      have gz361 := fb_rngL z361
                                                      have p365 : 0 = r362 := (w363.1).symm
                                                      subst p365
                                                      have p366 : 0 ≤ (Int32.toInt z359) := w363.2.1
                                                      have p367 : (Int32.toInt z359) ≤ 1 := w363.2.2
                                                      exact r_iret 234 Rt dX9_paint_234 (z358, z359, x13, z360, z361, x15, fn0, fm1) (show 0 ≤ (Int32.toInt 0) ∧ (Int32.toInt 0) ≤ 6 ∧ 0 ≤ (Int32.toInt z359) ∧ (Int32.toInt z359) ≤ 1 ∧ 0 ≤ (Int32.toInt x13) ∧ (Int32.toInt x13) ≤ 400 ∧ 0 ≤ (Int32.toInt x15) ∧ (Int32.toInt x15) ≤ 1 from ⟨(by ((repeat' apply And.intro) <;> first | trivial | rfl | assumption | omega | decide | exact Or.inl rfl | exact Or.inr (Or.inl rfl) | exact Or.inr (Or.inr rfl))), (by ((repeat' apply And.intro) <;> first | trivial | rfl | assumption | omega | decide | exact Or.inl rfl | exact Or.inr (Or.inl rfl) | exact Or.inr (Or.inr rfl))), (show _ ∧ _ from ⟨p366, p367⟩).1, (show _ ∧ _ from ⟨p366, p367⟩).2, i_x13.1, i_x13.2, i_x15.1, i_x15.2⟩) [2, 3, 4, 5, 0, 1] (by decide) rfl (Nat.le_of_ble_eq_true rfl) (Nat.le_of_ble_eq_true rfl)
                                                    · skip
                                                      have k368 : ¬ ((Int32.toInt x0) = 29) := fun h_9 => c356 ((fa_eq x0 29).mpr h_9)
                                                      by_cases c369 : x0 = 30
                                                      · skip
                                                        have k370 : (Int32.toInt x0) = 30 := (fa_eq x0 30).mp c369
                                                        refine r_tableIn 20 217 30 C dX9_paint_20 c369 (by decide) (by decide) rfl (by decide) ?_
                                                        refine r_aload_n 217 2 C dX9_paint_217 rfl ?_
                                                        refine r_iconst 218 0 C dX9_paint_218 (by decide) ?_
                                                        refine r_callUi 219 C dX9_paint_219 [] [(h0, .inr (8, [.ref h1, .ref h2, .ref h6, .int x1, .int x2, .long y0, .int x3, .int x4, .int x5, .int x6, .ref h7, .ref h8, .ref h9, .int x7, .int x8, .ref h10, .ref h11, .int x9, .ref h12, .int x10])), (h1, .inr (6, [.ref h3, .ref h13, .int x11, .int x12])), (h2, .inr (5, [.ref h4, .ref h5, .int x13, .int x14, .long y1, .long y2, .int x15])), (h3, .inl (gJ g, 48, .inr (.inl fm0))), (h4, .inl (gB g, 400, .inl fn0)), (h5, .inl (gJ g, 2400, .inr (.inl fm1)))] [] (fun sz => c259_X4_turningCurves l g h0 h1 h2 h3 h4 h5 0 h6 x1 x2 y0 x3 x4 x5 x6 h7 h8 h9 x7 x8 h10 h11 x9 h12 x10 h13 x11 x12 x13 x14 y1 y2 x15 fm0 fn0 fm1 (by decide) i_x6 i_x7 i_x8 i_x9 i_x10 i_x11 i_x12 i_x13 i_x14 i_x15 sz) gX9_paint_X4_turningCurves_u109X9 rfl ⟨rfl, rfl⟩ 1 rfl (by decide) ⟨Nat.le_of_ble_eq_true rfl, Nat.le_of_ble_eq_true rfl⟩ 0 rfl rfl [0, 4, 1, 5, 2, 3] [] rfl rfl (by decide) (by decide) (by decide) rfl rfl (Nat.le_of_ble_eq_true rfl) ⟨Nat.le_of_ble_eq_true rfl, Nat.le_of_ble_eq_true rfl⟩ (fun r377 u379 w378 => ?_)
                                                        obtain ⟨z371, z372, z373, z374, f375, f376⟩ := u379
                                                        refine r_ws [(h0, .inr (8, [.ref h1, .ref h2, .ref h6, .int x1, .int x2, .long y0, .int x3, .int x4, .int x5, .int x6, .ref h7, .ref h8, .ref h9, .int x7, .int x8, .ref h10, .ref h11, .int x9, .ref h12, .int x10])), (h1, .inr (6, [.ref h3, .ref h13, .int x11, .int x12])), (h2, .inr (5, [.ref h4, .ref h5, .int z371, .int x14, .long z372, .long z373, .int z374])), (h3, .inl (gJ g, 48, .inr (.inl fm0))), (h4, .inl (gB g, 400, .inl f375)), (h5, .inl (gJ g, 2400, .inr (.inl f376)))] rfl ?_
                                                        have gz372 := fb_rngL z372
                                                        have gz373 := fb_rngL z373
                                                        have p380 : 0 ≤ (Int32.toInt r377) := w378.1
                                                        have p381 : (Int32.toInt r377) ≤ 6 := w378.2.1
                                                        have p382 : 0 ≤ (Int32.toInt z371) := w378.2.2.1
                                                        have p383 : (Int32.toInt z371) ≤ 400 := w378.2.2.2.1
                                                        have p384 : 0 ≤ (Int32.toInt z374) := w378.2.2.2.2.1
                                                        have p385 : (Int32.toInt z374) ≤ 1 := w378.2.2.2.2.2
                                                        exact r_iret 222 Rt dX9_paint_222 (y0, x6, z371, z372, z373, z374, f375, f376) (show 0 ≤ (Int32.toInt r377) ∧ (Int32.toInt r377) ≤ 6 ∧ 0 ≤ (Int32.toInt x6) ∧ (Int32.toInt x6) ≤ 1 ∧ 0 ≤ (Int32.toInt z371) ∧ (Int32.toInt z371) ≤ 400 ∧ 0 ≤ (Int32.toInt z374) ∧ (Int32.toInt z374) ≤ 1 from ⟨(show _ ∧ _ from ⟨p380, p381⟩).1, (show _ ∧ _ from ⟨p380, p381⟩).2, i_x6.1, i_x6.2, (show _ ∧ _ from ⟨p382, p383⟩).1, (show _ ∧ _ from ⟨p382, p383⟩).2, (show _ ∧ _ from ⟨p384, p385⟩).1, (show _ ∧ _ from ⟨p384, p385⟩).2⟩) [0, 1, 2, 3, 4, 5] (by decide) rfl (Nat.le_of_ble_eq_true rfl) (Nat.le_of_ble_eq_true rfl)
                                                      · skip
                                                        have k386 : ¬ ((Int32.toInt x0) = 30) := fun h_9 => c369 ((fa_eq x0 30).mpr h_9)
                                                        by_cases c387 : x0 = 31
                                                        · skip
                                                          have k388 : (Int32.toInt x0) = 31 := (fa_eq x0 31).mp c387
                                                          refine r_tableIn 20 223 31 C dX9_paint_20 c387 (by decide) (by decide) rfl (by decide) ?_
                                                          refine r_aload_n 223 2 C dX9_paint_223 rfl ?_
                                                          refine r_iconst 224 1 C dX9_paint_224 (by decide) ?_
                                                          refine r_callUi 225 C dX9_paint_225 [] [(h0, .inr (8, [.ref h1, .ref h2, .ref h6, .int x1, .int x2, .long y0, .int x3, .int x4, .int x5, .int x6, .ref h7, .ref h8, .ref h9, .int x7, .int x8, .ref h10, .ref h11, .int x9, .ref h12, .int x10])), (h1, .inr (6, [.ref h3, .ref h13, .int x11, .int x12])), (h2, .inr (5, [.ref h4, .ref h5, .int x13, .int x14, .long y1, .long y2, .int x15])), (h3, .inl (gJ g, 48, .inr (.inl fm0))), (h4, .inl (gB g, 400, .inl fn0)), (h5, .inl (gJ g, 2400, .inr (.inl fm1)))] [] (fun sz => c259_X4_turningCurves l g h0 h1 h2 h3 h4 h5 1 h6 x1 x2 y0 x3 x4 x5 x6 h7 h8 h9 x7 x8 h10 h11 x9 h12 x10 h13 x11 x12 x13 x14 y1 y2 x15 fm0 fn0 fm1 (by decide) i_x6 i_x7 i_x8 i_x9 i_x10 i_x11 i_x12 i_x13 i_x14 i_x15 sz) gX9_paint_X4_turningCurves_u109X9 rfl ⟨rfl, rfl⟩ 1 rfl (by decide) ⟨Nat.le_of_ble_eq_true rfl, Nat.le_of_ble_eq_true rfl⟩ 0 rfl rfl [0, 4, 1, 5, 2, 3] [] rfl rfl (by decide) (by decide) (by decide) rfl rfl (Nat.le_of_ble_eq_true rfl) ⟨Nat.le_of_ble_eq_true rfl, Nat.le_of_ble_eq_true rfl⟩ (fun r395 u397 w396 => ?_)
                                                          obtain ⟨z389, z390, z391, z392, f393, f394⟩ := u397
                                                          refine r_ws [(h0, .inr (8, [.ref h1, .ref h2, .ref h6, .int x1, .int x2, .long y0, .int x3, .int x4, .int x5, .int x6, .ref h7, .ref h8, .ref h9, .int x7, .int x8, .ref h10, .ref h11, .int x9, .ref h12, .int x10])), (h1, .inr (6, [.ref h3, .ref h13, .int x11, .int x12])), (h2, .inr (5, [.ref h4, .ref h5, .int z389, .int x14, .long z390, .long z391, .int z392])), (h3, .inl (gJ g, 48, .inr (.inl fm0))), (h4, .inl (gB g, 400, .inl f393)), (h5, .inl (gJ g, 2400, .inr (.inl f394)))] rfl ?_
                                                          have gz390 := fb_rngL z390
                                                          have gz391 := fb_rngL z391
                                                          have p398 : 0 ≤ (Int32.toInt r395) := w396.1
                                                          have p399 : (Int32.toInt r395) ≤ 6 := w396.2.1
                                                          have p400 : 0 ≤ (Int32.toInt z389) := w396.2.2.1
                                                          have p401 : (Int32.toInt z389) ≤ 400 := w396.2.2.2.1
                                                          have p402 : 0 ≤ (Int32.toInt z392) := w396.2.2.2.2.1
                                                          have p403 : (Int32.toInt z392) ≤ 1 := w396.2.2.2.2.2
                                                          exact r_iret 228 Rt dX9_paint_228 (y0, x6, z389, z390, z391, z392, f393, f394) (show 0 ≤ (Int32.toInt r395) ∧ (Int32.toInt r395) ≤ 6 ∧ 0 ≤ (Int32.toInt x6) ∧ (Int32.toInt x6) ≤ 1 ∧ 0 ≤ (Int32.toInt z389) ∧ (Int32.toInt z389) ≤ 400 ∧ 0 ≤ (Int32.toInt z392) ∧ (Int32.toInt z392) ≤ 1 from ⟨(show _ ∧ _ from ⟨p398, p399⟩).1, (show _ ∧ _ from ⟨p398, p399⟩).2, i_x6.1, i_x6.2, (show _ ∧ _ from ⟨p400, p401⟩).1, (show _ ∧ _ from ⟨p400, p401⟩).2, (show _ ∧ _ from ⟨p402, p403⟩).1, (show _ ∧ _ from ⟨p402, p403⟩).2⟩) [0, 1, 2, 3, 4, 5] (by decide) rfl (Nat.le_of_ble_eq_true rfl) (Nat.le_of_ble_eq_true rfl)
                                                        · skip
                                                          have k404 : ¬ ((Int32.toInt x0) = 31) := fun h_9 => c387 ((fa_eq x0 31).mpr h_9)
                                                          refine r_tableOut 20 229 C dX9_paint_20 (by omega) (by decide) ?_
                                                          refine r_aload_n 229 2 C dX9_paint_229 rfl ?_
                                                          refine r_iload_n 230 3 C dX9_paint_230 rfl ?_
                                                          refine r_callVi 231 C dX9_paint_231 [] [(h0, .inr (8, [.ref h1, .ref h2, .ref h6, .int x1, .int x2, .long y0, .int x3, .int x4, .int x5, .int x6, .ref h7, .ref h8, .ref h9, .int x7, .int x8, .ref h10, .ref h11, .int x9, .ref h12, .int x10])), (h1, .inr (6, [.ref h3, .ref h13, .int x11, .int x12])), (h2, .inr (5, [.ref h4, .ref h5, .int x13, .int x14, .long y1, .long y2, .int x15])), (h3, .inl (gJ g, 48, .inr (.inl fm0)))] [(h4, .inl (gB g, 400, .inl fn0)), (h5, .inl (gJ g, 2400, .inr (.inl fm1)))] (fun sz => c258_X9_paintNothing l g h0 h1 h2 h3 x0 h6 x1 x2 y0 x3 x4 x5 x6 h7 h8 h9 x7 x8 h10 h11 x9 h12 x10 h13 x11 x12 h4 h5 x13 x14 y1 y2 x15 fm0 i_x6 i_x7 i_x8 i_x9 i_x10 i_x11 i_x12 i_x13 i_x14 i_x15 sz) gX9_paint_X9_paintNothing rfl ⟨rfl, rfl⟩ 1 (by decide) ⟨Nat.le_of_ble_eq_true rfl, Nat.le_of_ble_eq_true rfl⟩ 0 rfl rfl [0, 4, 1, 5] [2, 3] rfl rfl (by decide) (by decide) (by decide) rfl rfl (Nat.le_of_ble_eq_true rfl) ⟨Nat.le_of_ble_eq_true rfl, Nat.le_of_ble_eq_true rfl⟩ (fun r409 u411 w410 => ?_)
                                                          obtain ⟨z405, z406, z407, z408⟩ := u411
                                                          refine r_ws [(h4, .inl (gB g, 400, .inl fn0)), (h5, .inl (gJ g, 2400, .inr (.inl fm1))), (h0, .inr (8, [.ref h1, .ref h2, .ref h6, .int x1, .int x2, .long z405, .int x3, .int x4, .int x5, .int z406, .ref h7, .ref h8, .ref h9, .int x7, .int x8, .ref h10, .ref h11, .int x9, .ref h12, .int x10])), (h1, .inr (6, [.ref h3, .ref h13, .int x11, .int x12])), (h2, .inr (5, [.ref h4, .ref h5, .int x13, .int x14, .long z407, .long z408, .int x15])), (h3, .inl (gJ g, 48, .inr (.inl fm0)))] rfl ?_
                                                          have gz405 := fb_rngL z405
                                                          have gz407 := fb_rngL z407
                                                          have gz408 := fb_rngL z408
                                                          have p412 : 0 = r409 := (w410.1).symm
                                                          subst p412
                                                          have p413 : 0 ≤ (Int32.toInt z406) := w410.2.1
                                                          have p414 : (Int32.toInt z406) ≤ 1 := w410.2.2
                                                          exact r_iret 234 Rt dX9_paint_234 (z405, z406, x13, z407, z408, x15, fn0, fm1) (show 0 ≤ (Int32.toInt 0) ∧ (Int32.toInt 0) ≤ 6 ∧ 0 ≤ (Int32.toInt z406) ∧ (Int32.toInt z406) ≤ 1 ∧ 0 ≤ (Int32.toInt x13) ∧ (Int32.toInt x13) ≤ 400 ∧ 0 ≤ (Int32.toInt x15) ∧ (Int32.toInt x15) ≤ 1 from ⟨(by ((repeat' apply And.intro) <;> first | trivial | rfl | assumption | omega | decide | exact Or.inl rfl | exact Or.inr (Or.inl rfl) | exact Or.inr (Or.inr rfl))), (by ((repeat' apply And.intro) <;> first | trivial | rfl | assumption | omega | decide | exact Or.inl rfl | exact Or.inr (Or.inl rfl) | exact Or.inr (Or.inr rfl))), (show _ ∧ _ from ⟨p413, p414⟩).1, (show _ ∧ _ from ⟨p413, p414⟩).2, i_x13.1, i_x13.2, i_x15.1, i_x15.2⟩) [2, 3, 4, 5, 0, 1] (by decide) rfl (Nat.le_of_ble_eq_true rfl) (Nat.le_of_ble_eq_true rfl)
