set_option maxHeartbeats 4000000 in
set_option maxRecDepth 100000 in
theorem c56_X1_takeNumber (l : Launch) (g : GD) (h0 : Nat) (h1 : Nat) (h2 : Nat) (x0 : Int32) (h3 : Nat) (h4 : Nat) (x1 : Int32) (y0 : Int64) (y1 : Int64) (x2 : Int32) (x3 : Int32) (y2 : Int64) (y3 : Int64) (x4 : Int32) (fn0 : Nat → Int32) (i_x2 : (-257 ≤ (Int32.toInt x2) ∧ (Int32.toInt x2) ≤ 65535)) (i_x4 : (0 ≤ (Int32.toInt x4) ∧ (Int32.toInt x4) ≤ 1500)) (sz : Nat) : Met l yX1_takeNumber wsX1_takeNumber ({ frames := 2, cells := 0, slots := 0, locals := 43 }) (va_Pc [.ref h0, .int x0] (PW g [(h0, .inr (1, [.ref h3, .ref h4, .ref h1, .int x1, .long y0, .long y1, .int x2, .int x3, .long y2, .long y3])), (h1, .inr (4, [.ref h2, .int x4])), (h2, .inl (gB g, 1500, .inl fn0))] sz)) (va_Ql (fun (r : Int64) (u : (Int32) × (Int64)) => True) (BW g (va_A [(h0, .inr (1, [.ref h3, .ref h4, .ref h1, .int x1, .long y0, .long y1, .int x2, .int x3, .long y2, .long y3])), (h1, .inr (4, [.ref h2, .int x4])), (h2, .inl (gB g, 1500, .inl fn0))] sz) (fun u : (Int32) × (Int64) => [(h0, .inr (1, [.ref h3, .ref h4, .ref h1, .int u.1, .long u.2, .long y1, .int x2, .int x3, .long y2, .long y3])), (h1, .inr (4, [.ref h2, .int x4])), (h2, .inl (gB g, 1500, .inl fn0))])) (va_A [(h0, .inr (1, [.ref h3, .ref h4, .ref h1, .int x1, .long y0, .long y1, .int x2, .int x3, .long y2, .long y3])), (h1, .inr (4, [.ref h2, .int x4])), (h2, .inl (gB g, 1500, .inl fn0))] sz)) 0 0 (va_A [(h0, .inr (1, [.ref h3, .ref h4, .ref h1, .int x1, .long y0, .long y1, .int x2, .int x3, .long y2, .long y3])), (h1, .inr (4, [.ref h2, .int x4])), (h2, .inl (gB g, 1500, .inl fn0))] sz) := by
  refine met_l RX1 (by decide) rfl rfl (Nat.le_of_ble_eq_true rfl) [(0, .ref h0), (1, .int x0)] rfl ?_
  intro p e s m args below meth c A Q C hnm Rt
  have gx0 := fb_rng x0
  have hiX1 : ∀ w ∈ wsX10, w ∈ wsX1_takeNumber := fun w h => List.mem_cons_of_mem _ (List.mem_append_left _ (List.mem_append_right _ (h)))
  refine r_lconst 0 0 C dX1_takeNumber_0 (by decide) ?_
  refine r_lstore_n 1 C dX1_takeNumber_1 [(2, .long 0), (0, .ref h0), (1, .int x0)] (by decide) rfl ?_
  refine r_iconst 2 0 C dX1_takeNumber_2 (by decide) ?_
  refine r_istore 3 C dX1_takeNumber_3 [(4, .int 0), (2, .long 0), (0, .ref h0), (1, .int x0)] (by decide) rfl ?_
  have lp6 : ∀ (n5 : Nat) (z1 : Int32) (z2 : Int64) (z3 : Int32) (z4 : Int64), (0 ≤ (Int32.toInt z1) ∧ (Int32.toInt z1) ≤ 2147483647) → Int.toNat (2147483647 - (Int32.toInt z1)) < n5 → WW p l e ({ frames := 2, cells := 0, slots := 0, locals := 43 } : Room) s m args below meth c A Q g 5 0 0 [(h0, .inr (1, [.ref h3, .ref h4, .ref h1, .int z3, .long z4, .long y1, .int x2, .int x3, .long y2, .long y3])), (h1, .inr (4, [.ref h2, .int x4])), (h2, .inl (gB g, 1500, .inl fn0))] 5 [(4, .int z1), (2, .long z2), (0, .ref h0), (1, .int x0)] [] := by
    intro n5
    induction n5 with
    | zero => intro z1 z2 z3 z4 i9 hm8; exact absurd hm8 (Nat.not_lt_zero _)
    | succ n5 ih7 =>
      intro z1 z2 z3 z4 i9 hm8
      obtain ⟨i9a, i9b⟩ := i9
      have gz2 := fb_rngL z2
      have gz3 := fb_rng z3
      have gz4 := fb_rngL z4
      refine r_iload 5 0 C dX1_takeNumber_5 rfl ?_
      refine r_iload_n 7 3 C dX1_takeNumber_7 rfl ?_
      refine r_icmp_ge 8 36 C dX1_takeNumber_8 (by decide) (fun c10 => ?_) (fun c10 => ?_)
      · skip
        have k11 : (Int32.toInt x0) ≤ (Int32.toInt z1) := (fa_le x0 z1).mp c10
        refine r_aload_n 36 2 C dX1_takeNumber_36 rfl ?_
        refine r_get 37 C dX1_takeNumber_37 (k := 3) 0 rfl rfl hiX1 (by decide) rfl (mg 1 rfl) (Or.inl rfl) rfl ?_
        refine r_if_ne 40 47 C dX1_takeNumber_40 (by decide) (fun c12 => ?_) (fun c12 => ?_)
        · skip
          have k13 : ¬ ((Int32.toInt z3) = 0) := fun h_9 => c12 ((fa_eq z3 0).mpr h_9)
          refine r_lconst 47 0 C dX1_takeNumber_47 (by decide) ?_
          exact r_lret 48 Rt dX1_takeNumber_48 (z3, z4) trivial [0, 1, 2] (by decide) rfl (Nat.le_of_ble_eq_true rfl) (Nat.le_of_ble_eq_true rfl)
        · skip
          have k14 : (Int32.toInt z3) = 0 := (fa_eq z3 0).mp c12
          refine r_lload_n 43 1 C dX1_takeNumber_43 rfl ?_
          refine r_goto 44 48 C dX1_takeNumber_44 (by decide) ?_
          exact r_lret 48 Rt dX1_takeNumber_48 (z3, z4) trivial [0, 1, 2] (by decide) rfl (Nat.le_of_ble_eq_true rfl) (Nat.le_of_ble_eq_true rfl)
      · skip
        have k15 : ¬ ((Int32.toInt x0) ≤ (Int32.toInt z1)) := fun h_9 => c10 ((fa_le x0 z1).mpr h_9)
        refine r_aload_n 11 2 C dX1_takeNumber_11 rfl ?_
        refine r_get 12 C dX1_takeNumber_12 (k := 3) 0 rfl rfl hiX1 (by decide) rfl (mg 1 rfl) (Or.inl rfl) rfl ?_
        refine r_if_ne 15 36 C dX1_takeNumber_15 (by decide) (fun c16 => ?_) (fun c16 => ?_)
        · skip
          have k17 : ¬ ((Int32.toInt z3) = 0) := fun h_9 => c16 ((fa_eq z3 0).mpr h_9)
          refine r_aload_n 36 2 C dX1_takeNumber_36 rfl ?_
          refine r_get 37 C dX1_takeNumber_37 (k := 3) 0 rfl rfl hiX1 (by decide) rfl (mg 1 rfl) (Or.inl rfl) rfl ?_
          refine r_if_ne 40 47 C dX1_takeNumber_40 (by decide) (fun c18 => ?_) (fun c18 => ?_)
          · skip
            have k19 : ¬ ((Int32.toInt z3) = 0) := fun h_9 => c18 ((fa_eq z3 0).mpr h_9)
            refine r_lconst 47 0 C dX1_takeNumber_47 (by decide) ?_
            exact r_lret 48 Rt dX1_takeNumber_48 (z3, z4) trivial [0, 1, 2] (by decide) rfl (Nat.le_of_ble_eq_true rfl) (Nat.le_of_ble_eq_true rfl)
          · skip
            have k20 : (Int32.toInt z3) = 0 := (fa_eq z3 0).mp c18
            refine r_lload_n 43 1 C dX1_takeNumber_43 rfl ?_
            refine r_goto 44 48 C dX1_takeNumber_44 (by decide) ?_
            exact r_lret 48 Rt dX1_takeNumber_48 (z3, z4) trivial [0, 1, 2] (by decide) rfl (Nat.le_of_ble_eq_true rfl) (Nat.le_of_ble_eq_true rfl)
        · skip
          have k21 : (Int32.toInt z3) = 0 := (fa_eq z3 0).mp c16
          refine r_lload_n 18 1 C dX1_takeNumber_18 rfl ?_
          refine r_ldc2 19 256 C dX1_takeNumber_19 (mg 2 rfl) ?_
          obtain ⟨z22, ez22⟩ : ∃ z_9, z2 * 256 = z_9 := ⟨_, rfl⟩
          have gz22 := fb_rngL z22
          refine r_lmul 22 z22 C dX1_takeNumber_22 ez22 ?_
          refine r_aload_n 23 2 C dX1_takeNumber_23 rfl ?_
          refine r_callVi 24 C dX1_takeNumber_24 [.long z22] [(h0, .inr (1, [.ref h3, .ref h4, .ref h1, .int z3, .long z4, .long y1, .int x2, .int x3, .long y2, .long y3])), (h1, .inr (4, [.ref h2, .int x4])), (h2, .inl (gB g, 1500, .inl fn0))] [] (fun sz => c52_X1_take l g h0 h1 h2 h3 h4 z3 z4 y1 x2 x3 y2 y3 x4 fn0 i_x2 i_x4 sz) gX1_takeNumber_X1_take rfl ⟨rfl, rfl⟩ 0 (by decide) ⟨Nat.le_of_ble_eq_true rfl, Nat.le_of_ble_eq_true rfl⟩ 0 rfl rfl [0, 1, 2] [] rfl rfl (by decide) (by decide) (by decide) rfl rfl (Nat.le_of_ble_eq_true rfl) ⟨Nat.le_of_ble_eq_true rfl, Nat.le_of_ble_eq_true rfl⟩ (fun r25 u27 w26 => ?_)
          obtain ⟨z23, z24⟩ := u27
          refine r_ws [(h0, .inr (1, [.ref h3, .ref h4, .ref h1, .int z23, .long z24, .long y1, .int x2, .int x3, .long y2, .long y3])), (h1, .inr (4, [.ref h2, .int x4])), (h2, .inl (gB g, 1500, .inl fn0))] rfl ?_
          have gz23 := fb_rng z23
          have gz24 := fb_rngL z24
          have p28 : -1 ≤ (Int32.toInt r25) := w26.1
          have p29 : (Int32.toInt r25) ≤ 255 := w26.2
          obtain ⟨z30, ez30⟩ : ∃ z_9, Int32.toInt64 r25 = z_9 := ⟨_, rfl⟩
          have tz30 : (Int64.toInt z30) = (Int32.toInt r25) := by rw [← ez30]; exact Int32.toInt_toInt64 _
          refine r_i2l 27 z30 C dX1_takeNumber_27 ez30 ?_
          obtain ⟨z31, ez31⟩ : ∃ z_9, z22 + z30 = z_9 := ⟨_, rfl⟩
          have gz31 := fb_rngL z31
          refine r_ladd 28 z31 C dX1_takeNumber_28 ez31 ?_
          refine r_lstore_n 29 C dX1_takeNumber_29 [(2, .long z31), (4, .int z1), (0, .ref h0), (1, .int x0)] (by decide) rfl ?_
          obtain ⟨z32, ez32⟩ : ∃ z_9, z1 + Int32.ofInt 1 = z_9 := ⟨_, rfl⟩
          have tz32 : (Int32.toInt z32) = (Int32.toInt z1) + 1 := by rw [← ez32]; exact fb_addI (by show -2147483648 ≤ (Int32.toInt z1) + 1; omega) (by show (Int32.toInt z1) + 1 < 2147483648; omega)
          refine r_iinc 30 1 z32 C dX1_takeNumber_30 rfl ez32 [(4, .int z32), (2, .long z31), (0, .ref h0), (1, .int x0)] (by decide) rfl ?_
          refine r_goto 33 5 C dX1_takeNumber_33 (by decide) ?_
          exact ih7 z32 z31 z23 z24 ⟨by omega, by omega⟩ (by omega)
  exact lp6 _ 0 0 x1 y0 (by decide) (Nat.lt_succ_self _)
set_option maxHeartbeats 4000000 in
set_option maxRecDepth 100000 in
theorem c57_X1_takeIndex (l : Launch) (g : GD) (h0 : Nat) (h1 : Nat) (h2 : Nat) (x0 : Int32) (x1 : Int32) (h3 : Nat) (h4 : Nat) (x2 : Int32) (y0 : Int64) (y1 : Int64) (x3 : Int32) (x4 : Int32) (y2 : Int64) (y3 : Int64) (x5 : Int32) (fn0 : Nat → Int32) (i_x3 : (-257 ≤ (Int32.toInt x3) ∧ (Int32.toInt x3) ≤ 65535)) (i_x5 : (0 ≤ (Int32.toInt x5) ∧ (Int32.toInt x5) ≤ 1500)) (sz : Nat) : Met l yX1_takeIndex wsX1_takeIndex ({ frames := 3, cells := 0, slots := 0, locals := 67 }) (va_Pc [.ref h0, .int x0, .int x1] (PW g [(h0, .inr (1, [.ref h3, .ref h4, .ref h1, .int x2, .long y0, .long y1, .int x3, .int x4, .long y2, .long y3])), (h1, .inr (4, [.ref h2, .int x5])), (h2, .inl (gB g, 1500, .inl fn0))] sz)) (va_Qv (fun (u : (Int32) × (Int64) × (Int32) × (Int32) × (Int64) × (Int64)) => -257 ≤ (Int32.toInt (u.2.2.1)) ∧ (Int32.toInt (u.2.2.1)) ≤ 65535) (BW g (va_A [(h0, .inr (1, [.ref h3, .ref h4, .ref h1, .int x2, .long y0, .long y1, .int x3, .int x4, .long y2, .long y3])), (h1, .inr (4, [.ref h2, .int x5])), (h2, .inl (gB g, 1500, .inl fn0))] sz) (fun u : (Int32) × (Int64) × (Int32) × (Int32) × (Int64) × (Int64) => [(h0, .inr (1, [.ref h3, .ref h4, .ref h1, .int u.1, .long u.2.1, .long y1, .int u.2.2.1, .int u.2.2.2.1, .long u.2.2.2.2.1, .long u.2.2.2.2.2])), (h1, .inr (4, [.ref h2, .int x5])), (h2, .inl (gB g, 1500, .inl fn0))])) (va_A [(h0, .inr (1, [.ref h3, .ref h4, .ref h1, .int x2, .long y0, .long y1, .int x3, .int x4, .long y2, .long y3])), (h1, .inr (4, [.ref h2, .int x5])), (h2, .inl (gB g, 1500, .inl fn0))] sz)) 0 0 (va_A [(h0, .inr (1, [.ref h3, .ref h4, .ref h1, .int x2, .long y0, .long y1, .int x3, .int x4, .long y2, .long y3])), (h1, .inr (4, [.ref h2, .int x5])), (h2, .inl (gB g, 1500, .inl fn0))] sz) := by
  refine met_v RX1 (by decide) rfl rfl (Nat.le_of_ble_eq_true rfl) [(0, .ref h0), (1, .int x0), (2, .int x1)] rfl ?_
  intro p e s m args below meth c A Q C hnm Rt
  have gx0 := fb_rng x0
  have gx1 := fb_rng x1
  have hiX1 : ∀ w ∈ wsX10, w ∈ wsX1_takeIndex := fun w h => List.mem_cons_of_mem _ (List.mem_append_left _ (List.mem_append_right _ (h)))
  refine r_aload_n 0 0 C dX1_takeIndex_0 rfl ?_
  refine r_aload_n 1 0 C dX1_takeIndex_1 rfl ?_
  refine r_iconst 2 2 C dX1_takeIndex_2 (by decide) ?_
  refine r_callVl 3 C dX1_takeIndex_3 [.ref h0] [(h0, .inr (1, [.ref h3, .ref h4, .ref h1, .int x2, .long y0, .long y1, .int x3, .int x4, .long y2, .long y3])), (h1, .inr (4, [.ref h2, .int x5])), (h2, .inl (gB g, 1500, .inl fn0))] [] (fun sz => c55_X1_takeNumber l g h0 h1 h2 h3 h4 x2 y0 y1 x3 x4 y2 y3 x5 fn0 i_x3 i_x5 sz) gX1_takeIndex_X1_takeNumber rfl ⟨rfl, rfl⟩ 1 (by decide) ⟨Nat.le_of_ble_eq_true rfl, Nat.le_of_ble_eq_true rfl⟩ 0 rfl rfl [0, 1, 2] [] rfl rfl (by decide) (by decide) (by decide) rfl rfl (Nat.le_of_ble_eq_true rfl) ⟨Nat.le_of_ble_eq_true rfl, Nat.le_of_ble_eq_true rfl⟩ (fun r3 u5 w4 => ?_)
  obtain ⟨z1, z2⟩ := u5
  refine r_ws [(h0, .inr (1, [.ref h3, .ref h4, .ref h1, .int z1, .long z2, .long y1, .int x3, .int x4, .long y2, .long y3])), (h1, .inr (4, [.ref h2, .int x5])), (h2, .inl (gB g, 1500, .inl fn0))] rfl ?_
  have gz1 := fb_rng z1
  have gz2 := fb_rngL z2
  have p6 : -257 ≤ (Int64.toInt r3) := w4.1
  have p7 : (Int64.toInt r3) ≤ 65535 := w4.2
  obtain ⟨z8, ez8⟩ : ∃ z_9, Int64.toInt32 r3 = z_9 := ⟨_, rfl⟩
  have tz8 : (Int32.toInt z8) = (Int64.toInt r3) := by rw [← ez8]; exact l2i_in (by omega) (by omega)
  refine r_l2i 6 z8 C dX1_takeIndex_6 ez8 ?_
  refine r_put 7 C dX1_takeIndex_7 (k := 6) 0 rfl rfl hiX1 tyX1 tyX1_ok nmX1 (by decide) rfl (mg 1 rfl) (Or.inl rfl) rfl rfl rfl rfl (Nat.le_of_ble_eq_true rfl) [(h0, .inr (1, [.ref h3, .ref h4, .ref h1, .int z1, .long z2, .long y1, .int z8, .int x4, .long y2, .long y3])), (h1, .inr (4, [.ref h2, .int x5])), (h2, .inl (gB g, 1500, .inl fn0))] rfl ?_
  refine r_aload_n 10 0 C dX1_takeIndex_10 rfl ?_
  refine r_aload_n 11 0 C dX1_takeIndex_11 rfl ?_
  refine r_get 12 C dX1_takeIndex_12 (k := 6) 0 rfl rfl hiX1 (by decide) rfl (mg 1 rfl) (Or.inl rfl) rfl ?_
  refine r_iload_n 15 1 C dX1_takeIndex_15 rfl ?_
  refine r_icmp_lt 16 31 C dX1_takeIndex_16 (by decide) (fun c9 => ?_) (fun c9 => ?_)
  · skip
    have k10 : (Int32.toInt z8) < (Int32.toInt x0) := (fa_lt z8 x0).mp c9
    refine r_iconst 31 0 C dX1_takeIndex_31 (by decide) ?_
    refine r_callVv 32 C dX1_takeIndex_32 [] [(h0, .inr (1, [.ref h3, .ref h4, .ref h1, .int z1, .long z2, .long y1, .int z8, .int x4, .long y2, .long y3]))] [(h1, .inr (4, [.ref h2, .int x5])), (h2, .inl (gB g, 1500, .inl fn0))] (fun sz => c53_X1_want l g h0 0 h3 h4 h1 z1 z2 y1 z8 x4 y2 y3 (by decide) (iv_eq ⟨p6, p7⟩ tz8) sz) gX1_takeIndex_X1_want rfl ⟨rfl, rfl⟩ 1 (by decide) ⟨Nat.le_of_ble_eq_true rfl, Nat.le_of_ble_eq_true rfl⟩ 0 rfl rfl [0] [1, 2] rfl rfl (by decide) (by decide) (by decide) rfl rfl (Nat.le_of_ble_eq_true rfl) ⟨Nat.le_of_ble_eq_true rfl, Nat.le_of_ble_eq_true rfl⟩ (fun  z11 w12 => ?_)
    refine r_ws [(h1, .inr (4, [.ref h2, .int x5])), (h2, .inl (gB g, 1500, .inl fn0)), (h0, .inr (1, [.ref h3, .ref h4, .ref h1, .int z11, .long z2, .long y1, .int z8, .int x4, .long y2, .long y3]))] rfl ?_
    have gz11 := fb_rng z11
    refine r_aload_n 35 0 C dX1_takeIndex_35 rfl ?_
    refine r_get 36 C dX1_takeIndex_36 (k := 3) 2 rfl rfl hiX1 (by decide) rfl (mg 2 rfl) (Or.inl rfl) rfl ?_
    refine r_if_ne 39 49 C dX1_takeIndex_39 (by decide) (fun c13 => ?_) (fun c13 => ?_)
    · skip
      have k14 : ¬ ((Int32.toInt z11) = 0) := fun h_9 => c13 ((fa_eq z11 0).mpr h_9)
      exact r_vret 49 Rt dX1_takeIndex_49 (z11, z2, z8, x4, y2, y3) (show -257 ≤ (Int32.toInt z8) ∧ (Int32.toInt z8) ≤ 65535 from ⟨(iv_eq ⟨p6, p7⟩ tz8).1, (iv_eq ⟨p6, p7⟩ tz8).2⟩) [2, 0, 1] (by decide) rfl (Nat.le_of_ble_eq_true rfl) (Nat.le_of_ble_eq_true rfl)
    · skip
      have k15 : (Int32.toInt z11) = 0 := (fa_eq z11 0).mp c13
      refine r_aload_n 42 0 C dX1_takeIndex_42 rfl ?_
      refine r_get 43 C dX1_takeIndex_43 (k := 6) 2 rfl rfl hiX1 (by decide) rfl (mg 1 rfl) (Or.inl rfl) rfl ?_
      refine r_if_ne 46 50 C dX1_takeIndex_46 (by decide) (fun c16 => ?_) (fun c16 => ?_)
      · skip
        have k17 : ¬ ((Int32.toInt z8) = 0) := fun h_9 => c16 ((fa_eq z8 0).mpr h_9)
        refine r_aload_n 50 0 C dX1_takeIndex_50 rfl ?_
        refine r_aload_n 51 0 C dX1_takeIndex_51 rfl ?_
        refine r_callVi 52 C dX1_takeIndex_52 [.ref h0] [(h0, .inr (1, [.ref h3, .ref h4, .ref h1, .int z11, .long z2, .long y1, .int z8, .int x4, .long y2, .long y3])), (h1, .inr (4, [.ref h2, .int x5])), (h2, .inl (gB g, 1500, .inl fn0))] [] (fun sz => c52_X1_take l g h0 h1 h2 h3 h4 z11 z2 y1 z8 x4 y2 y3 x5 fn0 (iv_eq ⟨p6, p7⟩ tz8) i_x5 sz) gX1_takeIndex_X1_take rfl ⟨rfl, rfl⟩ 0 (by decide) ⟨Nat.le_of_ble_eq_true rfl, Nat.le_of_ble_eq_true rfl⟩ 2 rfl rfl [2, 0, 1] [] rfl rfl (by decide) (by decide) (by decide) rfl rfl (Nat.le_of_ble_eq_true rfl) ⟨Nat.le_of_ble_eq_true rfl, Nat.le_of_ble_eq_true rfl⟩ (fun r20 u22 w21 => ?_)
        obtain ⟨z18, z19⟩ := u22
        refine r_ws [(h0, .inr (1, [.ref h3, .ref h4, .ref h1, .int z18, .long z19, .long y1, .int z8, .int x4, .long y2, .long y3])), (h1, .inr (4, [.ref h2, .int x5])), (h2, .inl (gB g, 1500, .inl fn0))] rfl ?_
        have gz18 := fb_rng z18
        have gz19 := fb_rngL z19
        have p23 : -1 ≤ (Int32.toInt r20) := w21.1
        have p24 : (Int32.toInt r20) ≤ 255 := w21.2
        refine r_put 55 C dX1_takeIndex_55 (k := 7) 0 rfl rfl hiX1 tyX1 tyX1_ok nmX1 (by decide) rfl (mg 3 rfl) (Or.inl rfl) rfl rfl rfl rfl (Nat.le_of_ble_eq_true rfl) [(h0, .inr (1, [.ref h3, .ref h4, .ref h1, .int z18, .long z19, .long y1, .int z8, .int r20, .long y2, .long y3])), (h1, .inr (4, [.ref h2, .int x5])), (h2, .inl (gB g, 1500, .inl fn0))] rfl ?_
        refine r_aload_n 58 0 C dX1_takeIndex_58 rfl ?_
        refine r_aload_n 59 0 C dX1_takeIndex_59 rfl ?_
        refine r_get 60 C dX1_takeIndex_60 (k := 7) 0 rfl rfl hiX1 (by decide) rfl (mg 3 rfl) (Or.inl rfl) rfl ?_
        refine r_iconst 63 1 C dX1_takeIndex_63 (by decide) ?_
        refine r_icmp_lt 64 79 C dX1_takeIndex_64 (by decide) (fun c25 => ?_) (fun c25 => ?_)
        · skip
          have k26 : (Int32.toInt r20) < 1 := (fa_lt r20 1).mp c25
          refine r_iconst 79 0 C dX1_takeIndex_79 (by decide) ?_
          refine r_callVv 80 C dX1_takeIndex_80 [] [(h0, .inr (1, [.ref h3, .ref h4, .ref h1, .int z18, .long z19, .long y1, .int z8, .int r20, .long y2, .long y3]))] [(h1, .inr (4, [.ref h2, .int x5])), (h2, .inl (gB g, 1500, .inl fn0))] (fun sz => c53_X1_want l g h0 0 h3 h4 h1 z18 z19 y1 z8 r20 y2 y3 (by decide) (iv_eq ⟨p6, p7⟩ tz8) sz) gX1_takeIndex_X1_want rfl ⟨rfl, rfl⟩ 1 (by decide) ⟨Nat.le_of_ble_eq_true rfl, Nat.le_of_ble_eq_true rfl⟩ 0 rfl rfl [0] [1, 2] rfl rfl (by decide) (by decide) (by decide) rfl rfl (Nat.le_of_ble_eq_true rfl) ⟨Nat.le_of_ble_eq_true rfl, Nat.le_of_ble_eq_true rfl⟩ (fun  z27 w28 => ?_)
          refine r_ws [(h1, .inr (4, [.ref h2, .int x5])), (h2, .inl (gB g, 1500, .inl fn0)), (h0, .inr (1, [.ref h3, .ref h4, .ref h1, .int z27, .long z19, .long y1, .int z8, .int r20, .long y2, .long y3]))] rfl ?_
          have gz27 := fb_rng z27
          refine r_aload_n 83 0 C dX1_takeIndex_83 rfl ?_
          refine r_aload_n 84 0 C dX1_takeIndex_84 rfl ?_
          refine r_get 85 C dX1_takeIndex_85 (k := 4) 2 rfl rfl hiX1 (by decide) rfl (mg 4 rfl) (Or.inl rfl) rfl ?_
          refine r_put 88 C dX1_takeIndex_88 (k := 8) 2 rfl rfl hiX1 tyX1 tyX1_ok nmX1 (by decide) rfl (mg 5 rfl) (Or.inl rfl) rfl rfl rfl rfl (Nat.le_of_ble_eq_true rfl) [(h1, .inr (4, [.ref h2, .int x5])), (h2, .inl (gB g, 1500, .inl fn0)), (h0, .inr (1, [.ref h3, .ref h4, .ref h1, .int z27, .long z19, .long y1, .int z8, .int r20, .long z19, .long y3]))] rfl ?_
          refine r_lconst 91 1 C dX1_takeIndex_91 (by decide) ?_
          refine r_lstore_n 92 C dX1_takeIndex_92 [(3, .long 1), (0, .ref h0), (1, .int x0), (2, .int x1)] (by decide) rfl ?_
          refine r_iconst 93 0 C dX1_takeIndex_93 (by decide) ?_
          refine r_istore 94 C dX1_takeIndex_94 [(5, .int 0), (3, .long 1), (0, .ref h0), (1, .int x0), (2, .int x1)] (by decide) rfl ?_
          have lp34 : ∀ (n33 : Nat) (z29 : Int32) (z30 : Int64) (z31 : Int32) (z32 : Int64), (0 ≤ (Int32.toInt z29) ∧ (Int32.toInt z29) ≤ 65536) → Int.toNat (65536 - (Int32.toInt z29)) < n33 → WW p l e ({ frames := 3, cells := 0, slots := 0, locals := 67 } : Room) s m args below meth c A Q g 8 0 0 [(h1, .inr (4, [.ref h2, .int x5])), (h2, .inl (gB g, 1500, .inl fn0)), (h0, .inr (1, [.ref h3, .ref h4, .ref h1, .int z31, .long z32, .long y1, .int z8, .int r20, .long z19, .long y3]))] 96 [(5, .int z29), (3, .long z30), (0, .ref h0), (1, .int x0), (2, .int x1)] [] := by
            intro n33
            induction n33 with
            | zero => intro z29 z30 z31 z32 i37 hm36; exact absurd hm36 (Nat.not_lt_zero _)
            | succ n33 ih35 =>
              intro z29 z30 z31 z32 i37 hm36
              obtain ⟨i37a, i37b⟩ := i37
              have gz30 := fb_rngL z30
              have gz31 := fb_rng z31
              have gz32 := fb_rngL z32
              refine r_iload 96 0 C dX1_takeIndex_96 rfl ?_
              refine r_aload_n 98 2 C dX1_takeIndex_98 rfl ?_
              refine r_get 99 C dX1_takeIndex_99 (k := 6) 2 rfl rfl hiX1 (by decide) rfl (mg 1 rfl) (Or.inl rfl) rfl ?_
              refine r_icmp_gt 102 159 C dX1_takeIndex_102 (by decide) (fun c38 => ?_) (fun c38 => ?_)
              · skip
                have k39 : (Int32.toInt z8) < (Int32.toInt z29) := (fa_lt z8 z29).mp c38
                refine r_aload_n 159 2 C dX1_takeIndex_159 rfl ?_
                refine r_aload_n 160 2 C dX1_takeIndex_160 rfl ?_
                refine r_get 161 C dX1_takeIndex_161 (k := 4) 2 rfl rfl hiX1 (by decide) rfl (mg 4 rfl) (Or.inl rfl) rfl ?_
                refine r_put 164 C dX1_takeIndex_164 (k := 9) 2 rfl rfl hiX1 tyX1 tyX1_ok nmX1 (by decide) rfl (mg 6 rfl) (Or.inl rfl) rfl rfl rfl rfl (Nat.le_of_ble_eq_true rfl) [(h1, .inr (4, [.ref h2, .int x5])), (h2, .inl (gB g, 1500, .inl fn0)), (h0, .inr (1, [.ref h3, .ref h4, .ref h1, .int z31, .long z32, .long y1, .int z8, .int r20, .long z19, .long z32]))] rfl ?_
                refine r_aload_n 167 2 C dX1_takeIndex_167 rfl ?_
                refine r_dup 168 C dX1_takeIndex_168 rfl ?_
                refine r_get 169 C dX1_takeIndex_169 (k := 4) 2 rfl rfl hiX1 (by decide) rfl (mg 4 rfl) (Or.inl rfl) rfl ?_
                refine r_lload_n 172 1 C dX1_takeIndex_172 rfl ?_
                refine r_lconst 173 1 C dX1_takeIndex_173 (by decide) ?_
                obtain ⟨z40, ez40⟩ : ∃ z_9, z30 - 1 = z_9 := ⟨_, rfl⟩
                have gz40 := fb_rngL z40
                refine r_lsub 174 z40 C dX1_takeIndex_174 ez40 ?_
                obtain ⟨z41, ez41⟩ : ∃ z_9, z32 + z40 = z_9 := ⟨_, rfl⟩
                have gz41 := fb_rngL z41
                refine r_ladd 175 z41 C dX1_takeIndex_175 ez41 ?_
                refine r_put 176 C dX1_takeIndex_176 (k := 4) 2 rfl rfl hiX1 tyX1 tyX1_ok nmX1 (by decide) rfl (mg 4 rfl) (Or.inl rfl) rfl rfl rfl rfl (Nat.le_of_ble_eq_true rfl) [(h1, .inr (4, [.ref h2, .int x5])), (h2, .inl (gB g, 1500, .inl fn0)), (h0, .inr (1, [.ref h3, .ref h4, .ref h1, .int z31, .long z41, .long y1, .int z8, .int r20, .long z19, .long z32]))] rfl ?_
                refine r_aload_n 179 2 C dX1_takeIndex_179 rfl ?_
                refine r_get 180 C dX1_takeIndex_180 (k := 4) 2 rfl rfl hiX1 (by decide) rfl (mg 4 rfl) (Or.inl rfl) rfl ?_
                refine r_aload_n 183 2 C dX1_takeIndex_183 rfl ?_
                refine r_get 184 C dX1_takeIndex_184 (k := 2) 2 rfl rfl hiX1 (by decide) rfl (mg 7 rfl) (Or.inl rfl) rfl ?_
                refine r_callVi 187 C dX1_takeIndex_187 [.long z41] [(h1, .inr (4, [.ref h2, .int x5]))] [(h2, .inl (gB g, 1500, .inl fn0)), (h0, .inr (1, [.ref h3, .ref h4, .ref h1, .int z31, .long z41, .long y1, .int z8, .int r20, .long z19, .long z32]))] (fun sz => c0_X5_size l g h1 h2 x5 i_x5 sz) gX1_takeIndex_X5_size rfl ⟨rfl, rfl⟩ 0 (by decide) ⟨Nat.le_of_ble_eq_true rfl, Nat.le_of_ble_eq_true rfl⟩ 0 rfl rfl [0] [1, 2] rfl rfl (by decide) (by decide) (by decide) rfl rfl (Nat.le_of_ble_eq_true rfl) ⟨Nat.le_of_ble_eq_true rfl, Nat.le_of_ble_eq_true rfl⟩ (fun r42 _ w43 => ?_)
                refine r_ws [(h2, .inl (gB g, 1500, .inl fn0)), (h0, .inr (1, [.ref h3, .ref h4, .ref h1, .int z31, .long z41, .long y1, .int z8, .int r20, .long z19, .long z32])), (h1, .inr (4, [.ref h2, .int x5]))] rfl ?_
                have p44 : x5 = r42 := (w43).symm
                subst p44
                obtain ⟨z45, ez45⟩ : ∃ z_9, Int32.toInt64 x5 = z_9 := ⟨_, rfl⟩
                have tz45 : (Int64.toInt z45) = (Int32.toInt x5) := by rw [← ez45]; exact Int32.toInt_toInt64 _
                refine r_i2l 190 z45 C dX1_takeIndex_190 ez45 ?_
                obtain ⟨z46, ez46⟩ : ∃ z_9, lg_cmp z41 z45 = z_9 := ⟨_, rfl⟩
                have l1z46 : (Int32.toInt z46) < 0 ↔ (Int64.toInt z41) < (Int64.toInt z45) := by rw [← ez46]; exact lgI1 z41 z45
                have l2z46 : 0 < (Int32.toInt z46) ↔ (Int64.toInt z45) < (Int64.toInt z41) := by rw [← ez46]; exact lgI2 z41 z45
                refine r_lcmp 191 z46 C dX1_takeIndex_191 ez46 ?_
                refine r_if_le 192 200 C dX1_takeIndex_192 (by decide) (fun c47 => ?_) (fun c47 => ?_)
                · skip
                  have k48 : (Int32.toInt z46) ≤ 0 := (fa_le z46 0).mp c47
                  exact r_vret 200 Rt dX1_takeIndex_200 (z31, z41, z8, r20, z19, z32) (show -257 ≤ (Int32.toInt z8) ∧ (Int32.toInt z8) ≤ 65535 from ⟨(iv_eq ⟨p6, p7⟩ tz8).1, (iv_eq ⟨p6, p7⟩ tz8).2⟩) [1, 2, 0] (by decide) rfl (Nat.le_of_ble_eq_true rfl) (Nat.le_of_ble_eq_true rfl)
                · skip
                  have k49 : ¬ ((Int32.toInt z46) ≤ 0) := fun h_9 => c47 ((fa_le z46 0).mpr h_9)
                  refine r_aload_n 195 2 C dX1_takeIndex_195 rfl ?_
                  refine r_iconst 196 1 C dX1_takeIndex_196 (by decide) ?_
                  refine r_callVv 197 C dX1_takeIndex_197 [] [(h0, .inr (1, [.ref h3, .ref h4, .ref h1, .int z31, .long z41, .long y1, .int z8, .int r20, .long z19, .long z32]))] [(h2, .inl (gB g, 1500, .inl fn0)), (h1, .inr (4, [.ref h2, .int x5]))] (fun sz => c51_X1_wrong l g h0 1 h3 h4 h1 z31 z41 y1 z8 r20 z19 z32 (iv_eq ⟨p6, p7⟩ tz8) sz) gX1_takeIndex_X1_wrong rfl ⟨rfl, rfl⟩ 1 (by decide) ⟨Nat.le_of_ble_eq_true rfl, Nat.le_of_ble_eq_true rfl⟩ 1 rfl rfl [1] [0, 2] rfl rfl (by decide) (by decide) (by decide) rfl rfl (Nat.le_of_ble_eq_true rfl) ⟨Nat.le_of_ble_eq_true rfl, Nat.le_of_ble_eq_true rfl⟩ (fun  z50 w51 => ?_)
                  refine r_ws [(h2, .inl (gB g, 1500, .inl fn0)), (h1, .inr (4, [.ref h2, .int x5])), (h0, .inr (1, [.ref h3, .ref h4, .ref h1, .int z50, .long z41, .long y1, .int z8, .int r20, .long z19, .long z32]))] rfl ?_
                  have gz50 := fb_rng z50
                  exact r_vret 200 Rt dX1_takeIndex_200 (z50, z41, z8, r20, z19, z32) (show -257 ≤ (Int32.toInt z8) ∧ (Int32.toInt z8) ≤ 65535 from ⟨(iv_eq ⟨p6, p7⟩ tz8).1, (iv_eq ⟨p6, p7⟩ tz8).2⟩) [2, 1, 0] (by decide) rfl (Nat.le_of_ble_eq_true rfl) (Nat.le_of_ble_eq_true rfl)
              · skip
                have k52 : ¬ ((Int32.toInt z8) < (Int32.toInt z29)) := fun h_9 => c38 ((fa_lt z8 z29).mpr h_9)
                refine r_aload_n 105 2 C dX1_takeIndex_105 rfl ?_
                refine r_get 106 C dX1_takeIndex_106 (k := 3) 2 rfl rfl hiX1 (by decide) rfl (mg 2 rfl) (Or.inl rfl) rfl ?_
                refine r_if_ne 109 159 C dX1_takeIndex_109 (by decide) (fun c53 => ?_) (fun c53 => ?_)
                · skip
                  have k54 : ¬ ((Int32.toInt z31) = 0) := fun h_9 => c53 ((fa_eq z31 0).mpr h_9)
                  refine r_aload_n 159 2 C dX1_takeIndex_159 rfl ?_
                  refine r_aload_n 160 2 C dX1_takeIndex_160 rfl ?_
                  refine r_get 161 C dX1_takeIndex_161 (k := 4) 2 rfl rfl hiX1 (by decide) rfl (mg 4 rfl) (Or.inl rfl) rfl ?_
                  refine r_put 164 C dX1_takeIndex_164 (k := 9) 2 rfl rfl hiX1 tyX1 tyX1_ok nmX1 (by decide) rfl (mg 6 rfl) (Or.inl rfl) rfl rfl rfl rfl (Nat.le_of_ble_eq_true rfl) [(h1, .inr (4, [.ref h2, .int x5])), (h2, .inl (gB g, 1500, .inl fn0)), (h0, .inr (1, [.ref h3, .ref h4, .ref h1, .int z31, .long z32, .long y1, .int z8, .int r20, .long z19, .long z32]))] rfl ?_
                  refine r_aload_n 167 2 C dX1_takeIndex_167 rfl ?_
                  refine r_dup 168 C dX1_takeIndex_168 rfl ?_
                  refine r_get 169 C dX1_takeIndex_169 (k := 4) 2 rfl rfl hiX1 (by decide) rfl (mg 4 rfl) (Or.inl rfl) rfl ?_
                  refine r_lload_n 172 1 C dX1_takeIndex_172 rfl ?_
                  refine r_lconst 173 1 C dX1_takeIndex_173 (by decide) ?_
                  obtain ⟨z55, ez55⟩ : ∃ z_9, z30 - 1 = z_9 := ⟨_, rfl⟩
                  have gz55 := fb_rngL z55
                  refine r_lsub 174 z55 C dX1_takeIndex_174 ez55 ?_
                  obtain ⟨z56, ez56⟩ : ∃ z_9, z32 + z55 = z_9 := ⟨_, rfl⟩
                  have gz56 := fb_rngL z56
                  refine r_ladd 175 z56 C dX1_takeIndex_175 ez56 ?_
                  refine r_put 176 C dX1_takeIndex_176 (k := 4) 2 rfl rfl hiX1 tyX1 tyX1_ok nmX1 (by decide) rfl (mg 4 rfl) (Or.inl rfl) rfl rfl rfl rfl (Nat.le_of_ble_eq_true rfl) [(h1, .inr (4, [.ref h2, .int x5])), (h2, .inl (gB g, 1500, .inl fn0)), (h0, .inr (1, [.ref h3, .ref h4, .ref h1, .int z31, .long z56, .long y1, .int z8, .int r20, .long z19, .long z32]))] rfl ?_
                  refine r_aload_n 179 2 C dX1_takeIndex_179 rfl ?_
                  refine r_get 180 C dX1_takeIndex_180 (k := 4) 2 rfl rfl hiX1 (by decide) rfl (mg 4 rfl) (Or.inl rfl) rfl ?_
                  refine r_aload_n 183 2 C dX1_takeIndex_183 rfl ?_
                  refine r_get 184 C dX1_takeIndex_184 (k := 2) 2 rfl rfl hiX1 (by decide) rfl (mg 7 rfl) (Or.inl rfl) rfl ?_
                  refine r_callVi 187 C dX1_takeIndex_187 [.long z56] [(h1, .inr (4, [.ref h2, .int x5]))] [(h2, .inl (gB g, 1500, .inl fn0)), (h0, .inr (1, [.ref h3, .ref h4, .ref h1, .int z31, .long z56, .long y1, .int z8, .int r20, .long z19, .long z32]))] (fun sz => c0_X5_size l g h1 h2 x5 i_x5 sz) gX1_takeIndex_X5_size rfl ⟨rfl, rfl⟩ 0 (by decide) ⟨Nat.le_of_ble_eq_true rfl, Nat.le_of_ble_eq_true rfl⟩ 0 rfl rfl [0] [1, 2] rfl rfl (by decide) (by decide) (by decide) rfl rfl (Nat.le_of_ble_eq_true rfl) ⟨Nat.le_of_ble_eq_true rfl, Nat.le_of_ble_eq_true rfl⟩ (fun r57 _ w58 => ?_)
                  refine r_ws [(h2, .inl (gB g, 1500, .inl fn0)), (h0, .inr (1, [.ref h3, .ref h4, .ref h1, .int z31, .long z56, .long y1, .int z8, .int r20, .long z19, .long z32])), (h1, .inr (4, [.ref h2, .int x5]))] rfl ?_
                  have p59 : x5 = r57 := (w58).symm
                  subst p59
                  obtain ⟨z60, ez60⟩ : ∃ z_9, Int32.toInt64 x5 = z_9 := ⟨_, rfl⟩
                  have tz60 : (Int64.toInt z60) = (Int32.toInt x5) := by rw [← ez60]; exact Int32.toInt_toInt64 _
                  refine r_i2l 190 z60 C dX1_takeIndex_190 ez60 ?_
                  obtain ⟨z61, ez61⟩ : ∃ z_9, lg_cmp z56 z60 = z_9 := ⟨_, rfl⟩
                  have l1z61 : (Int32.toInt z61) < 0 ↔ (Int64.toInt z56) < (Int64.toInt z60) := by rw [← ez61]; exact lgI1 z56 z60
                  have l2z61 : 0 < (Int32.toInt z61) ↔ (Int64.toInt z60) < (Int64.toInt z56) := by rw [← ez61]; exact lgI2 z56 z60
                  refine r_lcmp 191 z61 C dX1_takeIndex_191 ez61 ?_
                  refine r_if_le 192 200 C dX1_takeIndex_192 (by decide) (fun c62 => ?_) (fun c62 => ?_)
                  · skip
                    have k63 : (Int32.toInt z61) ≤ 0 := (fa_le z61 0).mp c62
                    exact r_vret 200 Rt dX1_takeIndex_200 (z31, z56, z8, r20, z19, z32) (show -257 ≤ (Int32.toInt z8) ∧ (Int32.toInt z8) ≤ 65535 from ⟨(iv_eq ⟨p6, p7⟩ tz8).1, (iv_eq ⟨p6, p7⟩ tz8).2⟩) [1, 2, 0] (by decide) rfl (Nat.le_of_ble_eq_true rfl) (Nat.le_of_ble_eq_true rfl)
                  · skip
                    have k64 : ¬ ((Int32.toInt z61) ≤ 0) := fun h_9 => c62 ((fa_le z61 0).mpr h_9)
                    refine r_aload_n 195 2 C dX1_takeIndex_195 rfl ?_
                    refine r_iconst 196 1 C dX1_takeIndex_196 (by decide) ?_
                    refine r_callVv 197 C dX1_takeIndex_197 [] [(h0, .inr (1, [.ref h3, .ref h4, .ref h1, .int z31, .long z56, .long y1, .int z8, .int r20, .long z19, .long z32]))] [(h2, .inl (gB g, 1500, .inl fn0)), (h1, .inr (4, [.ref h2, .int x5]))] (fun sz => c51_X1_wrong l g h0 1 h3 h4 h1 z31 z56 y1 z8 r20 z19 z32 (iv_eq ⟨p6, p7⟩ tz8) sz) gX1_takeIndex_X1_wrong rfl ⟨rfl, rfl⟩ 1 (by decide) ⟨Nat.le_of_ble_eq_true rfl, Nat.le_of_ble_eq_true rfl⟩ 1 rfl rfl [1] [0, 2] rfl rfl (by decide) (by decide) (by decide) rfl rfl (Nat.le_of_ble_eq_true rfl) ⟨Nat.le_of_ble_eq_true rfl, Nat.le_of_ble_eq_true rfl⟩ (fun  z65 w66 => ?_)
                    refine r_ws [(h2, .inl (gB g, 1500, .inl fn0)), (h1, .inr (4, [.ref h2, .int x5])), (h0, .inr (1, [.ref h3, .ref h4, .ref h1, .int z65, .long z56, .long y1, .int z8, .int r20, .long z19, .long z32]))] rfl ?_
                    have gz65 := fb_rng z65
                    exact r_vret 200 Rt dX1_takeIndex_200 (z65, z56, z8, r20, z19, z32) (show -257 ≤ (Int32.toInt z8) ∧ (Int32.toInt z8) ≤ 65535 from ⟨(iv_eq ⟨p6, p7⟩ tz8).1, (iv_eq ⟨p6, p7⟩ tz8).2⟩) [2, 1, 0] (by decide) rfl (Nat.le_of_ble_eq_true rfl) (Nat.le_of_ble_eq_true rfl)
                · skip
                  have k67 : (Int32.toInt z31) = 0 := (fa_eq z31 0).mp c53
                  refine r_aload_n 112 2 C dX1_takeIndex_112 rfl ?_
                  refine r_aload_n 113 2 C dX1_takeIndex_113 rfl ?_
                  refine r_get 114 C dX1_takeIndex_114 (k := 7) 2 rfl rfl hiX1 (by decide) rfl (mg 3 rfl) (Or.inl rfl) rfl ?_
                  refine r_callVl 117 C dX1_takeIndex_117 [] [(h0, .inr (1, [.ref h3, .ref h4, .ref h1, .int z31, .long z32, .long y1, .int z8, .int r20, .long z19, .long y3])), (h1, .inr (4, [.ref h2, .int x5])), (h2, .inl (gB g, 1500, .inl fn0))] [] (fun sz => c56_X1_takeNumber l g h0 h1 h2 r20 h3 h4 z31 z32 y1 z8 r20 z19 y3 x5 fn0 (iv_eq ⟨p6, p7⟩ tz8) i_x5 sz) gX1_takeIndex_X1_takeNumber rfl ⟨rfl, rfl⟩ 1 (by decide) ⟨Nat.le_of_ble_eq_true rfl, Nat.le_of_ble_eq_true rfl⟩ 2 rfl rfl [2, 0, 1] [] rfl rfl (by decide) (by decide) (by decide) rfl rfl (Nat.le_of_ble_eq_true rfl) ⟨Nat.le_of_ble_eq_true rfl, Nat.le_of_ble_eq_true rfl⟩ (fun r70 u72 w71 => ?_)
                  obtain ⟨z68, z69⟩ := u72
                  refine r_ws [(h0, .inr (1, [.ref h3, .ref h4, .ref h1, .int z68, .long z69, .long y1, .int z8, .int r20, .long z19, .long y3])), (h1, .inr (4, [.ref h2, .int x5])), (h2, .inl (gB g, 1500, .inl fn0))] rfl ?_
                  have gz68 := fb_rng z68
                  have gz69 := fb_rngL z69
                  have gr70 := fb_rngL r70
                  refine r_lstore 120 C dX1_takeIndex_120 [(6, .long r70), (5, .int z29), (3, .long z30), (0, .ref h0), (1, .int x0), (2, .int x1)] (by decide) rfl ?_
                  refine r_aload_n 122 3 C dX1_takeIndex_122 rfl ?_
                  refine r_lload 123 0 C dX1_takeIndex_123 rfl ?_
                  refine r_lload_n 125 2 C dX1_takeIndex_125 rfl ?_
                  obtain ⟨z73, ez73⟩ : ∃ z_9, lg_cmp r70 z30 = z_9 := ⟨_, rfl⟩
                  have l1z73 : (Int32.toInt z73) < 0 ↔ (Int64.toInt r70) < (Int64.toInt z30) := by rw [← ez73]; exact lgI1 r70 z30
                  have l2z73 : 0 < (Int32.toInt z73) ↔ (Int64.toInt z30) < (Int64.toInt r70) := by rw [← ez73]; exact lgI2 r70 z30
                  refine r_lcmp 126 z73 C dX1_takeIndex_126 ez73 ?_
                  refine r_if_lt 127 146 C dX1_takeIndex_127 (by decide) (fun c74 => ?_) (fun c74 => ?_)
                  · skip
                    have k75 : (Int32.toInt z73) < 0 := (fa_lt z73 0).mp c74
                    refine r_iconst 146 0 C dX1_takeIndex_146 (by decide) ?_
                    refine r_callVv 147 C dX1_takeIndex_147 [] [(h0, .inr (1, [.ref h3, .ref h4, .ref h1, .int z68, .long z69, .long y1, .int z8, .int r20, .long z19, .long y3]))] [(h1, .inr (4, [.ref h2, .int x5])), (h2, .inl (gB g, 1500, .inl fn0))] (fun sz => c53_X1_want l g h0 0 h3 h4 h1 z68 z69 y1 z8 r20 z19 y3 (by decide) (iv_eq ⟨p6, p7⟩ tz8) sz) gX1_takeIndex_X1_want rfl ⟨rfl, rfl⟩ 1 (by decide) ⟨Nat.le_of_ble_eq_true rfl, Nat.le_of_ble_eq_true rfl⟩ 0 rfl rfl [0] [1, 2] rfl rfl (by decide) (by decide) (by decide) rfl rfl (Nat.le_of_ble_eq_true rfl) ⟨Nat.le_of_ble_eq_true rfl, Nat.le_of_ble_eq_true rfl⟩ (fun  z76 w77 => ?_)
                    refine r_ws [(h1, .inr (4, [.ref h2, .int x5])), (h2, .inl (gB g, 1500, .inl fn0)), (h0, .inr (1, [.ref h3, .ref h4, .ref h1, .int z76, .long z69, .long y1, .int z8, .int r20, .long z19, .long y3]))] rfl ?_
                    have gz76 := fb_rng z76
                    refine r_lload 150 0 C dX1_takeIndex_150 rfl ?_
                    refine r_lstore_n 152 C dX1_takeIndex_152 [(3, .long r70), (6, .long r70), (5, .int z29), (0, .ref h0), (1, .int x0), (2, .int x1)] (by decide) rfl ?_
                    obtain ⟨z78, ez78⟩ : ∃ z_9, z29 + Int32.ofInt 1 = z_9 := ⟨_, rfl⟩
                    have tz78 : (Int32.toInt z78) = (Int32.toInt z29) + 1 := by rw [← ez78]; exact fb_addIv (a := 0) (b := 65536) (c := 1) (d := 1) ⟨i37a, i37b⟩ ⟨by decide, by decide⟩ (by decide) (by decide)
                    refine r_iinc 153 2 z78 C dX1_takeIndex_153 rfl ez78 [(5, .int z78), (3, .long r70), (6, .long r70), (0, .ref h0), (1, .int x0), (2, .int x1)] (by decide) rfl ?_
                    refine r_goto 156 96 C dX1_takeIndex_156 (by decide) ?_
                    refine r_lv [(5, .int z78), (3, .long r70), (0, .ref h0), (1, .int x0), (2, .int x1)] [0, 1, 3, 4, 5] rfl ?_
                    exact ih35 z78 r70 z76 z69 ⟨by omega, by omega⟩ (by omega)
                  · skip
                    have k79 : ¬ ((Int32.toInt z73) < 0) := fun h_9 => c74 ((fa_lt z73 0).mpr h_9)
                    refine r_iload 130 1 C dX1_takeIndex_130 rfl ?_
                    refine r_if_gt 132 142 C dX1_takeIndex_132 (by decide) (fun c80 => ?_) (fun c80 => ?_)
                    · skip
                      have k81 : 0 < (Int32.toInt z29) := (fa_lt 0 z29).mp c80
                      refine r_iconst 142 1 C dX1_takeIndex_142 (by decide) ?_
                      refine r_goto 143 147 C dX1_takeIndex_143 (by decide) ?_
                      refine r_callVv 147 C dX1_takeIndex_147 [] [(h0, .inr (1, [.ref h3, .ref h4, .ref h1, .int z68, .long z69, .long y1, .int z8, .int r20, .long z19, .long y3]))] [(h1, .inr (4, [.ref h2, .int x5])), (h2, .inl (gB g, 1500, .inl fn0))] (fun sz => c53_X1_want l g h0 1 h3 h4 h1 z68 z69 y1 z8 r20 z19 y3 (by decide) (iv_eq ⟨p6, p7⟩ tz8) sz) gX1_takeIndex_X1_want rfl ⟨rfl, rfl⟩ 1 (by decide) ⟨Nat.le_of_ble_eq_true rfl, Nat.le_of_ble_eq_true rfl⟩ 0 rfl rfl [0] [1, 2] rfl rfl (by decide) (by decide) (by decide) rfl rfl (Nat.le_of_ble_eq_true rfl) ⟨Nat.le_of_ble_eq_true rfl, Nat.le_of_ble_eq_true rfl⟩ (fun  z82 w83 => ?_)
                      refine r_ws [(h1, .inr (4, [.ref h2, .int x5])), (h2, .inl (gB g, 1500, .inl fn0)), (h0, .inr (1, [.ref h3, .ref h4, .ref h1, .int z82, .long z69, .long y1, .int z8, .int r20, .long z19, .long y3]))] rfl ?_
                      have gz82 := fb_rng z82
                      refine r_lload 150 0 C dX1_takeIndex_150 rfl ?_
                      refine r_lstore_n 152 C dX1_takeIndex_152 [(3, .long r70), (6, .long r70), (5, .int z29), (0, .ref h0), (1, .int x0), (2, .int x1)] (by decide) rfl ?_
                      obtain ⟨z84, ez84⟩ : ∃ z_9, z29 + Int32.ofInt 1 = z_9 := ⟨_, rfl⟩
                      have tz84 : (Int32.toInt z84) = (Int32.toInt z29) + 1 := by rw [← ez84]; exact fb_addIv (a := 0) (b := 65536) (c := 1) (d := 1) ⟨i37a, i37b⟩ ⟨by decide, by decide⟩ (by decide) (by decide)
                      refine r_iinc 153 2 z84 C dX1_takeIndex_153 rfl ez84 [(5, .int z84), (3, .long r70), (6, .long r70), (0, .ref h0), (1, .int x0), (2, .int x1)] (by decide) rfl ?_
                      refine r_goto 156 96 C dX1_takeIndex_156 (by decide) ?_
                      refine r_lv [(5, .int z84), (3, .long r70), (0, .ref h0), (1, .int x0), (2, .int x1)] [0, 1, 3, 4, 5] rfl ?_
                      exact ih35 z84 r70 z82 z69 ⟨by omega, by omega⟩ (by omega)
                    · skip
                      have k85 : ¬ (0 < (Int32.toInt z29)) := fun h_9 => c80 ((fa_lt 0 z29).mpr h_9)
                      refine r_lload 135 0 C dX1_takeIndex_135 rfl ?_
                      refine r_lconst 137 1 C dX1_takeIndex_137 (by decide) ?_
                      obtain ⟨z86, ez86⟩ : ∃ z_9, lg_cmp r70 1 = z_9 := ⟨_, rfl⟩
                      have l1z86 : (Int32.toInt z86) < 0 ↔ (Int64.toInt r70) < 1 := by rw [← ez86]; exact lgI1 r70 1
                      have l2z86 : 0 < (Int32.toInt z86) ↔ 1 < (Int64.toInt r70) := by rw [← ez86]; exact lgI2 r70 1
                      refine r_lcmp 138 z86 C dX1_takeIndex_138 ez86 ?_
                      refine r_if_ne 139 146 C dX1_takeIndex_139 (by decide) (fun c87 => ?_) (fun c87 => ?_)
                      · skip
                        have k88 : ¬ ((Int32.toInt z86) = 0) := fun h_9 => c87 ((fa_eq z86 0).mpr h_9)
                        refine r_iconst 146 0 C dX1_takeIndex_146 (by decide) ?_
                        refine r_callVv 147 C dX1_takeIndex_147 [] [(h0, .inr (1, [.ref h3, .ref h4, .ref h1, .int z68, .long z69, .long y1, .int z8, .int r20, .long z19, .long y3]))] [(h1, .inr (4, [.ref h2, .int x5])), (h2, .inl (gB g, 1500, .inl fn0))] (fun sz => c53_X1_want l g h0 0 h3 h4 h1 z68 z69 y1 z8 r20 z19 y3 (by decide) (iv_eq ⟨p6, p7⟩ tz8) sz) gX1_takeIndex_X1_want rfl ⟨rfl, rfl⟩ 1 (by decide) ⟨Nat.le_of_ble_eq_true rfl, Nat.le_of_ble_eq_true rfl⟩ 0 rfl rfl [0] [1, 2] rfl rfl (by decide) (by decide) (by decide) rfl rfl (Nat.le_of_ble_eq_true rfl) ⟨Nat.le_of_ble_eq_true rfl, Nat.le_of_ble_eq_true rfl⟩ (fun  z89 w90 => ?_)
                        refine r_ws [(h1, .inr (4, [.ref h2, .int x5])), (h2, .inl (gB g, 1500, .inl fn0)), (h0, .inr (1, [.ref h3, .ref h4, .ref h1, .int z89, .long z69, .long y1, .int z8, .int r20, .long z19, .long y3]))] rfl ?_
                        have gz89 := fb_rng z89
                        refine r_lload 150 0 C dX1_takeIndex_150 rfl ?_
                        refine r_lstore_n 152 C dX1_takeIndex_152 [(3, .long r70), (6, .long r70), (5, .int z29), (0, .ref h0), (1, .int x0), (2, .int x1)] (by decide) rfl ?_
                        obtain ⟨z91, ez91⟩ : ∃ z_9, z29 + Int32.ofInt 1 = z_9 := ⟨_, rfl⟩
                        have tz91 : (Int32.toInt z91) = (Int32.toInt z29) + 1 := by rw [← ez91]; exact fb_addIv (a := 0) (b := 65536) (c := 1) (d := 1) ⟨i37a, i37b⟩ ⟨by decide, by decide⟩ (by decide) (by decide)
                        refine r_iinc 153 2 z91 C dX1_takeIndex_153 rfl ez91 [(5, .int z91), (3, .long r70), (6, .long r70), (0, .ref h0), (1, .int x0), (2, .int x1)] (by decide) rfl ?_
                        refine r_goto 156 96 C dX1_takeIndex_156 (by decide) ?_
                        refine r_lv [(5, .int z91), (3, .long r70), (0, .ref h0), (1, .int x0), (2, .int x1)] [0, 1, 3, 4, 5] rfl ?_
                        exact ih35 z91 r70 z89 z69 ⟨by omega, by omega⟩ (by omega)
                      · skip
                        have k92 : (Int32.toInt z86) = 0 := (fa_eq z86 0).mp c87
                        refine r_iconst 142 1 C dX1_takeIndex_142 (by decide) ?_
                        refine r_goto 143 147 C dX1_takeIndex_143 (by decide) ?_
                        refine r_callVv 147 C dX1_takeIndex_147 [] [(h0, .inr (1, [.ref h3, .ref h4, .ref h1, .int z68, .long z69, .long y1, .int z8, .int r20, .long z19, .long y3]))] [(h1, .inr (4, [.ref h2, .int x5])), (h2, .inl (gB g, 1500, .inl fn0))] (fun sz => c53_X1_want l g h0 1 h3 h4 h1 z68 z69 y1 z8 r20 z19 y3 (by decide) (iv_eq ⟨p6, p7⟩ tz8) sz) gX1_takeIndex_X1_want rfl ⟨rfl, rfl⟩ 1 (by decide) ⟨Nat.le_of_ble_eq_true rfl, Nat.le_of_ble_eq_true rfl⟩ 0 rfl rfl [0] [1, 2] rfl rfl (by decide) (by decide) (by decide) rfl rfl (Nat.le_of_ble_eq_true rfl) ⟨Nat.le_of_ble_eq_true rfl, Nat.le_of_ble_eq_true rfl⟩ (fun  z93 w94 => ?_)
                        refine r_ws [(h1, .inr (4, [.ref h2, .int x5])), (h2, .inl (gB g, 1500, .inl fn0)), (h0, .inr (1, [.ref h3, .ref h4, .ref h1, .int z93, .long z69, .long y1, .int z8, .int r20, .long z19, .long y3]))] rfl ?_
                        have gz93 := fb_rng z93
                        refine r_lload 150 0 C dX1_takeIndex_150 rfl ?_
                        refine r_lstore_n 152 C dX1_takeIndex_152 [(3, .long r70), (6, .long r70), (5, .int z29), (0, .ref h0), (1, .int x0), (2, .int x1)] (by decide) rfl ?_
                        obtain ⟨z95, ez95⟩ : ∃ z_9, z29 + Int32.ofInt 1 = z_9 := ⟨_, rfl⟩
                        have tz95 : (Int32.toInt z95) = (Int32.toInt z29) + 1 := by rw [← ez95]; exact fb_addIv (a := 0) (b := 65536) (c := 1) (d := 1) ⟨i37a, i37b⟩ ⟨by decide, by decide⟩ (by decide) (by decide)
                        refine r_iinc 153 2 z95 C dX1_takeIndex_153 rfl ez95 [(5, .int z95), (3, .long r70), (6, .long r70), (0, .ref h0), (1, .int x0), (2, .int x1)] (by decide) rfl ?_
                        refine r_goto 156 96 C dX1_takeIndex_156 (by decide) ?_
                        refine r_lv [(5, .int z95), (3, .long r70), (0, .ref h0), (1, .int x0), (2, .int x1)] [0, 1, 3, 4, 5] rfl ?_
                        exact ih35 z95 r70 z93 z69 ⟨by omega, by omega⟩ (by omega)
          exact lp34 _ 0 1 z27 z19 (by decide) (Nat.lt_succ_self _)
        · skip
          have k96 : ¬ ((Int32.toInt r20) < 1) := fun h_9 => c25 ((fa_lt r20 1).mpr h_9)
          refine r_aload_n 67 0 C dX1_takeIndex_67 rfl ?_
          refine r_get 68 C dX1_takeIndex_68 (k := 7) 0 rfl rfl hiX1 (by decide) rfl (mg 3 rfl) (Or.inl rfl) rfl ?_
          refine r_iconst 71 4 C dX1_takeIndex_71 (by decide) ?_
          refine r_icmp_gt 72 79 C dX1_takeIndex_72 (by decide) (fun c97 => ?_) (fun c97 => ?_)
          · skip
            have k98 : 4 < (Int32.toInt r20) := (fa_lt 4 r20).mp c97
            refine r_iconst 79 0 C dX1_takeIndex_79 (by decide) ?_
            refine r_callVv 80 C dX1_takeIndex_80 [] [(h0, .inr (1, [.ref h3, .ref h4, .ref h1, .int z18, .long z19, .long y1, .int z8, .int r20, .long y2, .long y3]))] [(h1, .inr (4, [.ref h2, .int x5])), (h2, .inl (gB g, 1500, .inl fn0))] (fun sz => c53_X1_want l g h0 0 h3 h4 h1 z18 z19 y1 z8 r20 y2 y3 (by decide) (iv_eq ⟨p6, p7⟩ tz8) sz) gX1_takeIndex_X1_want rfl ⟨rfl, rfl⟩ 1 (by decide) ⟨Nat.le_of_ble_eq_true rfl, Nat.le_of_ble_eq_true rfl⟩ 0 rfl rfl [0] [1, 2] rfl rfl (by decide) (by decide) (by decide) rfl rfl (Nat.le_of_ble_eq_true rfl) ⟨Nat.le_of_ble_eq_true rfl, Nat.le_of_ble_eq_true rfl⟩ (fun  z99 w100 => ?_)
            refine r_ws [(h1, .inr (4, [.ref h2, .int x5])), (h2, .inl (gB g, 1500, .inl fn0)), (h0, .inr (1, [.ref h3, .ref h4, .ref h1, .int z99, .long z19, .long y1, .int z8, .int r20, .long y2, .long y3]))] rfl ?_
            have gz99 := fb_rng z99
            refine r_aload_n 83 0 C dX1_takeIndex_83 rfl ?_
            refine r_aload_n 84 0 C dX1_takeIndex_84 rfl ?_
            refine r_get 85 C dX1_takeIndex_85 (k := 4) 2 rfl rfl hiX1 (by decide) rfl (mg 4 rfl) (Or.inl rfl) rfl ?_
            refine r_put 88 C dX1_takeIndex_88 (k := 8) 2 rfl rfl hiX1 tyX1 tyX1_ok nmX1 (by decide) rfl (mg 5 rfl) (Or.inl rfl) rfl rfl rfl rfl (Nat.le_of_ble_eq_true rfl) [(h1, .inr (4, [.ref h2, .int x5])), (h2, .inl (gB g, 1500, .inl fn0)), (h0, .inr (1, [.ref h3, .ref h4, .ref h1, .int z99, .long z19, .long y1, .int z8, .int r20, .long z19, .long y3]))] rfl ?_
            refine r_lconst 91 1 C dX1_takeIndex_91 (by decide) ?_
            refine r_lstore_n 92 C dX1_takeIndex_92 [(3, .long 1), (0, .ref h0), (1, .int x0), (2, .int x1)] (by decide) rfl ?_
            refine r_iconst 93 0 C dX1_takeIndex_93 (by decide) ?_
            refine r_istore 94 C dX1_takeIndex_94 [(5, .int 0), (3, .long 1), (0, .ref h0), (1, .int x0), (2, .int x1)] (by decide) rfl ?_
            have lp106 : ∀ (n105 : Nat) (z101 : Int32) (z102 : Int64) (z103 : Int32) (z104 : Int64), (0 ≤ (Int32.toInt z101) ∧ (Int32.toInt z101) ≤ 65536) → Int.toNat (65536 - (Int32.toInt z101)) < n105 → WW p l e ({ frames := 3, cells := 0, slots := 0, locals := 67 } : Room) s m args below meth c A Q g 8 0 0 [(h1, .inr (4, [.ref h2, .int x5])), (h2, .inl (gB g, 1500, .inl fn0)), (h0, .inr (1, [.ref h3, .ref h4, .ref h1, .int z103, .long z104, .long y1, .int z8, .int r20, .long z19, .long y3]))] 96 [(5, .int z101), (3, .long z102), (0, .ref h0), (1, .int x0), (2, .int x1)] [] := by
              intro n105
              induction n105 with
              | zero => intro z101 z102 z103 z104 i109 hm108; exact absurd hm108 (Nat.not_lt_zero _)
              | succ n105 ih107 =>
                intro z101 z102 z103 z104 i109 hm108
                obtain ⟨i109a, i109b⟩ := i109
                have gz102 := fb_rngL z102
                have gz103 := fb_rng z103
                have gz104 := fb_rngL z104
                refine r_iload 96 0 C dX1_takeIndex_96 rfl ?_
                refine r_aload_n 98 2 C dX1_takeIndex_98 rfl ?_
                refine r_get 99 C dX1_takeIndex_99 (k := 6) 2 rfl rfl hiX1 (by decide) rfl (mg 1 rfl) (Or.inl rfl) rfl ?_
                refine r_icmp_gt 102 159 C dX1_takeIndex_102 (by decide) (fun c110 => ?_) (fun c110 => ?_)
                · skip
                  have k111 : (Int32.toInt z8) < (Int32.toInt z101) := (fa_lt z8 z101).mp c110
                  refine r_aload_n 159 2 C dX1_takeIndex_159 rfl ?_
                  refine r_aload_n 160 2 C dX1_takeIndex_160 rfl ?_
                  refine r_get 161 C dX1_takeIndex_161 (k := 4) 2 rfl rfl hiX1 (by decide) rfl (mg 4 rfl) (Or.inl rfl) rfl ?_
                  refine r_put 164 C dX1_takeIndex_164 (k := 9) 2 rfl rfl hiX1 tyX1 tyX1_ok nmX1 (by decide) rfl (mg 6 rfl) (Or.inl rfl) rfl rfl rfl rfl (Nat.le_of_ble_eq_true rfl) [(h1, .inr (4, [.ref h2, .int x5])), (h2, .inl (gB g, 1500, .inl fn0)), (h0, .inr (1, [.ref h3, .ref h4, .ref h1, .int z103, .long z104, .long y1, .int z8, .int r20, .long z19, .long z104]))] rfl ?_
                  refine r_aload_n 167 2 C dX1_takeIndex_167 rfl ?_
                  refine r_dup 168 C dX1_takeIndex_168 rfl ?_
                  refine r_get 169 C dX1_takeIndex_169 (k := 4) 2 rfl rfl hiX1 (by decide) rfl (mg 4 rfl) (Or.inl rfl) rfl ?_
                  refine r_lload_n 172 1 C dX1_takeIndex_172 rfl ?_
                  refine r_lconst 173 1 C dX1_takeIndex_173 (by decide) ?_
                  obtain ⟨z112, ez112⟩ : ∃ z_9, z102 - 1 = z_9 := ⟨_, rfl⟩
                  have gz112 := fb_rngL z112
                  refine r_lsub 174 z112 C dX1_takeIndex_174 ez112 ?_
                  obtain ⟨z113, ez113⟩ : ∃ z_9, z104 + z112 = z_9 := ⟨_, rfl⟩
                  have gz113 := fb_rngL z113
                  refine r_ladd 175 z113 C dX1_takeIndex_175 ez113 ?_
                  refine r_put 176 C dX1_takeIndex_176 (k := 4) 2 rfl rfl hiX1 tyX1 tyX1_ok nmX1 (by decide) rfl (mg 4 rfl) (Or.inl rfl) rfl rfl rfl rfl (Nat.le_of_ble_eq_true rfl) [(h1, .inr (4, [.ref h2, .int x5])), (h2, .inl (gB g, 1500, .inl fn0)), (h0, .inr (1, [.ref h3, .ref h4, .ref h1, .int z103, .long z113, .long y1, .int z8, .int r20, .long z19, .long z104]))] rfl ?_
                  refine r_aload_n 179 2 C dX1_takeIndex_179 rfl ?_
                  refine r_get 180 C dX1_takeIndex_180 (k := 4) 2 rfl rfl hiX1 (by decide) rfl (mg 4 rfl) (Or.inl rfl) rfl ?_
                  refine r_aload_n 183 2 C dX1_takeIndex_183 rfl ?_
                  refine r_get 184 C dX1_takeIndex_184 (k := 2) 2 rfl rfl hiX1 (by decide) rfl (mg 7 rfl) (Or.inl rfl) rfl ?_
                  refine r_callVi 187 C dX1_takeIndex_187 [.long z113] [(h1, .inr (4, [.ref h2, .int x5]))] [(h2, .inl (gB g, 1500, .inl fn0)), (h0, .inr (1, [.ref h3, .ref h4, .ref h1, .int z103, .long z113, .long y1, .int z8, .int r20, .long z19, .long z104]))] (fun sz => c0_X5_size l g h1 h2 x5 i_x5 sz) gX1_takeIndex_X5_size rfl ⟨rfl, rfl⟩ 0 (by decide) ⟨Nat.le_of_ble_eq_true rfl, Nat.le_of_ble_eq_true rfl⟩ 0 rfl rfl [0] [1, 2] rfl rfl (by decide) (by decide) (by decide) rfl rfl (Nat.le_of_ble_eq_true rfl) ⟨Nat.le_of_ble_eq_true rfl, Nat.le_of_ble_eq_true rfl⟩ (fun r114 _ w115 => ?_)
                  refine r_ws [(h2, .inl (gB g, 1500, .inl fn0)), (h0, .inr (1, [.ref h3, .ref h4, .ref h1, .int z103, .long z113, .long y1, .int z8, .int r20, .long z19, .long z104])), (h1, .inr (4, [.ref h2, .int x5]))] rfl ?_
                  have p116 : x5 = r114 := (w115).symm
                  subst p116
                  obtain ⟨z117, ez117⟩ : ∃ z_9, Int32.toInt64 x5 = z_9 := ⟨_, rfl⟩
                  have tz117 : (Int64.toInt z117) = (Int32.toInt x5) := by rw [← ez117]; exact Int32.toInt_toInt64 _
                  refine r_i2l 190 z117 C dX1_takeIndex_190 ez117 ?_
                  obtain ⟨z118, ez118⟩ : ∃ z_9, lg_cmp z113 z117 = z_9 := ⟨_, rfl⟩
                  have l1z118 : (Int32.toInt z118) < 0 ↔ (Int64.toInt z113) < (Int64.toInt z117) := by rw [← ez118]; exact lgI1 z113 z117
                  have l2z118 : 0 < (Int32.toInt z118) ↔ (Int64.toInt z117) < (Int64.toInt z113) := by rw [← ez118]; exact lgI2 z113 z117
                  refine r_lcmp 191 z118 C dX1_takeIndex_191 ez118 ?_
                  refine r_if_le 192 200 C dX1_takeIndex_192 (by decide) (fun c119 => ?_) (fun c119 => ?_)
                  · skip
                    have k120 : (Int32.toInt z118) ≤ 0 := (fa_le z118 0).mp c119
                    exact r_vret 200 Rt dX1_takeIndex_200 (z103, z113, z8, r20, z19, z104) (show -257 ≤ (Int32.toInt z8) ∧ (Int32.toInt z8) ≤ 65535 from ⟨(iv_eq ⟨p6, p7⟩ tz8).1, (iv_eq ⟨p6, p7⟩ tz8).2⟩) [1, 2, 0] (by decide) rfl (Nat.le_of_ble_eq_true rfl) (Nat.le_of_ble_eq_true rfl)
                  · skip
                    have k121 : ¬ ((Int32.toInt z118) ≤ 0) := fun h_9 => c119 ((fa_le z118 0).mpr h_9)
                    refine r_aload_n 195 2 C dX1_takeIndex_195 rfl ?_
                    refine r_iconst 196 1 C dX1_takeIndex_196 (by decide) ?_
                    refine r_callVv 197 C dX1_takeIndex_197 [] [(h0, .inr (1, [.ref h3, .ref h4, .ref h1, .int z103, .long z113, .long y1, .int z8, .int r20, .long z19, .long z104]))] [(h2, .inl (gB g, 1500, .inl fn0)), (h1, .inr (4, [.ref h2, .int x5]))] (fun sz => c51_X1_wrong l g h0 1 h3 h4 h1 z103 z113 y1 z8 r20 z19 z104 (iv_eq ⟨p6, p7⟩ tz8) sz) gX1_takeIndex_X1_wrong rfl ⟨rfl, rfl⟩ 1 (by decide) ⟨Nat.le_of_ble_eq_true rfl, Nat.le_of_ble_eq_true rfl⟩ 1 rfl rfl [1] [0, 2] rfl rfl (by decide) (by decide) (by decide) rfl rfl (Nat.le_of_ble_eq_true rfl) ⟨Nat.le_of_ble_eq_true rfl, Nat.le_of_ble_eq_true rfl⟩ (fun  z122 w123 => ?_)
                    refine r_ws [(h2, .inl (gB g, 1500, .inl fn0)), (h1, .inr (4, [.ref h2, .int x5])), (h0, .inr (1, [.ref h3, .ref h4, .ref h1, .int z122, .long z113, .long y1, .int z8, .int r20, .long z19, .long z104]))] rfl ?_
                    have gz122 := fb_rng z122
                    exact r_vret 200 Rt dX1_takeIndex_200 (z122, z113, z8, r20, z19, z104) (show -257 ≤ (Int32.toInt z8) ∧ (Int32.toInt z8) ≤ 65535 from ⟨(iv_eq ⟨p6, p7⟩ tz8).1, (iv_eq ⟨p6, p7⟩ tz8).2⟩) [2, 1, 0] (by decide) rfl (Nat.le_of_ble_eq_true rfl) (Nat.le_of_ble_eq_true rfl)
                · skip
                  have k124 : ¬ ((Int32.toInt z8) < (Int32.toInt z101)) := fun h_9 => c110 ((fa_lt z8 z101).mpr h_9)
                  refine r_aload_n 105 2 C dX1_takeIndex_105 rfl ?_
                  refine r_get 106 C dX1_takeIndex_106 (k := 3) 2 rfl rfl hiX1 (by decide) rfl (mg 2 rfl) (Or.inl rfl) rfl ?_
                  refine r_if_ne 109 159 C dX1_takeIndex_109 (by decide) (fun c125 => ?_) (fun c125 => ?_)
                  · skip
                    have k126 : ¬ ((Int32.toInt z103) = 0) := fun h_9 => c125 ((fa_eq z103 0).mpr h_9)
                    refine r_aload_n 159 2 C dX1_takeIndex_159 rfl ?_
                    refine r_aload_n 160 2 C dX1_takeIndex_160 rfl ?_
                    refine r_get 161 C dX1_takeIndex_161 (k := 4) 2 rfl rfl hiX1 (by decide) rfl (mg 4 rfl) (Or.inl rfl) rfl ?_
                    refine r_put 164 C dX1_takeIndex_164 (k := 9) 2 rfl rfl hiX1 tyX1 tyX1_ok nmX1 (by decide) rfl (mg 6 rfl) (Or.inl rfl) rfl rfl rfl rfl (Nat.le_of_ble_eq_true rfl) [(h1, .inr (4, [.ref h2, .int x5])), (h2, .inl (gB g, 1500, .inl fn0)), (h0, .inr (1, [.ref h3, .ref h4, .ref h1, .int z103, .long z104, .long y1, .int z8, .int r20, .long z19, .long z104]))] rfl ?_
                    refine r_aload_n 167 2 C dX1_takeIndex_167 rfl ?_
                    refine r_dup 168 C dX1_takeIndex_168 rfl ?_
                    refine r_get 169 C dX1_takeIndex_169 (k := 4) 2 rfl rfl hiX1 (by decide) rfl (mg 4 rfl) (Or.inl rfl) rfl ?_
                    refine r_lload_n 172 1 C dX1_takeIndex_172 rfl ?_
                    refine r_lconst 173 1 C dX1_takeIndex_173 (by decide) ?_
                    obtain ⟨z127, ez127⟩ : ∃ z_9, z102 - 1 = z_9 := ⟨_, rfl⟩
                    have gz127 := fb_rngL z127
                    refine r_lsub 174 z127 C dX1_takeIndex_174 ez127 ?_
                    obtain ⟨z128, ez128⟩ : ∃ z_9, z104 + z127 = z_9 := ⟨_, rfl⟩
                    have gz128 := fb_rngL z128
                    refine r_ladd 175 z128 C dX1_takeIndex_175 ez128 ?_
                    refine r_put 176 C dX1_takeIndex_176 (k := 4) 2 rfl rfl hiX1 tyX1 tyX1_ok nmX1 (by decide) rfl (mg 4 rfl) (Or.inl rfl) rfl rfl rfl rfl (Nat.le_of_ble_eq_true rfl) [(h1, .inr (4, [.ref h2, .int x5])), (h2, .inl (gB g, 1500, .inl fn0)), (h0, .inr (1, [.ref h3, .ref h4, .ref h1, .int z103, .long z128, .long y1, .int z8, .int r20, .long z19, .long z104]))] rfl ?_
                    refine r_aload_n 179 2 C dX1_takeIndex_179 rfl ?_
                    refine r_get 180 C dX1_takeIndex_180 (k := 4) 2 rfl rfl hiX1 (by decide) rfl (mg 4 rfl) (Or.inl rfl) rfl ?_
                    refine r_aload_n 183 2 C dX1_takeIndex_183 rfl ?_
                    refine r_get 184 C dX1_takeIndex_184 (k := 2) 2 rfl rfl hiX1 (by decide) rfl (mg 7 rfl) (Or.inl rfl) rfl ?_
                    refine r_callVi 187 C dX1_takeIndex_187 [.long z128] [(h1, .inr (4, [.ref h2, .int x5]))] [(h2, .inl (gB g, 1500, .inl fn0)), (h0, .inr (1, [.ref h3, .ref h4, .ref h1, .int z103, .long z128, .long y1, .int z8, .int r20, .long z19, .long z104]))] (fun sz => c0_X5_size l g h1 h2 x5 i_x5 sz) gX1_takeIndex_X5_size rfl ⟨rfl, rfl⟩ 0 (by decide) ⟨Nat.le_of_ble_eq_true rfl, Nat.le_of_ble_eq_true rfl⟩ 0 rfl rfl [0] [1, 2] rfl rfl (by decide) (by decide) (by decide) rfl rfl (Nat.le_of_ble_eq_true rfl) ⟨Nat.le_of_ble_eq_true rfl, Nat.le_of_ble_eq_true rfl⟩ (fun r129 _ w130 => ?_)
                    refine r_ws [(h2, .inl (gB g, 1500, .inl fn0)), (h0, .inr (1, [.ref h3, .ref h4, .ref h1, .int z103, .long z128, .long y1, .int z8, .int r20, .long z19, .long z104])), (h1, .inr (4, [.ref h2, .int x5]))] rfl ?_
                    have p131 : x5 = r129 := (w130).symm
                    subst p131
                    obtain ⟨z132, ez132⟩ : ∃ z_9, Int32.toInt64 x5 = z_9 := ⟨_, rfl⟩
                    have tz132 : (Int64.toInt z132) = (Int32.toInt x5) := by rw [← ez132]; exact Int32.toInt_toInt64 _
                    refine r_i2l 190 z132 C dX1_takeIndex_190 ez132 ?_
                    obtain ⟨z133, ez133⟩ : ∃ z_9, lg_cmp z128 z132 = z_9 := ⟨_, rfl⟩
                    have l1z133 : (Int32.toInt z133) < 0 ↔ (Int64.toInt z128) < (Int64.toInt z132) := by rw [← ez133]; exact lgI1 z128 z132
                    have l2z133 : 0 < (Int32.toInt z133) ↔ (Int64.toInt z132) < (Int64.toInt z128) := by rw [← ez133]; exact lgI2 z128 z132
                    refine r_lcmp 191 z133 C dX1_takeIndex_191 ez133 ?_
                    refine r_if_le 192 200 C dX1_takeIndex_192 (by decide) (fun c134 => ?_) (fun c134 => ?_)
                    · skip
                      have k135 : (Int32.toInt z133) ≤ 0 := (fa_le z133 0).mp c134
                      exact r_vret 200 Rt dX1_takeIndex_200 (z103, z128, z8, r20, z19, z104) (show -257 ≤ (Int32.toInt z8) ∧ (Int32.toInt z8) ≤ 65535 from ⟨(iv_eq ⟨p6, p7⟩ tz8).1, (iv_eq ⟨p6, p7⟩ tz8).2⟩) [1, 2, 0] (by decide) rfl (Nat.le_of_ble_eq_true rfl) (Nat.le_of_ble_eq_true rfl)
                    · skip
                      have k136 : ¬ ((Int32.toInt z133) ≤ 0) := fun h_9 => c134 ((fa_le z133 0).mpr h_9)
                      refine r_aload_n 195 2 C dX1_takeIndex_195 rfl ?_
                      refine r_iconst 196 1 C dX1_takeIndex_196 (by decide) ?_
                      refine r_callVv 197 C dX1_takeIndex_197 [] [(h0, .inr (1, [.ref h3, .ref h4, .ref h1, .int z103, .long z128, .long y1, .int z8, .int r20, .long z19, .long z104]))] [(h2, .inl (gB g, 1500, .inl fn0)), (h1, .inr (4, [.ref h2, .int x5]))] (fun sz => c51_X1_wrong l g h0 1 h3 h4 h1 z103 z128 y1 z8 r20 z19 z104 (iv_eq ⟨p6, p7⟩ tz8) sz) gX1_takeIndex_X1_wrong rfl ⟨rfl, rfl⟩ 1 (by decide) ⟨Nat.le_of_ble_eq_true rfl, Nat.le_of_ble_eq_true rfl⟩ 1 rfl rfl [1] [0, 2] rfl rfl (by decide) (by decide) (by decide) rfl rfl (Nat.le_of_ble_eq_true rfl) ⟨Nat.le_of_ble_eq_true rfl, Nat.le_of_ble_eq_true rfl⟩ (fun  z137 w138 => ?_)
                      refine r_ws [(h2, .inl (gB g, 1500, .inl fn0)), (h1, .inr (4, [.ref h2, .int x5])), (h0, .inr (1, [.ref h3, .ref h4, .ref h1, .int z137, .long z128, .long y1, .int z8, .int r20, .long z19, .long z104]))] rfl ?_
                      have gz137 := fb_rng z137
                      exact r_vret 200 Rt dX1_takeIndex_200 (z137, z128, z8, r20, z19, z104) (show -257 ≤ (Int32.toInt z8) ∧ (Int32.toInt z8) ≤ 65535 from ⟨(iv_eq ⟨p6, p7⟩ tz8).1, (iv_eq ⟨p6, p7⟩ tz8).2⟩) [2, 1, 0] (by decide) rfl (Nat.le_of_ble_eq_true rfl) (Nat.le_of_ble_eq_true rfl)
                  · skip
                    have k139 : (Int32.toInt z103) = 0 := (fa_eq z103 0).mp c125
                    refine r_aload_n 112 2 C dX1_takeIndex_112 rfl ?_
                    refine r_aload_n 113 2 C dX1_takeIndex_113 rfl ?_
                    refine r_get 114 C dX1_takeIndex_114 (k := 7) 2 rfl rfl hiX1 (by decide) rfl (mg 3 rfl) (Or.inl rfl) rfl ?_
                    refine r_callVl 117 C dX1_takeIndex_117 [] [(h0, .inr (1, [.ref h3, .ref h4, .ref h1, .int z103, .long z104, .long y1, .int z8, .int r20, .long z19, .long y3])), (h1, .inr (4, [.ref h2, .int x5])), (h2, .inl (gB g, 1500, .inl fn0))] [] (fun sz => c56_X1_takeNumber l g h0 h1 h2 r20 h3 h4 z103 z104 y1 z8 r20 z19 y3 x5 fn0 (iv_eq ⟨p6, p7⟩ tz8) i_x5 sz) gX1_takeIndex_X1_takeNumber rfl ⟨rfl, rfl⟩ 1 (by decide) ⟨Nat.le_of_ble_eq_true rfl, Nat.le_of_ble_eq_true rfl⟩ 2 rfl rfl [2, 0, 1] [] rfl rfl (by decide) (by decide) (by decide) rfl rfl (Nat.le_of_ble_eq_true rfl) ⟨Nat.le_of_ble_eq_true rfl, Nat.le_of_ble_eq_true rfl⟩ (fun r142 u144 w143 => ?_)
                    obtain ⟨z140, z141⟩ := u144
                    refine r_ws [(h0, .inr (1, [.ref h3, .ref h4, .ref h1, .int z140, .long z141, .long y1, .int z8, .int r20, .long z19, .long y3])), (h1, .inr (4, [.ref h2, .int x5])), (h2, .inl (gB g, 1500, .inl fn0))] rfl ?_
                    have gz140 := fb_rng z140
                    have gz141 := fb_rngL z141
                    have gr142 := fb_rngL r142
                    refine r_lstore 120 C dX1_takeIndex_120 [(6, .long r142), (5, .int z101), (3, .long z102), (0, .ref h0), (1, .int x0), (2, .int x1)] (by decide) rfl ?_
                    refine r_aload_n 122 3 C dX1_takeIndex_122 rfl ?_
                    refine r_lload 123 0 C dX1_takeIndex_123 rfl ?_
                    refine r_lload_n 125 2 C dX1_takeIndex_125 rfl ?_
                    obtain ⟨z145, ez145⟩ : ∃ z_9, lg_cmp r142 z102 = z_9 := ⟨_, rfl⟩
                    have l1z145 : (Int32.toInt z145) < 0 ↔ (Int64.toInt r142) < (Int64.toInt z102) := by rw [← ez145]; exact lgI1 r142 z102
                    have l2z145 : 0 < (Int32.toInt z145) ↔ (Int64.toInt z102) < (Int64.toInt r142) := by rw [← ez145]; exact lgI2 r142 z102
                    refine r_lcmp 126 z145 C dX1_takeIndex_126 ez145 ?_
                    refine r_if_lt 127 146 C dX1_takeIndex_127 (by decide) (fun c146 => ?_) (fun c146 => ?_)
                    · skip
                      have k147 : (Int32.toInt z145) < 0 := (fa_lt z145 0).mp c146
                      refine r_iconst 146 0 C dX1_takeIndex_146 (by decide) ?_
                      refine r_callVv 147 C dX1_takeIndex_147 [] [(h0, .inr (1, [.ref h3, .ref h4, .ref h1, .int z140, .long z141, .long y1, .int z8, .int r20, .long z19, .long y3]))] [(h1, .inr (4, [.ref h2, .int x5])), (h2, .inl (gB g, 1500, .inl fn0))] (fun sz => c53_X1_want l g h0 0 h3 h4 h1 z140 z141 y1 z8 r20 z19 y3 (by decide) (iv_eq ⟨p6, p7⟩ tz8) sz) gX1_takeIndex_X1_want rfl ⟨rfl, rfl⟩ 1 (by decide) ⟨Nat.le_of_ble_eq_true rfl, Nat.le_of_ble_eq_true rfl⟩ 0 rfl rfl [0] [1, 2] rfl rfl (by decide) (by decide) (by decide) rfl rfl (Nat.le_of_ble_eq_true rfl) ⟨Nat.le_of_ble_eq_true rfl, Nat.le_of_ble_eq_true rfl⟩ (fun  z148 w149 => ?_)
                      refine r_ws [(h1, .inr (4, [.ref h2, .int x5])), (h2, .inl (gB g, 1500, .inl fn0)), (h0, .inr (1, [.ref h3, .ref h4, .ref h1, .int z148, .long z141, .long y1, .int z8, .int r20, .long z19, .long y3]))] rfl ?_
                      have gz148 := fb_rng z148
                      refine r_lload 150 0 C dX1_takeIndex_150 rfl ?_
                      refine r_lstore_n 152 C dX1_takeIndex_152 [(3, .long r142), (6, .long r142), (5, .int z101), (0, .ref h0), (1, .int x0), (2, .int x1)] (by decide) rfl ?_
                      obtain ⟨z150, ez150⟩ : ∃ z_9, z101 + Int32.ofInt 1 = z_9 := ⟨_, rfl⟩
                      have tz150 : (Int32.toInt z150) = (Int32.toInt z101) + 1 := by rw [← ez150]; exact fb_addIv (a := 0) (b := 65536) (c := 1) (d := 1) ⟨i109a, i109b⟩ ⟨by decide, by decide⟩ (by decide) (by decide)
                      refine r_iinc 153 2 z150 C dX1_takeIndex_153 rfl ez150 [(5, .int z150), (3, .long r142), (6, .long r142), (0, .ref h0), (1, .int x0), (2, .int x1)] (by decide) rfl ?_
                      refine r_goto 156 96 C dX1_takeIndex_156 (by decide) ?_
                      refine r_lv [(5, .int z150), (3, .long r142), (0, .ref h0), (1, .int x0), (2, .int x1)] [0, 1, 3, 4, 5] rfl ?_
                      exact ih107 z150 r142 z148 z141 ⟨by omega, by omega⟩ (by omega)
                    · skip
                      have k151 : ¬ ((Int32.toInt z145) < 0) := fun h_9 => c146 ((fa_lt z145 0).mpr h_9)
                      refine r_iload 130 1 C dX1_takeIndex_130 rfl ?_
                      refine r_if_gt 132 142 C dX1_takeIndex_132 (by decide) (fun c152 => ?_) (fun c152 => ?_)
                      · skip
                        have k153 : 0 < (Int32.toInt z101) := (fa_lt 0 z101).mp c152
                        refine r_iconst 142 1 C dX1_takeIndex_142 (by decide) ?_
                        refine r_goto 143 147 C dX1_takeIndex_143 (by decide) ?_
                        refine r_callVv 147 C dX1_takeIndex_147 [] [(h0, .inr (1, [.ref h3, .ref h4, .ref h1, .int z140, .long z141, .long y1, .int z8, .int r20, .long z19, .long y3]))] [(h1, .inr (4, [.ref h2, .int x5])), (h2, .inl (gB g, 1500, .inl fn0))] (fun sz => c53_X1_want l g h0 1 h3 h4 h1 z140 z141 y1 z8 r20 z19 y3 (by decide) (iv_eq ⟨p6, p7⟩ tz8) sz) gX1_takeIndex_X1_want rfl ⟨rfl, rfl⟩ 1 (by decide) ⟨Nat.le_of_ble_eq_true rfl, Nat.le_of_ble_eq_true rfl⟩ 0 rfl rfl [0] [1, 2] rfl rfl (by decide) (by decide) (by decide) rfl rfl (Nat.le_of_ble_eq_true rfl) ⟨Nat.le_of_ble_eq_true rfl, Nat.le_of_ble_eq_true rfl⟩ (fun  z154 w155 => ?_)
                        refine r_ws [(h1, .inr (4, [.ref h2, .int x5])), (h2, .inl (gB g, 1500, .inl fn0)), (h0, .inr (1, [.ref h3, .ref h4, .ref h1, .int z154, .long z141, .long y1, .int z8, .int r20, .long z19, .long y3]))] rfl ?_
                        have gz154 := fb_rng z154
                        refine r_lload 150 0 C dX1_takeIndex_150 rfl ?_
                        refine r_lstore_n 152 C dX1_takeIndex_152 [(3, .long r142), (6, .long r142), (5, .int z101), (0, .ref h0), (1, .int x0), (2, .int x1)] (by decide) rfl ?_
                        obtain ⟨z156, ez156⟩ : ∃ z_9, z101 + Int32.ofInt 1 = z_9 := ⟨_, rfl⟩
                        have tz156 : (Int32.toInt z156) = (Int32.toInt z101) + 1 := by rw [← ez156]; exact fb_addIv (a := 0) (b := 65536) (c := 1) (d := 1) ⟨i109a, i109b⟩ ⟨by decide, by decide⟩ (by decide) (by decide)
                        refine r_iinc 153 2 z156 C dX1_takeIndex_153 rfl ez156 [(5, .int z156), (3, .long r142), (6, .long r142), (0, .ref h0), (1, .int x0), (2, .int x1)] (by decide) rfl ?_
                        refine r_goto 156 96 C dX1_takeIndex_156 (by decide) ?_
                        refine r_lv [(5, .int z156), (3, .long r142), (0, .ref h0), (1, .int x0), (2, .int x1)] [0, 1, 3, 4, 5] rfl ?_
                        exact ih107 z156 r142 z154 z141 ⟨by omega, by omega⟩ (by omega)
                      · skip
                        have k157 : ¬ (0 < (Int32.toInt z101)) := fun h_9 => c152 ((fa_lt 0 z101).mpr h_9)
                        refine r_lload 135 0 C dX1_takeIndex_135 rfl ?_
                        refine r_lconst 137 1 C dX1_takeIndex_137 (by decide) ?_
                        obtain ⟨z158, ez158⟩ : ∃ z_9, lg_cmp r142 1 = z_9 := ⟨_, rfl⟩
                        have l1z158 : (Int32.toInt z158) < 0 ↔ (Int64.toInt r142) < 1 := by rw [← ez158]; exact lgI1 r142 1
                        have l2z158 : 0 < (Int32.toInt z158) ↔ 1 < (Int64.toInt r142) := by rw [← ez158]; exact lgI2 r142 1
                        refine r_lcmp 138 z158 C dX1_takeIndex_138 ez158 ?_
                        refine r_if_ne 139 146 C dX1_takeIndex_139 (by decide) (fun c159 => ?_) (fun c159 => ?_)
                        · skip
                          have k160 : ¬ ((Int32.toInt z158) = 0) := fun h_9 => c159 ((fa_eq z158 0).mpr h_9)
                          refine r_iconst 146 0 C dX1_takeIndex_146 (by decide) ?_
                          refine r_callVv 147 C dX1_takeIndex_147 [] [(h0, .inr (1, [.ref h3, .ref h4, .ref h1, .int z140, .long z141, .long y1, .int z8, .int r20, .long z19, .long y3]))] [(h1, .inr (4, [.ref h2, .int x5])), (h2, .inl (gB g, 1500, .inl fn0))] (fun sz => c53_X1_want l g h0 0 h3 h4 h1 z140 z141 y1 z8 r20 z19 y3 (by decide) (iv_eq ⟨p6, p7⟩ tz8) sz) gX1_takeIndex_X1_want rfl ⟨rfl, rfl⟩ 1 (by decide) ⟨Nat.le_of_ble_eq_true rfl, Nat.le_of_ble_eq_true rfl⟩ 0 rfl rfl [0] [1, 2] rfl rfl (by decide) (by decide) (by decide) rfl rfl (Nat.le_of_ble_eq_true rfl) ⟨Nat.le_of_ble_eq_true rfl, Nat.le_of_ble_eq_true rfl⟩ (fun  z161 w162 => ?_)
                          refine r_ws [(h1, .inr (4, [.ref h2, .int x5])), (h2, .inl (gB g, 1500, .inl fn0)), (h0, .inr (1, [.ref h3, .ref h4, .ref h1, .int z161, .long z141, .long y1, .int z8, .int r20, .long z19, .long y3]))] rfl ?_
                          have gz161 := fb_rng z161
                          refine r_lload 150 0 C dX1_takeIndex_150 rfl ?_
                          refine r_lstore_n 152 C dX1_takeIndex_152 [(3, .long r142), (6, .long r142), (5, .int z101), (0, .ref h0), (1, .int x0), (2, .int x1)] (by decide) rfl ?_
                          obtain ⟨z163, ez163⟩ : ∃ z_9, z101 + Int32.ofInt 1 = z_9 := ⟨_, rfl⟩
                          have tz163 : (Int32.toInt z163) = (Int32.toInt z101) + 1 := by rw [← ez163]; exact fb_addIv (a := 0) (b := 65536) (c := 1) (d := 1) ⟨i109a, i109b⟩ ⟨by decide, by decide⟩ (by decide) (by decide)
                          refine r_iinc 153 2 z163 C dX1_takeIndex_153 rfl ez163 [(5, .int z163), (3, .long r142), (6, .long r142), (0, .ref h0), (1, .int x0), (2, .int x1)] (by decide) rfl ?_
                          refine r_goto 156 96 C dX1_takeIndex_156 (by decide) ?_
                          refine r_lv [(5, .int z163), (3, .long r142), (0, .ref h0), (1, .int x0), (2, .int x1)] [0, 1, 3, 4, 5] rfl ?_
                          exact ih107 z163 r142 z161 z141 ⟨by omega, by omega⟩ (by omega)
                        · skip
                          have k164 : (Int32.toInt z158) = 0 := (fa_eq z158 0).mp c159
                          refine r_iconst 142 1 C dX1_takeIndex_142 (by decide) ?_
                          refine r_goto 143 147 C dX1_takeIndex_143 (by decide) ?_
                          refine r_callVv 147 C dX1_takeIndex_147 [] [(h0, .inr (1, [.ref h3, .ref h4, .ref h1, .int z140, .long z141, .long y1, .int z8, .int r20, .long z19, .long y3]))] [(h1, .inr (4, [.ref h2, .int x5])), (h2, .inl (gB g, 1500, .inl fn0))] (fun sz => c53_X1_want l g h0 1 h3 h4 h1 z140 z141 y1 z8 r20 z19 y3 (by decide) (iv_eq ⟨p6, p7⟩ tz8) sz) gX1_takeIndex_X1_want rfl ⟨rfl, rfl⟩ 1 (by decide) ⟨Nat.le_of_ble_eq_true rfl, Nat.le_of_ble_eq_true rfl⟩ 0 rfl rfl [0] [1, 2] rfl rfl (by decide) (by decide) (by decide) rfl rfl (Nat.le_of_ble_eq_true rfl) ⟨Nat.le_of_ble_eq_true rfl, Nat.le_of_ble_eq_true rfl⟩ (fun  z165 w166 => ?_)
                          refine r_ws [(h1, .inr (4, [.ref h2, .int x5])), (h2, .inl (gB g, 1500, .inl fn0)), (h0, .inr (1, [.ref h3, .ref h4, .ref h1, .int z165, .long z141, .long y1, .int z8, .int r20, .long z19, .long y3]))] rfl ?_
                          have gz165 := fb_rng z165
                          refine r_lload 150 0 C dX1_takeIndex_150 rfl ?_
                          refine r_lstore_n 152 C dX1_takeIndex_152 [(3, .long r142), (6, .long r142), (5, .int z101), (0, .ref h0), (1, .int x0), (2, .int x1)] (by decide) rfl ?_
                          obtain ⟨z167, ez167⟩ : ∃ z_9, z101 + Int32.ofInt 1 = z_9 := ⟨_, rfl⟩
                          have tz167 : (Int32.toInt z167) = (Int32.toInt z101) + 1 := by rw [← ez167]; exact fb_addIv (a := 0) (b := 65536) (c := 1) (d := 1) ⟨i109a, i109b⟩ ⟨by decide, by decide⟩ (by decide) (by decide)
                          refine r_iinc 153 2 z167 C dX1_takeIndex_153 rfl ez167 [(5, .int z167), (3, .long r142), (6, .long r142), (0, .ref h0), (1, .int x0), (2, .int x1)] (by decide) rfl ?_
                          refine r_goto 156 96 C dX1_takeIndex_156 (by decide) ?_
                          refine r_lv [(5, .int z167), (3, .long r142), (0, .ref h0), (1, .int x0), (2, .int x1)] [0, 1, 3, 4, 5] rfl ?_
                          exact ih107 z167 r142 z165 z141 ⟨by omega, by omega⟩ (by omega)
            exact lp106 _ 0 1 z99 z19 (by decide) (Nat.lt_succ_self _)
          · skip
            have k168 : ¬ (4 < (Int32.toInt r20)) := fun h_9 => c97 ((fa_lt 4 r20).mpr h_9)
            refine r_iconst 75 1 C dX1_takeIndex_75 (by decide) ?_
            refine r_goto 76 80 C dX1_takeIndex_76 (by decide) ?_
            refine r_callVv 80 C dX1_takeIndex_80 [] [(h0, .inr (1, [.ref h3, .ref h4, .ref h1, .int z18, .long z19, .long y1, .int z8, .int r20, .long y2, .long y3]))] [(h1, .inr (4, [.ref h2, .int x5])), (h2, .inl (gB g, 1500, .inl fn0))] (fun sz => c53_X1_want l g h0 1 h3 h4 h1 z18 z19 y1 z8 r20 y2 y3 (by decide) (iv_eq ⟨p6, p7⟩ tz8) sz) gX1_takeIndex_X1_want rfl ⟨rfl, rfl⟩ 1 (by decide) ⟨Nat.le_of_ble_eq_true rfl, Nat.le_of_ble_eq_true rfl⟩ 0 rfl rfl [0] [1, 2] rfl rfl (by decide) (by decide) (by decide) rfl rfl (Nat.le_of_ble_eq_true rfl) ⟨Nat.le_of_ble_eq_true rfl, Nat.le_of_ble_eq_true rfl⟩ (fun  z169 w170 => ?_)
            refine r_ws [(h1, .inr (4, [.ref h2, .int x5])), (h2, .inl (gB g, 1500, .inl fn0)), (h0, .inr (1, [.ref h3, .ref h4, .ref h1, .int z169, .long z19, .long y1, .int z8, .int r20, .long y2, .long y3]))] rfl ?_
            have gz169 := fb_rng z169
            refine r_aload_n 83 0 C dX1_takeIndex_83 rfl ?_
            refine r_aload_n 84 0 C dX1_takeIndex_84 rfl ?_
            refine r_get 85 C dX1_takeIndex_85 (k := 4) 2 rfl rfl hiX1 (by decide) rfl (mg 4 rfl) (Or.inl rfl) rfl ?_
            refine r_put 88 C dX1_takeIndex_88 (k := 8) 2 rfl rfl hiX1 tyX1 tyX1_ok nmX1 (by decide) rfl (mg 5 rfl) (Or.inl rfl) rfl rfl rfl rfl (Nat.le_of_ble_eq_true rfl) [(h1, .inr (4, [.ref h2, .int x5])), (h2, .inl (gB g, 1500, .inl fn0)), (h0, .inr (1, [.ref h3, .ref h4, .ref h1, .int z169, .long z19, .long y1, .int z8, .int r20, .long z19, .long y3]))] rfl ?_
            refine r_lconst 91 1 C dX1_takeIndex_91 (by decide) ?_
            refine r_lstore_n 92 C dX1_takeIndex_92 [(3, .long 1), (0, .ref h0), (1, .int x0), (2, .int x1)] (by decide) rfl ?_
            refine r_iconst 93 0 C dX1_takeIndex_93 (by decide) ?_
            refine r_istore 94 C dX1_takeIndex_94 [(5, .int 0), (3, .long 1), (0, .ref h0), (1, .int x0), (2, .int x1)] (by decide) rfl ?_
            have lp176 : ∀ (n175 : Nat) (z171 : Int32) (z172 : Int64) (z173 : Int32) (z174 : Int64), (0 ≤ (Int32.toInt z171) ∧ (Int32.toInt z171) ≤ 65536) → Int.toNat (65536 - (Int32.toInt z171)) < n175 → WW p l e ({ frames := 3, cells := 0, slots := 0, locals := 67 } : Room) s m args below meth c A Q g 8 0 0 [(h1, .inr (4, [.ref h2, .int x5])), (h2, .inl (gB g, 1500, .inl fn0)), (h0, .inr (1, [.ref h3, .ref h4, .ref h1, .int z173, .long z174, .long y1, .int z8, .int r20, .long z19, .long y3]))] 96 [(5, .int z171), (3, .long z172), (0, .ref h0), (1, .int x0), (2, .int x1)] [] := by
              intro n175
              induction n175 with
              | zero => intro z171 z172 z173 z174 i179 hm178; exact absurd hm178 (Nat.not_lt_zero _)
              | succ n175 ih177 =>
                intro z171 z172 z173 z174 i179 hm178
                obtain ⟨i179a, i179b⟩ := i179
                have gz172 := fb_rngL z172
                have gz173 := fb_rng z173
                have gz174 := fb_rngL z174
                refine r_iload 96 0 C dX1_takeIndex_96 rfl ?_
                refine r_aload_n 98 2 C dX1_takeIndex_98 rfl ?_
                refine r_get 99 C dX1_takeIndex_99 (k := 6) 2 rfl rfl hiX1 (by decide) rfl (mg 1 rfl) (Or.inl rfl) rfl ?_
                refine r_icmp_gt 102 159 C dX1_takeIndex_102 (by decide) (fun c180 => ?_) (fun c180 => ?_)
                · skip
                  have k181 : (Int32.toInt z8) < (Int32.toInt z171) := (fa_lt z8 z171).mp c180
                  refine r_aload_n 159 2 C dX1_takeIndex_159 rfl ?_
                  refine r_aload_n 160 2 C dX1_takeIndex_160 rfl ?_
                  refine r_get 161 C dX1_takeIndex_161 (k := 4) 2 rfl rfl hiX1 (by decide) rfl (mg 4 rfl) (Or.inl rfl) rfl ?_
                  refine r_put 164 C dX1_takeIndex_164 (k := 9) 2 rfl rfl hiX1 tyX1 tyX1_ok nmX1 (by decide) rfl (mg 6 rfl) (Or.inl rfl) rfl rfl rfl rfl (Nat.le_of_ble_eq_true rfl) [(h1, .inr (4, [.ref h2, .int x5])), (h2, .inl (gB g, 1500, .inl fn0)), (h0, .inr (1, [.ref h3, .ref h4, .ref h1, .int z173, .long z174, .long y1, .int z8, .int r20, .long z19, .long z174]))] rfl ?_
                  refine r_aload_n 167 2 C dX1_takeIndex_167 rfl ?_
                  refine r_dup 168 C dX1_takeIndex_168 rfl ?_
                  refine r_get 169 C dX1_takeIndex_169 (k := 4) 2 rfl rfl hiX1 (by decide) rfl (mg 4 rfl) (Or.inl rfl) rfl ?_
                  refine r_lload_n 172 1 C dX1_takeIndex_172 rfl ?_
                  refine r_lconst 173 1 C dX1_takeIndex_173 (by decide) ?_
                  obtain ⟨z182, ez182⟩ : ∃ z_9, z172 - 1 = z_9 := ⟨_, rfl⟩
                  have gz182 := fb_rngL z182
                  refine r_lsub 174 z182 C dX1_takeIndex_174 ez182 ?_
                  obtain ⟨z183, ez183⟩ : ∃ z_9, z174 + z182 = z_9 := ⟨_, rfl⟩
                  have gz183 := fb_rngL z183
                  refine r_ladd 175 z183 C dX1_takeIndex_175 ez183 ?_
                  refine r_put 176 C dX1_takeIndex_176 (k := 4) 2 rfl rfl hiX1 tyX1 tyX1_ok nmX1 (by decide) rfl (mg 4 rfl) (Or.inl rfl) rfl rfl rfl rfl (Nat.le_of_ble_eq_true rfl) [(h1, .inr (4, [.ref h2, .int x5])), (h2, .inl (gB g, 1500, .inl fn0)), (h0, .inr (1, [.ref h3, .ref h4, .ref h1, .int z173, .long z183, .long y1, .int z8, .int r20, .long z19, .long z174]))] rfl ?_
                  refine r_aload_n 179 2 C dX1_takeIndex_179 rfl ?_
                  refine r_get 180 C dX1_takeIndex_180 (k := 4) 2 rfl rfl hiX1 (by decide) rfl (mg 4 rfl) (Or.inl rfl) rfl ?_
                  refine r_aload_n 183 2 C dX1_takeIndex_183 rfl ?_
                  refine r_get 184 C dX1_takeIndex_184 (k := 2) 2 rfl rfl hiX1 (by decide) rfl (mg 7 rfl) (Or.inl rfl) rfl ?_
                  refine r_callVi 187 C dX1_takeIndex_187 [.long z183] [(h1, .inr (4, [.ref h2, .int x5]))] [(h2, .inl (gB g, 1500, .inl fn0)), (h0, .inr (1, [.ref h3, .ref h4, .ref h1, .int z173, .long z183, .long y1, .int z8, .int r20, .long z19, .long z174]))] (fun sz => c0_X5_size l g h1 h2 x5 i_x5 sz) gX1_takeIndex_X5_size rfl ⟨rfl, rfl⟩ 0 (by decide) ⟨Nat.le_of_ble_eq_true rfl, Nat.le_of_ble_eq_true rfl⟩ 0 rfl rfl [0] [1, 2] rfl rfl (by decide) (by decide) (by decide) rfl rfl (Nat.le_of_ble_eq_true rfl) ⟨Nat.le_of_ble_eq_true rfl, Nat.le_of_ble_eq_true rfl⟩ (fun r184 _ w185 => ?_)
                  refine r_ws [(h2, .inl (gB g, 1500, .inl fn0)), (h0, .inr (1, [.ref h3, .ref h4, .ref h1, .int z173, .long z183, .long y1, .int z8, .int r20, .long z19, .long z174])), (h1, .inr (4, [.ref h2, .int x5]))] rfl ?_
                  have p186 : x5 = r184 := (w185).symm
                  subst p186
                  obtain ⟨z187, ez187⟩ : ∃ z_9, Int32.toInt64 x5 = z_9 := ⟨_, rfl⟩
                  have tz187 : (Int64.toInt z187) = (Int32.toInt x5) := by rw [← ez187]; exact Int32.toInt_toInt64 _
                  refine r_i2l 190 z187 C dX1_takeIndex_190 ez187 ?_
                  obtain ⟨z188, ez188⟩ : ∃ z_9, lg_cmp z183 z187 = z_9 := ⟨_, rfl⟩
                  have l1z188 : (Int32.toInt z188) < 0 ↔ (Int64.toInt z183) < (Int64.toInt z187) := by rw [← ez188]; exact lgI1 z183 z187
                  have l2z188 : 0 < (Int32.toInt z188) ↔ (Int64.toInt z187) < (Int64.toInt z183) := by rw [← ez188]; exact lgI2 z183 z187
                  refine r_lcmp 191 z188 C dX1_takeIndex_191 ez188 ?_
                  refine r_if_le 192 200 C dX1_takeIndex_192 (by decide) (fun c189 => ?_) (fun c189 => ?_)
                  · skip
                    have k190 : (Int32.toInt z188) ≤ 0 := (fa_le z188 0).mp c189
                    exact r_vret 200 Rt dX1_takeIndex_200 (z173, z183, z8, r20, z19, z174) (show -257 ≤ (Int32.toInt z8) ∧ (Int32.toInt z8) ≤ 65535 from ⟨(iv_eq ⟨p6, p7⟩ tz8).1, (iv_eq ⟨p6, p7⟩ tz8).2⟩) [1, 2, 0] (by decide) rfl (Nat.le_of_ble_eq_true rfl) (Nat.le_of_ble_eq_true rfl)
                  · skip
                    have k191 : ¬ ((Int32.toInt z188) ≤ 0) := fun h_9 => c189 ((fa_le z188 0).mpr h_9)
                    refine r_aload_n 195 2 C dX1_takeIndex_195 rfl ?_
                    refine r_iconst 196 1 C dX1_takeIndex_196 (by decide) ?_
                    refine r_callVv 197 C dX1_takeIndex_197 [] [(h0, .inr (1, [.ref h3, .ref h4, .ref h1, .int z173, .long z183, .long y1, .int z8, .int r20, .long z19, .long z174]))] [(h2, .inl (gB g, 1500, .inl fn0)), (h1, .inr (4, [.ref h2, .int x5]))] (fun sz => c51_X1_wrong l g h0 1 h3 h4 h1 z173 z183 y1 z8 r20 z19 z174 (iv_eq ⟨p6, p7⟩ tz8) sz) gX1_takeIndex_X1_wrong rfl ⟨rfl, rfl⟩ 1 (by decide) ⟨Nat.le_of_ble_eq_true rfl, Nat.le_of_ble_eq_true rfl⟩ 1 rfl rfl [1] [0, 2] rfl rfl (by decide) (by decide) (by decide) rfl rfl (Nat.le_of_ble_eq_true rfl) ⟨Nat.le_of_ble_eq_true rfl, Nat.le_of_ble_eq_true rfl⟩ (fun  z192 w193 => ?_)
                    refine r_ws [(h2, .inl (gB g, 1500, .inl fn0)), (h1, .inr (4, [.ref h2, .int x5])), (h0, .inr (1, [.ref h3, .ref h4, .ref h1, .int z192, .long z183, .long y1, .int z8, .int r20, .long z19, .long z174]))] rfl ?_
                    have gz192 := fb_rng z192
                    exact r_vret 200 Rt dX1_takeIndex_200 (z192, z183, z8, r20, z19, z174) (show -257 ≤ (Int32.toInt z8) ∧ (Int32.toInt z8) ≤ 65535 from ⟨(iv_eq ⟨p6, p7⟩ tz8).1, (iv_eq ⟨p6, p7⟩ tz8).2⟩) [2, 1, 0] (by decide) rfl (Nat.le_of_ble_eq_true rfl) (Nat.le_of_ble_eq_true rfl)
                · skip
                  have k194 : ¬ ((Int32.toInt z8) < (Int32.toInt z171)) := fun h_9 => c180 ((fa_lt z8 z171).mpr h_9)
                  refine r_aload_n 105 2 C dX1_takeIndex_105 rfl ?_
                  refine r_get 106 C dX1_takeIndex_106 (k := 3) 2 rfl rfl hiX1 (by decide) rfl (mg 2 rfl) (Or.inl rfl) rfl ?_
                  refine r_if_ne 109 159 C dX1_takeIndex_109 (by decide) (fun c195 => ?_) (fun c195 => ?_)
                  · skip
                    have k196 : ¬ ((Int32.toInt z173) = 0) := fun h_9 => c195 ((fa_eq z173 0).mpr h_9)
                    refine r_aload_n 159 2 C dX1_takeIndex_159 rfl ?_
                    refine r_aload_n 160 2 C dX1_takeIndex_160 rfl ?_
                    refine r_get 161 C dX1_takeIndex_161 (k := 4) 2 rfl rfl hiX1 (by decide) rfl (mg 4 rfl) (Or.inl rfl) rfl ?_
                    refine r_put 164 C dX1_takeIndex_164 (k := 9) 2 rfl rfl hiX1 tyX1 tyX1_ok nmX1 (by decide) rfl (mg 6 rfl) (Or.inl rfl) rfl rfl rfl rfl (Nat.le_of_ble_eq_true rfl) [(h1, .inr (4, [.ref h2, .int x5])), (h2, .inl (gB g, 1500, .inl fn0)), (h0, .inr (1, [.ref h3, .ref h4, .ref h1, .int z173, .long z174, .long y1, .int z8, .int r20, .long z19, .long z174]))] rfl ?_
                    refine r_aload_n 167 2 C dX1_takeIndex_167 rfl ?_
                    refine r_dup 168 C dX1_takeIndex_168 rfl ?_
                    refine r_get 169 C dX1_takeIndex_169 (k := 4) 2 rfl rfl hiX1 (by decide) rfl (mg 4 rfl) (Or.inl rfl) rfl ?_
                    refine r_lload_n 172 1 C dX1_takeIndex_172 rfl ?_
                    refine r_lconst 173 1 C dX1_takeIndex_173 (by decide) ?_
                    obtain ⟨z197, ez197⟩ : ∃ z_9, z172 - 1 = z_9 := ⟨_, rfl⟩
                    have gz197 := fb_rngL z197
                    refine r_lsub 174 z197 C dX1_takeIndex_174 ez197 ?_
                    obtain ⟨z198, ez198⟩ : ∃ z_9, z174 + z197 = z_9 := ⟨_, rfl⟩
                    have gz198 := fb_rngL z198
                    refine r_ladd 175 z198 C dX1_takeIndex_175 ez198 ?_
                    refine r_put 176 C dX1_takeIndex_176 (k := 4) 2 rfl rfl hiX1 tyX1 tyX1_ok nmX1 (by decide) rfl (mg 4 rfl) (Or.inl rfl) rfl rfl rfl rfl (Nat.le_of_ble_eq_true rfl) [(h1, .inr (4, [.ref h2, .int x5])), (h2, .inl (gB g, 1500, .inl fn0)), (h0, .inr (1, [.ref h3, .ref h4, .ref h1, .int z173, .long z198, .long y1, .int z8, .int r20, .long z19, .long z174]))] rfl ?_
                    refine r_aload_n 179 2 C dX1_takeIndex_179 rfl ?_
                    refine r_get 180 C dX1_takeIndex_180 (k := 4) 2 rfl rfl hiX1 (by decide) rfl (mg 4 rfl) (Or.inl rfl) rfl ?_
                    refine r_aload_n 183 2 C dX1_takeIndex_183 rfl ?_
                    refine r_get 184 C dX1_takeIndex_184 (k := 2) 2 rfl rfl hiX1 (by decide) rfl (mg 7 rfl) (Or.inl rfl) rfl ?_
                    refine r_callVi 187 C dX1_takeIndex_187 [.long z198] [(h1, .inr (4, [.ref h2, .int x5]))] [(h2, .inl (gB g, 1500, .inl fn0)), (h0, .inr (1, [.ref h3, .ref h4, .ref h1, .int z173, .long z198, .long y1, .int z8, .int r20, .long z19, .long z174]))] (fun sz => c0_X5_size l g h1 h2 x5 i_x5 sz) gX1_takeIndex_X5_size rfl ⟨rfl, rfl⟩ 0 (by decide) ⟨Nat.le_of_ble_eq_true rfl, Nat.le_of_ble_eq_true rfl⟩ 0 rfl rfl [0] [1, 2] rfl rfl (by decide) (by decide) (by decide) rfl rfl (Nat.le_of_ble_eq_true rfl) ⟨Nat.le_of_ble_eq_true rfl, Nat.le_of_ble_eq_true rfl⟩ (fun r199 _ w200 => ?_)
                    refine r_ws [(h2, .inl (gB g, 1500, .inl fn0)), (h0, .inr (1, [.ref h3, .ref h4, .ref h1, .int z173, .long z198, .long y1, .int z8, .int r20, .long z19, .long z174])), (h1, .inr (4, [.ref h2, .int x5]))] rfl ?_
                    have p201 : x5 = r199 := (w200).symm
                    subst p201
                    obtain ⟨z202, ez202⟩ : ∃ z_9, Int32.toInt64 x5 = z_9 := ⟨_, rfl⟩
                    have tz202 : (Int64.toInt z202) = (Int32.toInt x5) := by rw [← ez202]; exact Int32.toInt_toInt64 _
                    refine r_i2l 190 z202 C dX1_takeIndex_190 ez202 ?_
                    obtain ⟨z203, ez203⟩ : ∃ z_9, lg_cmp z198 z202 = z_9 := ⟨_, rfl⟩
                    have l1z203 : (Int32.toInt z203) < 0 ↔ (Int64.toInt z198) < (Int64.toInt z202) := by rw [← ez203]; exact lgI1 z198 z202
                    have l2z203 : 0 < (Int32.toInt z203) ↔ (Int64.toInt z202) < (Int64.toInt z198) := by rw [← ez203]; exact lgI2 z198 z202
                    refine r_lcmp 191 z203 C dX1_takeIndex_191 ez203 ?_
                    refine r_if_le 192 200 C dX1_takeIndex_192 (by decide) (fun c204 => ?_) (fun c204 => ?_)
                    · skip
                      have k205 : (Int32.toInt z203) ≤ 0 := (fa_le z203 0).mp c204
                      exact r_vret 200 Rt dX1_takeIndex_200 (z173, z198, z8, r20, z19, z174) (show -257 ≤ (Int32.toInt z8) ∧ (Int32.toInt z8) ≤ 65535 from ⟨(iv_eq ⟨p6, p7⟩ tz8).1, (iv_eq ⟨p6, p7⟩ tz8).2⟩) [1, 2, 0] (by decide) rfl (Nat.le_of_ble_eq_true rfl) (Nat.le_of_ble_eq_true rfl)
                    · skip
                      have k206 : ¬ ((Int32.toInt z203) ≤ 0) := fun h_9 => c204 ((fa_le z203 0).mpr h_9)
                      refine r_aload_n 195 2 C dX1_takeIndex_195 rfl ?_
                      refine r_iconst 196 1 C dX1_takeIndex_196 (by decide) ?_
                      refine r_callVv 197 C dX1_takeIndex_197 [] [(h0, .inr (1, [.ref h3, .ref h4, .ref h1, .int z173, .long z198, .long y1, .int z8, .int r20, .long z19, .long z174]))] [(h2, .inl (gB g, 1500, .inl fn0)), (h1, .inr (4, [.ref h2, .int x5]))] (fun sz => c51_X1_wrong l g h0 1 h3 h4 h1 z173 z198 y1 z8 r20 z19 z174 (iv_eq ⟨p6, p7⟩ tz8) sz) gX1_takeIndex_X1_wrong rfl ⟨rfl, rfl⟩ 1 (by decide) ⟨Nat.le_of_ble_eq_true rfl, Nat.le_of_ble_eq_true rfl⟩ 1 rfl rfl [1] [0, 2] rfl rfl (by decide) (by decide) (by decide) rfl rfl (Nat.le_of_ble_eq_true rfl) ⟨Nat.le_of_ble_eq_true rfl, Nat.le_of_ble_eq_true rfl⟩ (fun  z207 w208 => ?_)
                      refine r_ws [(h2, .inl (gB g, 1500, .inl fn0)), (h1, .inr (4, [.ref h2, .int x5])), (h0, .inr (1, [.ref h3, .ref h4, .ref h1, .int z207, .long z198, .long y1, .int z8, .int r20, .long z19, .long z174]))] rfl ?_
                      have gz207 := fb_rng z207
                      exact r_vret 200 Rt dX1_takeIndex_200 (z207, z198, z8, r20, z19, z174) (show -257 ≤ (Int32.toInt z8) ∧ (Int32.toInt z8) ≤ 65535 from ⟨(iv_eq ⟨p6, p7⟩ tz8).1, (iv_eq ⟨p6, p7⟩ tz8).2⟩) [2, 1, 0] (by decide) rfl (Nat.le_of_ble_eq_true rfl) (Nat.le_of_ble_eq_true rfl)
                  · skip
                    have k209 : (Int32.toInt z173) = 0 := (fa_eq z173 0).mp c195
                    refine r_aload_n 112 2 C dX1_takeIndex_112 rfl ?_
                    refine r_aload_n 113 2 C dX1_takeIndex_113 rfl ?_
                    refine r_get 114 C dX1_takeIndex_114 (k := 7) 2 rfl rfl hiX1 (by decide) rfl (mg 3 rfl) (Or.inl rfl) rfl ?_
                    refine r_callVl 117 C dX1_takeIndex_117 [] [(h0, .inr (1, [.ref h3, .ref h4, .ref h1, .int z173, .long z174, .long y1, .int z8, .int r20, .long z19, .long y3])), (h1, .inr (4, [.ref h2, .int x5])), (h2, .inl (gB g, 1500, .inl fn0))] [] (fun sz => c56_X1_takeNumber l g h0 h1 h2 r20 h3 h4 z173 z174 y1 z8 r20 z19 y3 x5 fn0 (iv_eq ⟨p6, p7⟩ tz8) i_x5 sz) gX1_takeIndex_X1_takeNumber rfl ⟨rfl, rfl⟩ 1 (by decide) ⟨Nat.le_of_ble_eq_true rfl, Nat.le_of_ble_eq_true rfl⟩ 2 rfl rfl [2, 0, 1] [] rfl rfl (by decide) (by decide) (by decide) rfl rfl (Nat.le_of_ble_eq_true rfl) ⟨Nat.le_of_ble_eq_true rfl, Nat.le_of_ble_eq_true rfl⟩ (fun r212 u214 w213 => ?_)
                    obtain ⟨z210, z211⟩ := u214
                    refine r_ws [(h0, .inr (1, [.ref h3, .ref h4, .ref h1, .int z210, .long z211, .long y1, .int z8, .int r20, .long z19, .long y3])), (h1, .inr (4, [.ref h2, .int x5])), (h2, .inl (gB g, 1500, .inl fn0))] rfl ?_
                    have gz210 := fb_rng z210
                    have gz211 := fb_rngL z211
                    have gr212 := fb_rngL r212
                    refine r_lstore 120 C dX1_takeIndex_120 [(6, .long r212), (5, .int z171), (3, .long z172), (0, .ref h0), (1, .int x0), (2, .int x1)] (by decide) rfl ?_
                    refine r_aload_n 122 3 C dX1_takeIndex_122 rfl ?_
                    refine r_lload 123 0 C dX1_takeIndex_123 rfl ?_
                    refine r_lload_n 125 2 C dX1_takeIndex_125 rfl ?_
                    obtain ⟨z215, ez215⟩ : ∃ z_9, lg_cmp r212 z172 = z_9 := ⟨_, rfl⟩
                    have l1z215 : (Int32.toInt z215) < 0 ↔ (Int64.toInt r212) < (Int64.toInt z172) := by rw [← ez215]; exact lgI1 r212 z172
                    have l2z215 : 0 < (Int32.toInt z215) ↔ (Int64.toInt z172) < (Int64.toInt r212) := by rw [← ez215]; exact lgI2 r212 z172
                    refine r_lcmp 126 z215 C dX1_takeIndex_126 ez215 ?_
                    refine r_if_lt 127 146 C dX1_takeIndex_127 (by decide) (fun c216 => ?_) (fun c216 => ?_)
                    · skip
                      have k217 : (Int32.toInt z215) < 0 := (fa_lt z215 0).mp c216
                      refine r_iconst 146 0 C dX1_takeIndex_146 (by decide) ?_
                      refine r_callVv 147 C dX1_takeIndex_147 [] [(h0, .inr (1, [.ref h3, .ref h4, .ref h1, .int z210, .long z211, .long y1, .int z8, .int r20, .long z19, .long y3]))] [(h1, .inr (4, [.ref h2, .int x5])), (h2, .inl (gB g, 1500, .inl fn0))] (fun sz => c53_X1_want l g h0 0 h3 h4 h1 z210 z211 y1 z8 r20 z19 y3 (by decide) (iv_eq ⟨p6, p7⟩ tz8) sz) gX1_takeIndex_X1_want rfl ⟨rfl, rfl⟩ 1 (by decide) ⟨Nat.le_of_ble_eq_true rfl, Nat.le_of_ble_eq_true rfl⟩ 0 rfl rfl [0] [1, 2] rfl rfl (by decide) (by decide) (by decide) rfl rfl (Nat.le_of_ble_eq_true rfl) ⟨Nat.le_of_ble_eq_true rfl, Nat.le_of_ble_eq_true rfl⟩ (fun  z218 w219 => ?_)
                      refine r_ws [(h1, .inr (4, [.ref h2, .int x5])), (h2, .inl (gB g, 1500, .inl fn0)), (h0, .inr (1, [.ref h3, .ref h4, .ref h1, .int z218, .long z211, .long y1, .int z8, .int r20, .long z19, .long y3]))] rfl ?_
                      have gz218 := fb_rng z218
                      refine r_lload 150 0 C dX1_takeIndex_150 rfl ?_
                      refine r_lstore_n 152 C dX1_takeIndex_152 [(3, .long r212), (6, .long r212), (5, .int z171), (0, .ref h0), (1, .int x0), (2, .int x1)] (by decide) rfl ?_
                      obtain ⟨z220, ez220⟩ : ∃ z_9, z171 + Int32.ofInt 1 = z_9 := ⟨_, rfl⟩
                      have tz220 : (Int32.toInt z220) = (Int32.toInt z171) + 1 := by rw [← ez220]; exact fb_addIv (a := 0) (b := 65536) (c := 1) (d := 1) ⟨i179a, i179b⟩ ⟨by decide, by decide⟩ (by decide) (by decide)
                      refine r_iinc 153 2 z220 C dX1_takeIndex_153 rfl ez220 [(5, .int z220), (3, .long r212), (6, .long r212), (0, .ref h0), (1, .int x0), (2, .int x1)] (by decide) rfl ?_
                      refine r_goto 156 96 C dX1_takeIndex_156 (by decide) ?_
                      refine r_lv [(5, .int z220), (3, .long r212), (0, .ref h0), (1, .int x0), (2, .int x1)] [0, 1, 3, 4, 5] rfl ?_
                      exact ih177 z220 r212 z218 z211 ⟨by omega, by omega⟩ (by omega)
                    · skip
                      have k221 : ¬ ((Int32.toInt z215) < 0) := fun h_9 => c216 ((fa_lt z215 0).mpr h_9)
                      refine r_iload 130 1 C dX1_takeIndex_130 rfl ?_
                      refine r_if_gt 132 142 C dX1_takeIndex_132 (by decide) (fun c222 => ?_) (fun c222 => ?_)
                      · skip
                        have k223 : 0 < (Int32.toInt z171) := (fa_lt 0 z171).mp c222
                        refine r_iconst 142 1 C dX1_takeIndex_142 (by decide) ?_
                        refine r_goto 143 147 C dX1_takeIndex_143 (by decide) ?_
                        refine r_callVv 147 C dX1_takeIndex_147 [] [(h0, .inr (1, [.ref h3, .ref h4, .ref h1, .int z210, .long z211, .long y1, .int z8, .int r20, .long z19, .long y3]))] [(h1, .inr (4, [.ref h2, .int x5])), (h2, .inl (gB g, 1500, .inl fn0))] (fun sz => c53_X1_want l g h0 1 h3 h4 h1 z210 z211 y1 z8 r20 z19 y3 (by decide) (iv_eq ⟨p6, p7⟩ tz8) sz) gX1_takeIndex_X1_want rfl ⟨rfl, rfl⟩ 1 (by decide) ⟨Nat.le_of_ble_eq_true rfl, Nat.le_of_ble_eq_true rfl⟩ 0 rfl rfl [0] [1, 2] rfl rfl (by decide) (by decide) (by decide) rfl rfl (Nat.le_of_ble_eq_true rfl) ⟨Nat.le_of_ble_eq_true rfl, Nat.le_of_ble_eq_true rfl⟩ (fun  z224 w225 => ?_)
                        refine r_ws [(h1, .inr (4, [.ref h2, .int x5])), (h2, .inl (gB g, 1500, .inl fn0)), (h0, .inr (1, [.ref h3, .ref h4, .ref h1, .int z224, .long z211, .long y1, .int z8, .int r20, .long z19, .long y3]))] rfl ?_
                        have gz224 := fb_rng z224
                        refine r_lload 150 0 C dX1_takeIndex_150 rfl ?_
                        refine r_lstore_n 152 C dX1_takeIndex_152 [(3, .long r212), (6, .long r212), (5, .int z171), (0, .ref h0), (1, .int x0), (2, .int x1)] (by decide) rfl ?_
                        obtain ⟨z226, ez226⟩ : ∃ z_9, z171 + Int32.ofInt 1 = z_9 := ⟨_, rfl⟩
                        have tz226 : (Int32.toInt z226) = (Int32.toInt z171) + 1 := by rw [← ez226]; exact fb_addIv (a := 0) (b := 65536) (c := 1) (d := 1) ⟨i179a, i179b⟩ ⟨by decide, by decide⟩ (by decide) (by decide)
                        refine r_iinc 153 2 z226 C dX1_takeIndex_153 rfl ez226 [(5, .int z226), (3, .long r212), (6, .long r212), (0, .ref h0), (1, .int x0), (2, .int x1)] (by decide) rfl ?_
                        refine r_goto 156 96 C dX1_takeIndex_156 (by decide) ?_
                        refine r_lv [(5, .int z226), (3, .long r212), (0, .ref h0), (1, .int x0), (2, .int x1)] [0, 1, 3, 4, 5] rfl ?_
                        exact ih177 z226 r212 z224 z211 ⟨by omega, by omega⟩ (by omega)
                      · skip
                        have k227 : ¬ (0 < (Int32.toInt z171)) := fun h_9 => c222 ((fa_lt 0 z171).mpr h_9)
                        refine r_lload 135 0 C dX1_takeIndex_135 rfl ?_
                        refine r_lconst 137 1 C dX1_takeIndex_137 (by decide) ?_
                        obtain ⟨z228, ez228⟩ : ∃ z_9, lg_cmp r212 1 = z_9 := ⟨_, rfl⟩
                        have l1z228 : (Int32.toInt z228) < 0 ↔ (Int64.toInt r212) < 1 := by rw [← ez228]; exact lgI1 r212 1
                        have l2z228 : 0 < (Int32.toInt z228) ↔ 1 < (Int64.toInt r212) := by rw [← ez228]; exact lgI2 r212 1
                        refine r_lcmp 138 z228 C dX1_takeIndex_138 ez228 ?_
                        refine r_if_ne 139 146 C dX1_takeIndex_139 (by decide) (fun c229 => ?_) (fun c229 => ?_)
                        · skip
                          have k230 : ¬ ((Int32.toInt z228) = 0) := fun h_9 => c229 ((fa_eq z228 0).mpr h_9)
                          refine r_iconst 146 0 C dX1_takeIndex_146 (by decide) ?_
                          refine r_callVv 147 C dX1_takeIndex_147 [] [(h0, .inr (1, [.ref h3, .ref h4, .ref h1, .int z210, .long z211, .long y1, .int z8, .int r20, .long z19, .long y3]))] [(h1, .inr (4, [.ref h2, .int x5])), (h2, .inl (gB g, 1500, .inl fn0))] (fun sz => c53_X1_want l g h0 0 h3 h4 h1 z210 z211 y1 z8 r20 z19 y3 (by decide) (iv_eq ⟨p6, p7⟩ tz8) sz) gX1_takeIndex_X1_want rfl ⟨rfl, rfl⟩ 1 (by decide) ⟨Nat.le_of_ble_eq_true rfl, Nat.le_of_ble_eq_true rfl⟩ 0 rfl rfl [0] [1, 2] rfl rfl (by decide) (by decide) (by decide) rfl rfl (Nat.le_of_ble_eq_true rfl) ⟨Nat.le_of_ble_eq_true rfl, Nat.le_of_ble_eq_true rfl⟩ (fun  z231 w232 => ?_)
                          refine r_ws [(h1, .inr (4, [.ref h2, .int x5])), (h2, .inl (gB g, 1500, .inl fn0)), (h0, .inr (1, [.ref h3, .ref h4, .ref h1, .int z231, .long z211, .long y1, .int z8, .int r20, .long z19, .long y3]))] rfl ?_
                          have gz231 := fb_rng z231
                          refine r_lload 150 0 C dX1_takeIndex_150 rfl ?_
                          refine r_lstore_n 152 C dX1_takeIndex_152 [(3, .long r212), (6, .long r212), (5, .int z171), (0, .ref h0), (1, .int x0), (2, .int x1)] (by decide) rfl ?_
                          obtain ⟨z233, ez233⟩ : ∃ z_9, z171 + Int32.ofInt 1 = z_9 := ⟨_, rfl⟩
                          have tz233 : (Int32.toInt z233) = (Int32.toInt z171) + 1 := by rw [← ez233]; exact fb_addIv (a := 0) (b := 65536) (c := 1) (d := 1) ⟨i179a, i179b⟩ ⟨by decide, by decide⟩ (by decide) (by decide)
                          refine r_iinc 153 2 z233 C dX1_takeIndex_153 rfl ez233 [(5, .int z233), (3, .long r212), (6, .long r212), (0, .ref h0), (1, .int x0), (2, .int x1)] (by decide) rfl ?_
                          refine r_goto 156 96 C dX1_takeIndex_156 (by decide) ?_
                          refine r_lv [(5, .int z233), (3, .long r212), (0, .ref h0), (1, .int x0), (2, .int x1)] [0, 1, 3, 4, 5] rfl ?_
                          exact ih177 z233 r212 z231 z211 ⟨by omega, by omega⟩ (by omega)
                        · skip
                          have k234 : (Int32.toInt z228) = 0 := (fa_eq z228 0).mp c229
                          refine r_iconst 142 1 C dX1_takeIndex_142 (by decide) ?_
                          refine r_goto 143 147 C dX1_takeIndex_143 (by decide) ?_
                          refine r_callVv 147 C dX1_takeIndex_147 [] [(h0, .inr (1, [.ref h3, .ref h4, .ref h1, .int z210, .long z211, .long y1, .int z8, .int r20, .long z19, .long y3]))] [(h1, .inr (4, [.ref h2, .int x5])), (h2, .inl (gB g, 1500, .inl fn0))] (fun sz => c53_X1_want l g h0 1 h3 h4 h1 z210 z211 y1 z8 r20 z19 y3 (by decide) (iv_eq ⟨p6, p7⟩ tz8) sz) gX1_takeIndex_X1_want rfl ⟨rfl, rfl⟩ 1 (by decide) ⟨Nat.le_of_ble_eq_true rfl, Nat.le_of_ble_eq_true rfl⟩ 0 rfl rfl [0] [1, 2] rfl rfl (by decide) (by decide) (by decide) rfl rfl (Nat.le_of_ble_eq_true rfl) ⟨Nat.le_of_ble_eq_true rfl, Nat.le_of_ble_eq_true rfl⟩ (fun  z235 w236 => ?_)
                          refine r_ws [(h1, .inr (4, [.ref h2, .int x5])), (h2, .inl (gB g, 1500, .inl fn0)), (h0, .inr (1, [.ref h3, .ref h4, .ref h1, .int z235, .long z211, .long y1, .int z8, .int r20, .long z19, .long y3]))] rfl ?_
                          have gz235 := fb_rng z235
                          refine r_lload 150 0 C dX1_takeIndex_150 rfl ?_
                          refine r_lstore_n 152 C dX1_takeIndex_152 [(3, .long r212), (6, .long r212), (5, .int z171), (0, .ref h0), (1, .int x0), (2, .int x1)] (by decide) rfl ?_
                          obtain ⟨z237, ez237⟩ : ∃ z_9, z171 + Int32.ofInt 1 = z_9 := ⟨_, rfl⟩
                          have tz237 : (Int32.toInt z237) = (Int32.toInt z171) + 1 := by rw [← ez237]; exact fb_addIv (a := 0) (b := 65536) (c := 1) (d := 1) ⟨i179a, i179b⟩ ⟨by decide, by decide⟩ (by decide) (by decide)
                          refine r_iinc 153 2 z237 C dX1_takeIndex_153 rfl ez237 [(5, .int z237), (3, .long r212), (6, .long r212), (0, .ref h0), (1, .int x0), (2, .int x1)] (by decide) rfl ?_
                          refine r_goto 156 96 C dX1_takeIndex_156 (by decide) ?_
                          refine r_lv [(5, .int z237), (3, .long r212), (0, .ref h0), (1, .int x0), (2, .int x1)] [0, 1, 3, 4, 5] rfl ?_
                          exact ih177 z237 r212 z235 z211 ⟨by omega, by omega⟩ (by omega)
            exact lp176 _ 0 1 z169 z19 (by decide) (Nat.lt_succ_self _)
      · skip
        have k238 : (Int32.toInt z8) = 0 := (fa_eq z8 0).mp c16
        exact r_vret 49 Rt dX1_takeIndex_49 (z11, z2, z8, x4, y2, y3) (show -257 ≤ (Int32.toInt z8) ∧ (Int32.toInt z8) ≤ 65535 from ⟨(iv_eq ⟨p6, p7⟩ tz8).1, (iv_eq ⟨p6, p7⟩ tz8).2⟩) [2, 0, 1] (by decide) rfl (Nat.le_of_ble_eq_true rfl) (Nat.le_of_ble_eq_true rfl)
  · skip
    have k239 : ¬ ((Int32.toInt z8) < (Int32.toInt x0)) := fun h_9 => c9 ((fa_lt z8 x0).mpr h_9)
    refine r_aload_n 19 0 C dX1_takeIndex_19 rfl ?_
    refine r_get 20 C dX1_takeIndex_20 (k := 6) 0 rfl rfl hiX1 (by decide) rfl (mg 1 rfl) (Or.inl rfl) rfl ?_
    refine r_iload_n 23 2 C dX1_takeIndex_23 rfl ?_
    refine r_icmp_gt 24 31 C dX1_takeIndex_24 (by decide) (fun c240 => ?_) (fun c240 => ?_)
    · skip
      have k241 : (Int32.toInt x1) < (Int32.toInt z8) := (fa_lt x1 z8).mp c240
      refine r_iconst 31 0 C dX1_takeIndex_31 (by decide) ?_
      refine r_callVv 32 C dX1_takeIndex_32 [] [(h0, .inr (1, [.ref h3, .ref h4, .ref h1, .int z1, .long z2, .long y1, .int z8, .int x4, .long y2, .long y3]))] [(h1, .inr (4, [.ref h2, .int x5])), (h2, .inl (gB g, 1500, .inl fn0))] (fun sz => c53_X1_want l g h0 0 h3 h4 h1 z1 z2 y1 z8 x4 y2 y3 (by decide) (iv_eq ⟨p6, p7⟩ tz8) sz) gX1_takeIndex_X1_want rfl ⟨rfl, rfl⟩ 1 (by decide) ⟨Nat.le_of_ble_eq_true rfl, Nat.le_of_ble_eq_true rfl⟩ 0 rfl rfl [0] [1, 2] rfl rfl (by decide) (by decide) (by decide) rfl rfl (Nat.le_of_ble_eq_true rfl) ⟨Nat.le_of_ble_eq_true rfl, Nat.le_of_ble_eq_true rfl⟩ (fun  z242 w243 => ?_)
      refine r_ws [(h1, .inr (4, [.ref h2, .int x5])), (h2, .inl (gB g, 1500, .inl fn0)), (h0, .inr (1, [.ref h3, .ref h4, .ref h1, .int z242, .long z2, .long y1, .int z8, .int x4, .long y2, .long y3]))] rfl ?_
      have gz242 := fb_rng z242
      refine r_aload_n 35 0 C dX1_takeIndex_35 rfl ?_
      refine r_get 36 C dX1_takeIndex_36 (k := 3) 2 rfl rfl hiX1 (by decide) rfl (mg 2 rfl) (Or.inl rfl) rfl ?_
      refine r_if_ne 39 49 C dX1_takeIndex_39 (by decide) (fun c244 => ?_) (fun c244 => ?_)
      · skip
        have k245 : ¬ ((Int32.toInt z242) = 0) := fun h_9 => c244 ((fa_eq z242 0).mpr h_9)
        exact r_vret 49 Rt dX1_takeIndex_49 (z242, z2, z8, x4, y2, y3) (show -257 ≤ (Int32.toInt z8) ∧ (Int32.toInt z8) ≤ 65535 from ⟨(iv_eq ⟨p6, p7⟩ tz8).1, (iv_eq ⟨p6, p7⟩ tz8).2⟩) [2, 0, 1] (by decide) rfl (Nat.le_of_ble_eq_true rfl) (Nat.le_of_ble_eq_true rfl)
      · skip
        have k246 : (Int32.toInt z242) = 0 := (fa_eq z242 0).mp c244
        refine r_aload_n 42 0 C dX1_takeIndex_42 rfl ?_
        refine r_get 43 C dX1_takeIndex_43 (k := 6) 2 rfl rfl hiX1 (by decide) rfl (mg 1 rfl) (Or.inl rfl) rfl ?_
        refine r_if_ne 46 50 C dX1_takeIndex_46 (by decide) (fun c247 => ?_) (fun c247 => ?_)
        · skip
          have k248 : ¬ ((Int32.toInt z8) = 0) := fun h_9 => c247 ((fa_eq z8 0).mpr h_9)
          refine r_aload_n 50 0 C dX1_takeIndex_50 rfl ?_
          refine r_aload_n 51 0 C dX1_takeIndex_51 rfl ?_
          refine r_callVi 52 C dX1_takeIndex_52 [.ref h0] [(h0, .inr (1, [.ref h3, .ref h4, .ref h1, .int z242, .long z2, .long y1, .int z8, .int x4, .long y2, .long y3])), (h1, .inr (4, [.ref h2, .int x5])), (h2, .inl (gB g, 1500, .inl fn0))] [] (fun sz => c52_X1_take l g h0 h1 h2 h3 h4 z242 z2 y1 z8 x4 y2 y3 x5 fn0 (iv_eq ⟨p6, p7⟩ tz8) i_x5 sz) gX1_takeIndex_X1_take rfl ⟨rfl, rfl⟩ 0 (by decide) ⟨Nat.le_of_ble_eq_true rfl, Nat.le_of_ble_eq_true rfl⟩ 2 rfl rfl [2, 0, 1] [] rfl rfl (by decide) (by decide) (by decide) rfl rfl (Nat.le_of_ble_eq_true rfl) ⟨Nat.le_of_ble_eq_true rfl, Nat.le_of_ble_eq_true rfl⟩ (fun r251 u253 w252 => ?_)
          obtain ⟨z249, z250⟩ := u253
          refine r_ws [(h0, .inr (1, [.ref h3, .ref h4, .ref h1, .int z249, .long z250, .long y1, .int z8, .int x4, .long y2, .long y3])), (h1, .inr (4, [.ref h2, .int x5])), (h2, .inl (gB g, 1500, .inl fn0))] rfl ?_
          have gz249 := fb_rng z249
          have gz250 := fb_rngL z250
          have p254 : -1 ≤ (Int32.toInt r251) := w252.1
          have p255 : (Int32.toInt r251) ≤ 255 := w252.2
          refine r_put 55 C dX1_takeIndex_55 (k := 7) 0 rfl rfl hiX1 tyX1 tyX1_ok nmX1 (by decide) rfl (mg 3 rfl) (Or.inl rfl) rfl rfl rfl rfl (Nat.le_of_ble_eq_true rfl) [(h0, .inr (1, [.ref h3, .ref h4, .ref h1, .int z249, .long z250, .long y1, .int z8, .int r251, .long y2, .long y3])), (h1, .inr (4, [.ref h2, .int x5])), (h2, .inl (gB g, 1500, .inl fn0))] rfl ?_
          refine r_aload_n 58 0 C dX1_takeIndex_58 rfl ?_
          refine r_aload_n 59 0 C dX1_takeIndex_59 rfl ?_
          refine r_get 60 C dX1_takeIndex_60 (k := 7) 0 rfl rfl hiX1 (by decide) rfl (mg 3 rfl) (Or.inl rfl) rfl ?_
          refine r_iconst 63 1 C dX1_takeIndex_63 (by decide) ?_
          refine r_icmp_lt 64 79 C dX1_takeIndex_64 (by decide) (fun c256 => ?_) (fun c256 => ?_)
          · skip
            have k257 : (Int32.toInt r251) < 1 := (fa_lt r251 1).mp c256
            refine r_iconst 79 0 C dX1_takeIndex_79 (by decide) ?_
            refine r_callVv 80 C dX1_takeIndex_80 [] [(h0, .inr (1, [.ref h3, .ref h4, .ref h1, .int z249, .long z250, .long y1, .int z8, .int r251, .long y2, .long y3]))] [(h1, .inr (4, [.ref h2, .int x5])), (h2, .inl (gB g, 1500, .inl fn0))] (fun sz => c53_X1_want l g h0 0 h3 h4 h1 z249 z250 y1 z8 r251 y2 y3 (by decide) (iv_eq ⟨p6, p7⟩ tz8) sz) gX1_takeIndex_X1_want rfl ⟨rfl, rfl⟩ 1 (by decide) ⟨Nat.le_of_ble_eq_true rfl, Nat.le_of_ble_eq_true rfl⟩ 0 rfl rfl [0] [1, 2] rfl rfl (by decide) (by decide) (by decide) rfl rfl (Nat.le_of_ble_eq_true rfl) ⟨Nat.le_of_ble_eq_true rfl, Nat.le_of_ble_eq_true rfl⟩ (fun  z258 w259 => ?_)
            refine r_ws [(h1, .inr (4, [.ref h2, .int x5])), (h2, .inl (gB g, 1500, .inl fn0)), (h0, .inr (1, [.ref h3, .ref h4, .ref h1, .int z258, .long z250, .long y1, .int z8, .int r251, .long y2, .long y3]))] rfl ?_
            have gz258 := fb_rng z258
            refine r_aload_n 83 0 C dX1_takeIndex_83 rfl ?_
            refine r_aload_n 84 0 C dX1_takeIndex_84 rfl ?_
            refine r_get 85 C dX1_takeIndex_85 (k := 4) 2 rfl rfl hiX1 (by decide) rfl (mg 4 rfl) (Or.inl rfl) rfl ?_
            refine r_put 88 C dX1_takeIndex_88 (k := 8) 2 rfl rfl hiX1 tyX1 tyX1_ok nmX1 (by decide) rfl (mg 5 rfl) (Or.inl rfl) rfl rfl rfl rfl (Nat.le_of_ble_eq_true rfl) [(h1, .inr (4, [.ref h2, .int x5])), (h2, .inl (gB g, 1500, .inl fn0)), (h0, .inr (1, [.ref h3, .ref h4, .ref h1, .int z258, .long z250, .long y1, .int z8, .int r251, .long z250, .long y3]))] rfl ?_
            refine r_lconst 91 1 C dX1_takeIndex_91 (by decide) ?_
            refine r_lstore_n 92 C dX1_takeIndex_92 [(3, .long 1), (0, .ref h0), (1, .int x0), (2, .int x1)] (by decide) rfl ?_
            refine r_iconst 93 0 C dX1_takeIndex_93 (by decide) ?_
            refine r_istore 94 C dX1_takeIndex_94 [(5, .int 0), (3, .long 1), (0, .ref h0), (1, .int x0), (2, .int x1)] (by decide) rfl ?_
            have lp265 : ∀ (n264 : Nat) (z260 : Int32) (z261 : Int64) (z262 : Int32) (z263 : Int64), (0 ≤ (Int32.toInt z260) ∧ (Int32.toInt z260) ≤ 65536) → Int.toNat (65536 - (Int32.toInt z260)) < n264 → WW p l e ({ frames := 3, cells := 0, slots := 0, locals := 67 } : Room) s m args below meth c A Q g 8 0 0 [(h1, .inr (4, [.ref h2, .int x5])), (h2, .inl (gB g, 1500, .inl fn0)), (h0, .inr (1, [.ref h3, .ref h4, .ref h1, .int z262, .long z263, .long y1, .int z8, .int r251, .long z250, .long y3]))] 96 [(5, .int z260), (3, .long z261), (0, .ref h0), (1, .int x0), (2, .int x1)] [] := by
              intro n264
              induction n264 with
              | zero => intro z260 z261 z262 z263 i268 hm267; exact absurd hm267 (Nat.not_lt_zero _)
              | succ n264 ih266 =>
                intro z260 z261 z262 z263 i268 hm267
                obtain ⟨i268a, i268b⟩ := i268
                have gz261 := fb_rngL z261
                have gz262 := fb_rng z262
                have gz263 := fb_rngL z263
                refine r_iload 96 0 C dX1_takeIndex_96 rfl ?_
                refine r_aload_n 98 2 C dX1_takeIndex_98 rfl ?_
                refine r_get 99 C dX1_takeIndex_99 (k := 6) 2 rfl rfl hiX1 (by decide) rfl (mg 1 rfl) (Or.inl rfl) rfl ?_
                refine r_icmp_gt 102 159 C dX1_takeIndex_102 (by decide) (fun c269 => ?_) (fun c269 => ?_)
                · skip
                  have k270 : (Int32.toInt z8) < (Int32.toInt z260) := (fa_lt z8 z260).mp c269
                  refine r_aload_n 159 2 C dX1_takeIndex_159 rfl ?_
                  refine r_aload_n 160 2 C dX1_takeIndex_160 rfl ?_
                  refine r_get 161 C dX1_takeIndex_161 (k := 4) 2 rfl rfl hiX1 (by decide) rfl (mg 4 rfl) (Or.inl rfl) rfl ?_
                  refine r_put 164 C dX1_takeIndex_164 (k := 9) 2 rfl rfl hiX1 tyX1 tyX1_ok nmX1 (by decide) rfl (mg 6 rfl) (Or.inl rfl) rfl rfl rfl rfl (Nat.le_of_ble_eq_true rfl) [(h1, .inr (4, [.ref h2, .int x5])), (h2, .inl (gB g, 1500, .inl fn0)), (h0, .inr (1, [.ref h3, .ref h4, .ref h1, .int z262, .long z263, .long y1, .int z8, .int r251, .long z250, .long z263]))] rfl ?_
                  refine r_aload_n 167 2 C dX1_takeIndex_167 rfl ?_
                  refine r_dup 168 C dX1_takeIndex_168 rfl ?_
                  refine r_get 169 C dX1_takeIndex_169 (k := 4) 2 rfl rfl hiX1 (by decide) rfl (mg 4 rfl) (Or.inl rfl) rfl ?_
                  refine r_lload_n 172 1 C dX1_takeIndex_172 rfl ?_
                  refine r_lconst 173 1 C dX1_takeIndex_173 (by decide) ?_
                  obtain ⟨z271, ez271⟩ : ∃ z_9, z261 - 1 = z_9 := ⟨_, rfl⟩
                  have gz271 := fb_rngL z271
                  refine r_lsub 174 z271 C dX1_takeIndex_174 ez271 ?_
                  obtain ⟨z272, ez272⟩ : ∃ z_9, z263 + z271 = z_9 := ⟨_, rfl⟩
                  have gz272 := fb_rngL z272
                  refine r_ladd 175 z272 C dX1_takeIndex_175 ez272 ?_
                  refine r_put 176 C dX1_takeIndex_176 (k := 4) 2 rfl rfl hiX1 tyX1 tyX1_ok nmX1 (by decide) rfl (mg 4 rfl) (Or.inl rfl) rfl rfl rfl rfl (Nat.le_of_ble_eq_true rfl) [(h1, .inr (4, [.ref h2, .int x5])), (h2, .inl (gB g, 1500, .inl fn0)), (h0, .inr (1, [.ref h3, .ref h4, .ref h1, .int z262, .long z272, .long y1, .int z8, .int r251, .long z250, .long z263]))] rfl ?_
                  refine r_aload_n 179 2 C dX1_takeIndex_179 rfl ?_
                  refine r_get 180 C dX1_takeIndex_180 (k := 4) 2 rfl rfl hiX1 (by decide) rfl (mg 4 rfl) (Or.inl rfl) rfl ?_
                  refine r_aload_n 183 2 C dX1_takeIndex_183 rfl ?_
                  refine r_get 184 C dX1_takeIndex_184 (k := 2) 2 rfl rfl hiX1 (by decide) rfl (mg 7 rfl) (Or.inl rfl) rfl ?_
                  refine r_callVi 187 C dX1_takeIndex_187 [.long z272] [(h1, .inr (4, [.ref h2, .int x5]))] [(h2, .inl (gB g, 1500, .inl fn0)), (h0, .inr (1, [.ref h3, .ref h4, .ref h1, .int z262, .long z272, .long y1, .int z8, .int r251, .long z250, .long z263]))] (fun sz => c0_X5_size l g h1 h2 x5 i_x5 sz) gX1_takeIndex_X5_size rfl ⟨rfl, rfl⟩ 0 (by decide) ⟨Nat.le_of_ble_eq_true rfl, Nat.le_of_ble_eq_true rfl⟩ 0 rfl rfl [0] [1, 2] rfl rfl (by decide) (by decide) (by decide) rfl rfl (Nat.le_of_ble_eq_true rfl) ⟨Nat.le_of_ble_eq_true rfl, Nat.le_of_ble_eq_true rfl⟩ (fun r273 _ w274 => ?_)
                  refine r_ws [(h2, .inl (gB g, 1500, .inl fn0)), (h0, .inr (1, [.ref h3, .ref h4, .ref h1, .int z262, .long z272, .long y1, .int z8, .int r251, .long z250, .long z263])), (h1, .inr (4, [.ref h2, .int x5]))] rfl ?_
                  have p275 : x5 = r273 := (w274).symm
                  subst p275
                  obtain ⟨z276, ez276⟩ : ∃ z_9, Int32.toInt64 x5 = z_9 := ⟨_, rfl⟩
                  have tz276 : (Int64.toInt z276) = (Int32.toInt x5) := by rw [← ez276]; exact Int32.toInt_toInt64 _
                  refine r_i2l 190 z276 C dX1_takeIndex_190 ez276 ?_
                  obtain ⟨z277, ez277⟩ : ∃ z_9, lg_cmp z272 z276 = z_9 := ⟨_, rfl⟩
                  have l1z277 : (Int32.toInt z277) < 0 ↔ (Int64.toInt z272) < (Int64.toInt z276) := by rw [← ez277]; exact lgI1 z272 z276
                  have l2z277 : 0 < (Int32.toInt z277) ↔ (Int64.toInt z276) < (Int64.toInt z272) := by rw [← ez277]; exact lgI2 z272 z276
                  refine r_lcmp 191 z277 C dX1_takeIndex_191 ez277 ?_
                  refine r_if_le 192 200 C dX1_takeIndex_192 (by decide) (fun c278 => ?_) (fun c278 => ?_)
                  · skip
                    have k279 : (Int32.toInt z277) ≤ 0 := (fa_le z277 0).mp c278
                    exact r_vret 200 Rt dX1_takeIndex_200 (z262, z272, z8, r251, z250, z263) (show -257 ≤ (Int32.toInt z8) ∧ (Int32.toInt z8) ≤ 65535 from ⟨(iv_eq ⟨p6, p7⟩ tz8).1, (iv_eq ⟨p6, p7⟩ tz8).2⟩) [1, 2, 0] (by decide) rfl (Nat.le_of_ble_eq_true rfl) (Nat.le_of_ble_eq_true rfl)
                  · skip
                    have k280 : ¬ ((Int32.toInt z277) ≤ 0) := fun h_9 => c278 ((fa_le z277 0).mpr h_9)
                    refine r_aload_n 195 2 C dX1_takeIndex_195 rfl ?_
                    refine r_iconst 196 1 C dX1_takeIndex_196 (by decide) ?_
                    refine r_callVv 197 C dX1_takeIndex_197 [] [(h0, .inr (1, [.ref h3, .ref h4, .ref h1, .int z262, .long z272, .long y1, .int z8, .int r251, .long z250, .long z263]))] [(h2, .inl (gB g, 1500, .inl fn0)), (h1, .inr (4, [.ref h2, .int x5]))] (fun sz => c51_X1_wrong l g h0 1 h3 h4 h1 z262 z272 y1 z8 r251 z250 z263 (iv_eq ⟨p6, p7⟩ tz8) sz) gX1_takeIndex_X1_wrong rfl ⟨rfl, rfl⟩ 1 (by decide) ⟨Nat.le_of_ble_eq_true rfl, Nat.le_of_ble_eq_true rfl⟩ 1 rfl rfl [1] [0, 2] rfl rfl (by decide) (by decide) (by decide) rfl rfl (Nat.le_of_ble_eq_true rfl) ⟨Nat.le_of_ble_eq_true rfl, Nat.le_of_ble_eq_true rfl⟩ (fun  z281 w282 => ?_)
                    refine r_ws [(h2, .inl (gB g, 1500, .inl fn0)), (h1, .inr (4, [.ref h2, .int x5])), (h0, .inr (1, [.ref h3, .ref h4, .ref h1, .int z281, .long z272, .long y1, .int z8, .int r251, .long z250, .long z263]))] rfl ?_
                    have gz281 := fb_rng z281
                    exact r_vret 200 Rt dX1_takeIndex_200 (z281, z272, z8, r251, z250, z263) (show -257 ≤ (Int32.toInt z8) ∧ (Int32.toInt z8) ≤ 65535 from ⟨(iv_eq ⟨p6, p7⟩ tz8).1, (iv_eq ⟨p6, p7⟩ tz8).2⟩) [2, 1, 0] (by decide) rfl (Nat.le_of_ble_eq_true rfl) (Nat.le_of_ble_eq_true rfl)
                · skip
                  have k283 : ¬ ((Int32.toInt z8) < (Int32.toInt z260)) := fun h_9 => c269 ((fa_lt z8 z260).mpr h_9)
                  refine r_aload_n 105 2 C dX1_takeIndex_105 rfl ?_
                  refine r_get 106 C dX1_takeIndex_106 (k := 3) 2 rfl rfl hiX1 (by decide) rfl (mg 2 rfl) (Or.inl rfl) rfl ?_
                  refine r_if_ne 109 159 C dX1_takeIndex_109 (by decide) (fun c284 => ?_) (fun c284 => ?_)
                  · skip
                    have k285 : ¬ ((Int32.toInt z262) = 0) := fun h_9 => c284 ((fa_eq z262 0).mpr h_9)
                    refine r_aload_n 159 2 C dX1_takeIndex_159 rfl ?_
                    refine r_aload_n 160 2 C dX1_takeIndex_160 rfl ?_
                    refine r_get 161 C dX1_takeIndex_161 (k := 4) 2 rfl rfl hiX1 (by decide) rfl (mg 4 rfl) (Or.inl rfl) rfl ?_
                    refine r_put 164 C dX1_takeIndex_164 (k := 9) 2 rfl rfl hiX1 tyX1 tyX1_ok nmX1 (by decide) rfl (mg 6 rfl) (Or.inl rfl) rfl rfl rfl rfl (Nat.le_of_ble_eq_true rfl) [(h1, .inr (4, [.ref h2, .int x5])), (h2, .inl (gB g, 1500, .inl fn0)), (h0, .inr (1, [.ref h3, .ref h4, .ref h1, .int z262, .long z263, .long y1, .int z8, .int r251, .long z250, .long z263]))] rfl ?_
                    refine r_aload_n 167 2 C dX1_takeIndex_167 rfl ?_
                    refine r_dup 168 C dX1_takeIndex_168 rfl ?_
                    refine r_get 169 C dX1_takeIndex_169 (k := 4) 2 rfl rfl hiX1 (by decide) rfl (mg 4 rfl) (Or.inl rfl) rfl ?_
                    refine r_lload_n 172 1 C dX1_takeIndex_172 rfl ?_
                    refine r_lconst 173 1 C dX1_takeIndex_173 (by decide) ?_
                    obtain ⟨z286, ez286⟩ : ∃ z_9, z261 - 1 = z_9 := ⟨_, rfl⟩
                    have gz286 := fb_rngL z286
                    refine r_lsub 174 z286 C dX1_takeIndex_174 ez286 ?_
                    obtain ⟨z287, ez287⟩ : ∃ z_9, z263 + z286 = z_9 := ⟨_, rfl⟩
                    have gz287 := fb_rngL z287
                    refine r_ladd 175 z287 C dX1_takeIndex_175 ez287 ?_
                    refine r_put 176 C dX1_takeIndex_176 (k := 4) 2 rfl rfl hiX1 tyX1 tyX1_ok nmX1 (by decide) rfl (mg 4 rfl) (Or.inl rfl) rfl rfl rfl rfl (Nat.le_of_ble_eq_true rfl) [(h1, .inr (4, [.ref h2, .int x5])), (h2, .inl (gB g, 1500, .inl fn0)), (h0, .inr (1, [.ref h3, .ref h4, .ref h1, .int z262, .long z287, .long y1, .int z8, .int r251, .long z250, .long z263]))] rfl ?_
                    refine r_aload_n 179 2 C dX1_takeIndex_179 rfl ?_
                    refine r_get 180 C dX1_takeIndex_180 (k := 4) 2 rfl rfl hiX1 (by decide) rfl (mg 4 rfl) (Or.inl rfl) rfl ?_
                    refine r_aload_n 183 2 C dX1_takeIndex_183 rfl ?_
                    refine r_get 184 C dX1_takeIndex_184 (k := 2) 2 rfl rfl hiX1 (by decide) rfl (mg 7 rfl) (Or.inl rfl) rfl ?_
                    refine r_callVi 187 C dX1_takeIndex_187 [.long z287] [(h1, .inr (4, [.ref h2, .int x5]))] [(h2, .inl (gB g, 1500, .inl fn0)), (h0, .inr (1, [.ref h3, .ref h4, .ref h1, .int z262, .long z287, .long y1, .int z8, .int r251, .long z250, .long z263]))] (fun sz => c0_X5_size l g h1 h2 x5 i_x5 sz) gX1_takeIndex_X5_size rfl ⟨rfl, rfl⟩ 0 (by decide) ⟨Nat.le_of_ble_eq_true rfl, Nat.le_of_ble_eq_true rfl⟩ 0 rfl rfl [0] [1, 2] rfl rfl (by decide) (by decide) (by decide) rfl rfl (Nat.le_of_ble_eq_true rfl) ⟨Nat.le_of_ble_eq_true rfl, Nat.le_of_ble_eq_true rfl⟩ (fun r288 _ w289 => ?_)
                    refine r_ws [(h2, .inl (gB g, 1500, .inl fn0)), (h0, .inr (1, [.ref h3, .ref h4, .ref h1, .int z262, .long z287, .long y1, .int z8, .int r251, .long z250, .long z263])), (h1, .inr (4, [.ref h2, .int x5]))] rfl ?_
                    have p290 : x5 = r288 := (w289).symm
                    subst p290
                    obtain ⟨z291, ez291⟩ : ∃ z_9, Int32.toInt64 x5 = z_9 := ⟨_, rfl⟩
                    have tz291 : (Int64.toInt z291) = (Int32.toInt x5) := by rw [← ez291]; exact Int32.toInt_toInt64 _
                    refine r_i2l 190 z291 C dX1_takeIndex_190 ez291 ?_
                    obtain ⟨z292, ez292⟩ : ∃ z_9, lg_cmp z287 z291 = z_9 := ⟨_, rfl⟩
                    have l1z292 : (Int32.toInt z292) < 0 ↔ (Int64.toInt z287) < (Int64.toInt z291) := by rw [← ez292]; exact lgI1 z287 z291
                    have l2z292 : 0 < (Int32.toInt z292) ↔ (Int64.toInt z291) < (Int64.toInt z287) := by rw [← ez292]; exact lgI2 z287 z291
                    refine r_lcmp 191 z292 C dX1_takeIndex_191 ez292 ?_
                    refine r_if_le 192 200 C dX1_takeIndex_192 (by decide) (fun c293 => ?_) (fun c293 => ?_)
                    · skip
                      have k294 : (Int32.toInt z292) ≤ 0 := (fa_le z292 0).mp c293
                      exact r_vret 200 Rt dX1_takeIndex_200 (z262, z287, z8, r251, z250, z263) (show -257 ≤ (Int32.toInt z8) ∧ (Int32.toInt z8) ≤ 65535 from ⟨(iv_eq ⟨p6, p7⟩ tz8).1, (iv_eq ⟨p6, p7⟩ tz8).2⟩) [1, 2, 0] (by decide) rfl (Nat.le_of_ble_eq_true rfl) (Nat.le_of_ble_eq_true rfl)
                    · skip
                      have k295 : ¬ ((Int32.toInt z292) ≤ 0) := fun h_9 => c293 ((fa_le z292 0).mpr h_9)
                      refine r_aload_n 195 2 C dX1_takeIndex_195 rfl ?_
                      refine r_iconst 196 1 C dX1_takeIndex_196 (by decide) ?_
                      refine r_callVv 197 C dX1_takeIndex_197 [] [(h0, .inr (1, [.ref h3, .ref h4, .ref h1, .int z262, .long z287, .long y1, .int z8, .int r251, .long z250, .long z263]))] [(h2, .inl (gB g, 1500, .inl fn0)), (h1, .inr (4, [.ref h2, .int x5]))] (fun sz => c51_X1_wrong l g h0 1 h3 h4 h1 z262 z287 y1 z8 r251 z250 z263 (iv_eq ⟨p6, p7⟩ tz8) sz) gX1_takeIndex_X1_wrong rfl ⟨rfl, rfl⟩ 1 (by decide) ⟨Nat.le_of_ble_eq_true rfl, Nat.le_of_ble_eq_true rfl⟩ 1 rfl rfl [1] [0, 2] rfl rfl (by decide) (by decide) (by decide) rfl rfl (Nat.le_of_ble_eq_true rfl) ⟨Nat.le_of_ble_eq_true rfl, Nat.le_of_ble_eq_true rfl⟩ (fun  z296 w297 => ?_)
                      refine r_ws [(h2, .inl (gB g, 1500, .inl fn0)), (h1, .inr (4, [.ref h2, .int x5])), (h0, .inr (1, [.ref h3, .ref h4, .ref h1, .int z296, .long z287, .long y1, .int z8, .int r251, .long z250, .long z263]))] rfl ?_
                      have gz296 := fb_rng z296
                      exact r_vret 200 Rt dX1_takeIndex_200 (z296, z287, z8, r251, z250, z263) (show -257 ≤ (Int32.toInt z8) ∧ (Int32.toInt z8) ≤ 65535 from ⟨(iv_eq ⟨p6, p7⟩ tz8).1, (iv_eq ⟨p6, p7⟩ tz8).2⟩) [2, 1, 0] (by decide) rfl (Nat.le_of_ble_eq_true rfl) (Nat.le_of_ble_eq_true rfl)
                  · skip
                    have k298 : (Int32.toInt z262) = 0 := (fa_eq z262 0).mp c284
                    refine r_aload_n 112 2 C dX1_takeIndex_112 rfl ?_
                    refine r_aload_n 113 2 C dX1_takeIndex_113 rfl ?_
                    refine r_get 114 C dX1_takeIndex_114 (k := 7) 2 rfl rfl hiX1 (by decide) rfl (mg 3 rfl) (Or.inl rfl) rfl ?_
                    refine r_callVl 117 C dX1_takeIndex_117 [] [(h0, .inr (1, [.ref h3, .ref h4, .ref h1, .int z262, .long z263, .long y1, .int z8, .int r251, .long z250, .long y3])), (h1, .inr (4, [.ref h2, .int x5])), (h2, .inl (gB g, 1500, .inl fn0))] [] (fun sz => c56_X1_takeNumber l g h0 h1 h2 r251 h3 h4 z262 z263 y1 z8 r251 z250 y3 x5 fn0 (iv_eq ⟨p6, p7⟩ tz8) i_x5 sz) gX1_takeIndex_X1_takeNumber rfl ⟨rfl, rfl⟩ 1 (by decide) ⟨Nat.le_of_ble_eq_true rfl, Nat.le_of_ble_eq_true rfl⟩ 2 rfl rfl [2, 0, 1] [] rfl rfl (by decide) (by decide) (by decide) rfl rfl (Nat.le_of_ble_eq_true rfl) ⟨Nat.le_of_ble_eq_true rfl, Nat.le_of_ble_eq_true rfl⟩ (fun r301 u303 w302 => ?_)
                    obtain ⟨z299, z300⟩ := u303
                    refine r_ws [(h0, .inr (1, [.ref h3, .ref h4, .ref h1, .int z299, .long z300, .long y1, .int z8, .int r251, .long z250, .long y3])), (h1, .inr (4, [.ref h2, .int x5])), (h2, .inl (gB g, 1500, .inl fn0))] rfl ?_
                    have gz299 := fb_rng z299
                    have gz300 := fb_rngL z300
                    have gr301 := fb_rngL r301
                    refine r_lstore 120 C dX1_takeIndex_120 [(6, .long r301), (5, .int z260), (3, .long z261), (0, .ref h0), (1, .int x0), (2, .int x1)] (by decide) rfl ?_
                    refine r_aload_n 122 3 C dX1_takeIndex_122 rfl ?_
                    refine r_lload 123 0 C dX1_takeIndex_123 rfl ?_
                    refine r_lload_n 125 2 C dX1_takeIndex_125 rfl ?_
                    obtain ⟨z304, ez304⟩ : ∃ z_9, lg_cmp r301 z261 = z_9 := ⟨_, rfl⟩
                    have l1z304 : (Int32.toInt z304) < 0 ↔ (Int64.toInt r301) < (Int64.toInt z261) := by rw [← ez304]; exact lgI1 r301 z261
                    have l2z304 : 0 < (Int32.toInt z304) ↔ (Int64.toInt z261) < (Int64.toInt r301) := by rw [← ez304]; exact lgI2 r301 z261
                    refine r_lcmp 126 z304 C dX1_takeIndex_126 ez304 ?_
                    refine r_if_lt 127 146 C dX1_takeIndex_127 (by decide) (fun c305 => ?_) (fun c305 => ?_)
                    · skip
                      have k306 : (Int32.toInt z304) < 0 := (fa_lt z304 0).mp c305
                      refine r_iconst 146 0 C dX1_takeIndex_146 (by decide) ?_
                      refine r_callVv 147 C dX1_takeIndex_147 [] [(h0, .inr (1, [.ref h3, .ref h4, .ref h1, .int z299, .long z300, .long y1, .int z8, .int r251, .long z250, .long y3]))] [(h1, .inr (4, [.ref h2, .int x5])), (h2, .inl (gB g, 1500, .inl fn0))] (fun sz => c53_X1_want l g h0 0 h3 h4 h1 z299 z300 y1 z8 r251 z250 y3 (by decide) (iv_eq ⟨p6, p7⟩ tz8) sz) gX1_takeIndex_X1_want rfl ⟨rfl, rfl⟩ 1 (by decide) ⟨Nat.le_of_ble_eq_true rfl, Nat.le_of_ble_eq_true rfl⟩ 0 rfl rfl [0] [1, 2] rfl rfl (by decide) (by decide) (by decide) rfl rfl (Nat.le_of_ble_eq_true rfl) ⟨Nat.le_of_ble_eq_true rfl, Nat.le_of_ble_eq_true rfl⟩ (fun  z307 w308 => ?_)
                      refine r_ws [(h1, .inr (4, [.ref h2, .int x5])), (h2, .inl (gB g, 1500, .inl fn0)), (h0, .inr (1, [.ref h3, .ref h4, .ref h1, .int z307, .long z300, .long y1, .int z8, .int r251, .long z250, .long y3]))] rfl ?_
                      have gz307 := fb_rng z307
                      refine r_lload 150 0 C dX1_takeIndex_150 rfl ?_
                      refine r_lstore_n 152 C dX1_takeIndex_152 [(3, .long r301), (6, .long r301), (5, .int z260), (0, .ref h0), (1, .int x0), (2, .int x1)] (by decide) rfl ?_
                      obtain ⟨z309, ez309⟩ : ∃ z_9, z260 + Int32.ofInt 1 = z_9 := ⟨_, rfl⟩
                      have tz309 : (Int32.toInt z309) = (Int32.toInt z260) + 1 := by rw [← ez309]; exact fb_addIv (a := 0) (b := 65536) (c := 1) (d := 1) ⟨i268a, i268b⟩ ⟨by decide, by decide⟩ (by decide) (by decide)
                      refine r_iinc 153 2 z309 C dX1_takeIndex_153 rfl ez309 [(5, .int z309), (3, .long r301), (6, .long r301), (0, .ref h0), (1, .int x0), (2, .int x1)] (by decide) rfl ?_
                      refine r_goto 156 96 C dX1_takeIndex_156 (by decide) ?_
                      refine r_lv [(5, .int z309), (3, .long r301), (0, .ref h0), (1, .int x0), (2, .int x1)] [0, 1, 3, 4, 5] rfl ?_
                      exact ih266 z309 r301 z307 z300 ⟨by omega, by omega⟩ (by omega)
                    · skip
                      have k310 : ¬ ((Int32.toInt z304) < 0) := fun h_9 => c305 ((fa_lt z304 0).mpr h_9)
                      refine r_iload 130 1 C dX1_takeIndex_130 rfl ?_
                      refine r_if_gt 132 142 C dX1_takeIndex_132 (by decide) (fun c311 => ?_) (fun c311 => ?_)
                      · skip
                        have k312 : 0 < (Int32.toInt z260) := (fa_lt 0 z260).mp c311
                        refine r_iconst 142 1 C dX1_takeIndex_142 (by decide) ?_
                        refine r_goto 143 147 C dX1_takeIndex_143 (by decide) ?_
                        refine r_callVv 147 C dX1_takeIndex_147 [] [(h0, .inr (1, [.ref h3, .ref h4, .ref h1, .int z299, .long z300, .long y1, .int z8, .int r251, .long z250, .long y3]))] [(h1, .inr (4, [.ref h2, .int x5])), (h2, .inl (gB g, 1500, .inl fn0))] (fun sz => c53_X1_want l g h0 1 h3 h4 h1 z299 z300 y1 z8 r251 z250 y3 (by decide) (iv_eq ⟨p6, p7⟩ tz8) sz) gX1_takeIndex_X1_want rfl ⟨rfl, rfl⟩ 1 (by decide) ⟨Nat.le_of_ble_eq_true rfl, Nat.le_of_ble_eq_true rfl⟩ 0 rfl rfl [0] [1, 2] rfl rfl (by decide) (by decide) (by decide) rfl rfl (Nat.le_of_ble_eq_true rfl) ⟨Nat.le_of_ble_eq_true rfl, Nat.le_of_ble_eq_true rfl⟩ (fun  z313 w314 => ?_)
                        refine r_ws [(h1, .inr (4, [.ref h2, .int x5])), (h2, .inl (gB g, 1500, .inl fn0)), (h0, .inr (1, [.ref h3, .ref h4, .ref h1, .int z313, .long z300, .long y1, .int z8, .int r251, .long z250, .long y3]))] rfl ?_
                        have gz313 := fb_rng z313
                        refine r_lload 150 0 C dX1_takeIndex_150 rfl ?_
                        refine r_lstore_n 152 C dX1_takeIndex_152 [(3, .long r301), (6, .long r301), (5, .int z260), (0, .ref h0), (1, .int x0), (2, .int x1)] (by decide) rfl ?_
                        obtain ⟨z315, ez315⟩ : ∃ z_9, z260 + Int32.ofInt 1 = z_9 := ⟨_, rfl⟩
                        have tz315 : (Int32.toInt z315) = (Int32.toInt z260) + 1 := by rw [← ez315]; exact fb_addIv (a := 0) (b := 65536) (c := 1) (d := 1) ⟨i268a, i268b⟩ ⟨by decide, by decide⟩ (by decide) (by decide)
                        refine r_iinc 153 2 z315 C dX1_takeIndex_153 rfl ez315 [(5, .int z315), (3, .long r301), (6, .long r301), (0, .ref h0), (1, .int x0), (2, .int x1)] (by decide) rfl ?_
                        refine r_goto 156 96 C dX1_takeIndex_156 (by decide) ?_
                        refine r_lv [(5, .int z315), (3, .long r301), (0, .ref h0), (1, .int x0), (2, .int x1)] [0, 1, 3, 4, 5] rfl ?_
                        exact ih266 z315 r301 z313 z300 ⟨by omega, by omega⟩ (by omega)
                      · skip
                        have k316 : ¬ (0 < (Int32.toInt z260)) := fun h_9 => c311 ((fa_lt 0 z260).mpr h_9)
                        refine r_lload 135 0 C dX1_takeIndex_135 rfl ?_
                        refine r_lconst 137 1 C dX1_takeIndex_137 (by decide) ?_
                        obtain ⟨z317, ez317⟩ : ∃ z_9, lg_cmp r301 1 = z_9 := ⟨_, rfl⟩
                        have l1z317 : (Int32.toInt z317) < 0 ↔ (Int64.toInt r301) < 1 := by rw [← ez317]; exact lgI1 r301 1
                        have l2z317 : 0 < (Int32.toInt z317) ↔ 1 < (Int64.toInt r301) := by rw [← ez317]; exact lgI2 r301 1
                        refine r_lcmp 138 z317 C dX1_takeIndex_138 ez317 ?_
                        refine r_if_ne 139 146 C dX1_takeIndex_139 (by decide) (fun c318 => ?_) (fun c318 => ?_)
                        · skip
                          have k319 : ¬ ((Int32.toInt z317) = 0) := fun h_9 => c318 ((fa_eq z317 0).mpr h_9)
                          refine r_iconst 146 0 C dX1_takeIndex_146 (by decide) ?_
                          refine r_callVv 147 C dX1_takeIndex_147 [] [(h0, .inr (1, [.ref h3, .ref h4, .ref h1, .int z299, .long z300, .long y1, .int z8, .int r251, .long z250, .long y3]))] [(h1, .inr (4, [.ref h2, .int x5])), (h2, .inl (gB g, 1500, .inl fn0))] (fun sz => c53_X1_want l g h0 0 h3 h4 h1 z299 z300 y1 z8 r251 z250 y3 (by decide) (iv_eq ⟨p6, p7⟩ tz8) sz) gX1_takeIndex_X1_want rfl ⟨rfl, rfl⟩ 1 (by decide) ⟨Nat.le_of_ble_eq_true rfl, Nat.le_of_ble_eq_true rfl⟩ 0 rfl rfl [0] [1, 2] rfl rfl (by decide) (by decide) (by decide) rfl rfl (Nat.le_of_ble_eq_true rfl) ⟨Nat.le_of_ble_eq_true rfl, Nat.le_of_ble_eq_true rfl⟩ (fun  z320 w321 => ?_)
                          refine r_ws [(h1, .inr (4, [.ref h2, .int x5])), (h2, .inl (gB g, 1500, .inl fn0)), (h0, .inr (1, [.ref h3, .ref h4, .ref h1, .int z320, .long z300, .long y1, .int z8, .int r251, .long z250, .long y3]))] rfl ?_
                          have gz320 := fb_rng z320
                          refine r_lload 150 0 C dX1_takeIndex_150 rfl ?_
                          refine r_lstore_n 152 C dX1_takeIndex_152 [(3, .long r301), (6, .long r301), (5, .int z260), (0, .ref h0), (1, .int x0), (2, .int x1)] (by decide) rfl ?_
                          obtain ⟨z322, ez322⟩ : ∃ z_9, z260 + Int32.ofInt 1 = z_9 := ⟨_, rfl⟩
                          have tz322 : (Int32.toInt z322) = (Int32.toInt z260) + 1 := by rw [← ez322]; exact fb_addIv (a := 0) (b := 65536) (c := 1) (d := 1) ⟨i268a, i268b⟩ ⟨by decide, by decide⟩ (by decide) (by decide)
                          refine r_iinc 153 2 z322 C dX1_takeIndex_153 rfl ez322 [(5, .int z322), (3, .long r301), (6, .long r301), (0, .ref h0), (1, .int x0), (2, .int x1)] (by decide) rfl ?_
                          refine r_goto 156 96 C dX1_takeIndex_156 (by decide) ?_
                          refine r_lv [(5, .int z322), (3, .long r301), (0, .ref h0), (1, .int x0), (2, .int x1)] [0, 1, 3, 4, 5] rfl ?_
                          exact ih266 z322 r301 z320 z300 ⟨by omega, by omega⟩ (by omega)
                        · skip
                          have k323 : (Int32.toInt z317) = 0 := (fa_eq z317 0).mp c318
                          refine r_iconst 142 1 C dX1_takeIndex_142 (by decide) ?_
                          refine r_goto 143 147 C dX1_takeIndex_143 (by decide) ?_
                          refine r_callVv 147 C dX1_takeIndex_147 [] [(h0, .inr (1, [.ref h3, .ref h4, .ref h1, .int z299, .long z300, .long y1, .int z8, .int r251, .long z250, .long y3]))] [(h1, .inr (4, [.ref h2, .int x5])), (h2, .inl (gB g, 1500, .inl fn0))] (fun sz => c53_X1_want l g h0 1 h3 h4 h1 z299 z300 y1 z8 r251 z250 y3 (by decide) (iv_eq ⟨p6, p7⟩ tz8) sz) gX1_takeIndex_X1_want rfl ⟨rfl, rfl⟩ 1 (by decide) ⟨Nat.le_of_ble_eq_true rfl, Nat.le_of_ble_eq_true rfl⟩ 0 rfl rfl [0] [1, 2] rfl rfl (by decide) (by decide) (by decide) rfl rfl (Nat.le_of_ble_eq_true rfl) ⟨Nat.le_of_ble_eq_true rfl, Nat.le_of_ble_eq_true rfl⟩ (fun  z324 w325 => ?_)
                          refine r_ws [(h1, .inr (4, [.ref h2, .int x5])), (h2, .inl (gB g, 1500, .inl fn0)), (h0, .inr (1, [.ref h3, .ref h4, .ref h1, .int z324, .long z300, .long y1, .int z8, .int r251, .long z250, .long y3]))] rfl ?_
                          have gz324 := fb_rng z324
                          refine r_lload 150 0 C dX1_takeIndex_150 rfl ?_
                          refine r_lstore_n 152 C dX1_takeIndex_152 [(3, .long r301), (6, .long r301), (5, .int z260), (0, .ref h0), (1, .int x0), (2, .int x1)] (by decide) rfl ?_
                          obtain ⟨z326, ez326⟩ : ∃ z_9, z260 + Int32.ofInt 1 = z_9 := ⟨_, rfl⟩
                          have tz326 : (Int32.toInt z326) = (Int32.toInt z260) + 1 := by rw [← ez326]; exact fb_addIv (a := 0) (b := 65536) (c := 1) (d := 1) ⟨i268a, i268b⟩ ⟨by decide, by decide⟩ (by decide) (by decide)
                          refine r_iinc 153 2 z326 C dX1_takeIndex_153 rfl ez326 [(5, .int z326), (3, .long r301), (6, .long r301), (0, .ref h0), (1, .int x0), (2, .int x1)] (by decide) rfl ?_
                          refine r_goto 156 96 C dX1_takeIndex_156 (by decide) ?_
                          refine r_lv [(5, .int z326), (3, .long r301), (0, .ref h0), (1, .int x0), (2, .int x1)] [0, 1, 3, 4, 5] rfl ?_
                          exact ih266 z326 r301 z324 z300 ⟨by omega, by omega⟩ (by omega)
            exact lp265 _ 0 1 z258 z250 (by decide) (Nat.lt_succ_self _)
          · skip
            have k327 : ¬ ((Int32.toInt r251) < 1) := fun h_9 => c256 ((fa_lt r251 1).mpr h_9)
            refine r_aload_n 67 0 C dX1_takeIndex_67 rfl ?_
            refine r_get 68 C dX1_takeIndex_68 (k := 7) 0 rfl rfl hiX1 (by decide) rfl (mg 3 rfl) (Or.inl rfl) rfl ?_
            refine r_iconst 71 4 C dX1_takeIndex_71 (by decide) ?_
            refine r_icmp_gt 72 79 C dX1_takeIndex_72 (by decide) (fun c328 => ?_) (fun c328 => ?_)
            · skip
              have k329 : 4 < (Int32.toInt r251) := (fa_lt 4 r251).mp c328
              refine r_iconst 79 0 C dX1_takeIndex_79 (by decide) ?_
              refine r_callVv 80 C dX1_takeIndex_80 [] [(h0, .inr (1, [.ref h3, .ref h4, .ref h1, .int z249, .long z250, .long y1, .int z8, .int r251, .long y2, .long y3]))] [(h1, .inr (4, [.ref h2, .int x5])), (h2, .inl (gB g, 1500, .inl fn0))] (fun sz => c53_X1_want l g h0 0 h3 h4 h1 z249 z250 y1 z8 r251 y2 y3 (by decide) (iv_eq ⟨p6, p7⟩ tz8) sz) gX1_takeIndex_X1_want rfl ⟨rfl, rfl⟩ 1 (by decide) ⟨Nat.le_of_ble_eq_true rfl, Nat.le_of_ble_eq_true rfl⟩ 0 rfl rfl [0] [1, 2] rfl rfl (by decide) (by decide) (by decide) rfl rfl (Nat.le_of_ble_eq_true rfl) ⟨Nat.le_of_ble_eq_true rfl, Nat.le_of_ble_eq_true rfl⟩ (fun  z330 w331 => ?_)
              refine r_ws [(h1, .inr (4, [.ref h2, .int x5])), (h2, .inl (gB g, 1500, .inl fn0)), (h0, .inr (1, [.ref h3, .ref h4, .ref h1, .int z330, .long z250, .long y1, .int z8, .int r251, .long y2, .long y3]))] rfl ?_
              have gz330 := fb_rng z330
              refine r_aload_n 83 0 C dX1_takeIndex_83 rfl ?_
              refine r_aload_n 84 0 C dX1_takeIndex_84 rfl ?_
              refine r_get 85 C dX1_takeIndex_85 (k := 4) 2 rfl rfl hiX1 (by decide) rfl (mg 4 rfl) (Or.inl rfl) rfl ?_
              refine r_put 88 C dX1_takeIndex_88 (k := 8) 2 rfl rfl hiX1 tyX1 tyX1_ok nmX1 (by decide) rfl (mg 5 rfl) (Or.inl rfl) rfl rfl rfl rfl (Nat.le_of_ble_eq_true rfl) [(h1, .inr (4, [.ref h2, .int x5])), (h2, .inl (gB g, 1500, .inl fn0)), (h0, .inr (1, [.ref h3, .ref h4, .ref h1, .int z330, .long z250, .long y1, .int z8, .int r251, .long z250, .long y3]))] rfl ?_
              refine r_lconst 91 1 C dX1_takeIndex_91 (by decide) ?_
              refine r_lstore_n 92 C dX1_takeIndex_92 [(3, .long 1), (0, .ref h0), (1, .int x0), (2, .int x1)] (by decide) rfl ?_
              refine r_iconst 93 0 C dX1_takeIndex_93 (by decide) ?_
              refine r_istore 94 C dX1_takeIndex_94 [(5, .int 0), (3, .long 1), (0, .ref h0), (1, .int x0), (2, .int x1)] (by decide) rfl ?_
              have lp337 : ∀ (n336 : Nat) (z332 : Int32) (z333 : Int64) (z334 : Int32) (z335 : Int64), (0 ≤ (Int32.toInt z332) ∧ (Int32.toInt z332) ≤ 65536) → Int.toNat (65536 - (Int32.toInt z332)) < n336 → WW p l e ({ frames := 3, cells := 0, slots := 0, locals := 67 } : Room) s m args below meth c A Q g 8 0 0 [(h1, .inr (4, [.ref h2, .int x5])), (h2, .inl (gB g, 1500, .inl fn0)), (h0, .inr (1, [.ref h3, .ref h4, .ref h1, .int z334, .long z335, .long y1, .int z8, .int r251, .long z250, .long y3]))] 96 [(5, .int z332), (3, .long z333), (0, .ref h0), (1, .int x0), (2, .int x1)] [] := by
                intro n336
                induction n336 with
                | zero => intro z332 z333 z334 z335 i340 hm339; exact absurd hm339 (Nat.not_lt_zero _)
                | succ n336 ih338 =>
                  intro z332 z333 z334 z335 i340 hm339
                  obtain ⟨i340a, i340b⟩ := i340
                  have gz333 := fb_rngL z333
                  have gz334 := fb_rng z334
                  have gz335 := fb_rngL z335
                  refine r_iload 96 0 C dX1_takeIndex_96 rfl ?_
                  refine r_aload_n 98 2 C dX1_takeIndex_98 rfl ?_
                  refine r_get 99 C dX1_takeIndex_99 (k := 6) 2 rfl rfl hiX1 (by decide) rfl (mg 1 rfl) (Or.inl rfl) rfl ?_
                  refine r_icmp_gt 102 159 C dX1_takeIndex_102 (by decide) (fun c341 => ?_) (fun c341 => ?_)
                  · skip
                    have k342 : (Int32.toInt z8) < (Int32.toInt z332) := (fa_lt z8 z332).mp c341
                    refine r_aload_n 159 2 C dX1_takeIndex_159 rfl ?_
                    refine r_aload_n 160 2 C dX1_takeIndex_160 rfl ?_
                    refine r_get 161 C dX1_takeIndex_161 (k := 4) 2 rfl rfl hiX1 (by decide) rfl (mg 4 rfl) (Or.inl rfl) rfl ?_
                    refine r_put 164 C dX1_takeIndex_164 (k := 9) 2 rfl rfl hiX1 tyX1 tyX1_ok nmX1 (by decide) rfl (mg 6 rfl) (Or.inl rfl) rfl rfl rfl rfl (Nat.le_of_ble_eq_true rfl) [(h1, .inr (4, [.ref h2, .int x5])), (h2, .inl (gB g, 1500, .inl fn0)), (h0, .inr (1, [.ref h3, .ref h4, .ref h1, .int z334, .long z335, .long y1, .int z8, .int r251, .long z250, .long z335]))] rfl ?_
                    refine r_aload_n 167 2 C dX1_takeIndex_167 rfl ?_
                    refine r_dup 168 C dX1_takeIndex_168 rfl ?_
                    refine r_get 169 C dX1_takeIndex_169 (k := 4) 2 rfl rfl hiX1 (by decide) rfl (mg 4 rfl) (Or.inl rfl) rfl ?_
                    refine r_lload_n 172 1 C dX1_takeIndex_172 rfl ?_
                    refine r_lconst 173 1 C dX1_takeIndex_173 (by decide) ?_
                    obtain ⟨z343, ez343⟩ : ∃ z_9, z333 - 1 = z_9 := ⟨_, rfl⟩
                    have gz343 := fb_rngL z343
                    refine r_lsub 174 z343 C dX1_takeIndex_174 ez343 ?_
                    obtain ⟨z344, ez344⟩ : ∃ z_9, z335 + z343 = z_9 := ⟨_, rfl⟩
                    have gz344 := fb_rngL z344
                    refine r_ladd 175 z344 C dX1_takeIndex_175 ez344 ?_
                    refine r_put 176 C dX1_takeIndex_176 (k := 4) 2 rfl rfl hiX1 tyX1 tyX1_ok nmX1 (by decide) rfl (mg 4 rfl) (Or.inl rfl) rfl rfl rfl rfl (Nat.le_of_ble_eq_true rfl) [(h1, .inr (4, [.ref h2, .int x5])), (h2, .inl (gB g, 1500, .inl fn0)), (h0, .inr (1, [.ref h3, .ref h4, .ref h1, .int z334, .long z344, .long y1, .int z8, .int r251, .long z250, .long z335]))] rfl ?_
                    refine r_aload_n 179 2 C dX1_takeIndex_179 rfl ?_
                    refine r_get 180 C dX1_takeIndex_180 (k := 4) 2 rfl rfl hiX1 (by decide) rfl (mg 4 rfl) (Or.inl rfl) rfl ?_
                    refine r_aload_n 183 2 C dX1_takeIndex_183 rfl ?_
                    refine r_get 184 C dX1_takeIndex_184 (k := 2) 2 rfl rfl hiX1 (by decide) rfl (mg 7 rfl) (Or.inl rfl) rfl ?_
                    refine r_callVi 187 C dX1_takeIndex_187 [.long z344] [(h1, .inr (4, [.ref h2, .int x5]))] [(h2, .inl (gB g, 1500, .inl fn0)), (h0, .inr (1, [.ref h3, .ref h4, .ref h1, .int z334, .long z344, .long y1, .int z8, .int r251, .long z250, .long z335]))] (fun sz => c0_X5_size l g h1 h2 x5 i_x5 sz) gX1_takeIndex_X5_size rfl ⟨rfl, rfl⟩ 0 (by decide) ⟨Nat.le_of_ble_eq_true rfl, Nat.le_of_ble_eq_true rfl⟩ 0 rfl rfl [0] [1, 2] rfl rfl (by decide) (by decide) (by decide) rfl rfl (Nat.le_of_ble_eq_true rfl) ⟨Nat.le_of_ble_eq_true rfl, Nat.le_of_ble_eq_true rfl⟩ (fun r345 _ w346 => ?_)
                    refine r_ws [(h2, .inl (gB g, 1500, .inl fn0)), (h0, .inr (1, [.ref h3, .ref h4, .ref h1, .int z334, .long z344, .long y1, .int z8, .int r251, .long z250, .long z335])), (h1, .inr (4, [.ref h2, .int x5]))] rfl ?_
                    have p347 : x5 = r345 := (w346).symm
                    subst p347
                    obtain ⟨z348, ez348⟩ : ∃ z_9, Int32.toInt64 x5 = z_9 := ⟨_, rfl⟩
                    have tz348 : (Int64.toInt z348) = (Int32.toInt x5) := by rw [← ez348]; exact Int32.toInt_toInt64 _
                    refine r_i2l 190 z348 C dX1_takeIndex_190 ez348 ?_
                    obtain ⟨z349, ez349⟩ : ∃ z_9, lg_cmp z344 z348 = z_9 := ⟨_, rfl⟩
                    have l1z349 : (Int32.toInt z349) < 0 ↔ (Int64.toInt z344) < (Int64.toInt z348) := by rw [← ez349]; exact lgI1 z344 z348
                    have l2z349 : 0 < (Int32.toInt z349) ↔ (Int64.toInt z348) < (Int64.toInt z344) := by rw [← ez349]; exact lgI2 z344 z348
                    refine r_lcmp 191 z349 C dX1_takeIndex_191 ez349 ?_
                    refine r_if_le 192 200 C dX1_takeIndex_192 (by decide) (fun c350 => ?_) (fun c350 => ?_)
                    · skip
                      have k351 : (Int32.toInt z349) ≤ 0 := (fa_le z349 0).mp c350
                      exact r_vret 200 Rt dX1_takeIndex_200 (z334, z344, z8, r251, z250, z335) (show -257 ≤ (Int32.toInt z8) ∧ (Int32.toInt z8) ≤ 65535 from ⟨(iv_eq ⟨p6, p7⟩ tz8).1, (iv_eq ⟨p6, p7⟩ tz8).2⟩) [1, 2, 0] (by decide) rfl (Nat.le_of_ble_eq_true rfl) (Nat.le_of_ble_eq_true rfl)
                    · skip
                      have k352 : ¬ ((Int32.toInt z349) ≤ 0) := fun h_9 => c350 ((fa_le z349 0).mpr h_9)
                      refine r_aload_n 195 2 C dX1_takeIndex_195 rfl ?_
                      refine r_iconst 196 1 C dX1_takeIndex_196 (by decide) ?_
                      refine r_callVv 197 C dX1_takeIndex_197 [] [(h0, .inr (1, [.ref h3, .ref h4, .ref h1, .int z334, .long z344, .long y1, .int z8, .int r251, .long z250, .long z335]))] [(h2, .inl (gB g, 1500, .inl fn0)), (h1, .inr (4, [.ref h2, .int x5]))] (fun sz => c51_X1_wrong l g h0 1 h3 h4 h1 z334 z344 y1 z8 r251 z250 z335 (iv_eq ⟨p6, p7⟩ tz8) sz) gX1_takeIndex_X1_wrong rfl ⟨rfl, rfl⟩ 1 (by decide) ⟨Nat.le_of_ble_eq_true rfl, Nat.le_of_ble_eq_true rfl⟩ 1 rfl rfl [1] [0, 2] rfl rfl (by decide) (by decide) (by decide) rfl rfl (Nat.le_of_ble_eq_true rfl) ⟨Nat.le_of_ble_eq_true rfl, Nat.le_of_ble_eq_true rfl⟩ (fun  z353 w354 => ?_)
                      refine r_ws [(h2, .inl (gB g, 1500, .inl fn0)), (h1, .inr (4, [.ref h2, .int x5])), (h0, .inr (1, [.ref h3, .ref h4, .ref h1, .int z353, .long z344, .long y1, .int z8, .int r251, .long z250, .long z335]))] rfl ?_
                      have gz353 := fb_rng z353
                      exact r_vret 200 Rt dX1_takeIndex_200 (z353, z344, z8, r251, z250, z335) (show -257 ≤ (Int32.toInt z8) ∧ (Int32.toInt z8) ≤ 65535 from ⟨(iv_eq ⟨p6, p7⟩ tz8).1, (iv_eq ⟨p6, p7⟩ tz8).2⟩) [2, 1, 0] (by decide) rfl (Nat.le_of_ble_eq_true rfl) (Nat.le_of_ble_eq_true rfl)
                  · skip
                    have k355 : ¬ ((Int32.toInt z8) < (Int32.toInt z332)) := fun h_9 => c341 ((fa_lt z8 z332).mpr h_9)
                    refine r_aload_n 105 2 C dX1_takeIndex_105 rfl ?_
                    refine r_get 106 C dX1_takeIndex_106 (k := 3) 2 rfl rfl hiX1 (by decide) rfl (mg 2 rfl) (Or.inl rfl) rfl ?_
                    refine r_if_ne 109 159 C dX1_takeIndex_109 (by decide) (fun c356 => ?_) (fun c356 => ?_)
                    · skip
                      have k357 : ¬ ((Int32.toInt z334) = 0) := fun h_9 => c356 ((fa_eq z334 0).mpr h_9)
                      refine r_aload_n 159 2 C dX1_takeIndex_159 rfl ?_
                      refine r_aload_n 160 2 C dX1_takeIndex_160 rfl ?_
                      refine r_get 161 C dX1_takeIndex_161 (k := 4) 2 rfl rfl hiX1 (by decide) rfl (mg 4 rfl) (Or.inl rfl) rfl ?_
                      refine r_put 164 C dX1_takeIndex_164 (k := 9) 2 rfl rfl hiX1 tyX1 tyX1_ok nmX1 (by decide) rfl (mg 6 rfl) (Or.inl rfl) rfl rfl rfl rfl (Nat.le_of_ble_eq_true rfl) [(h1, .inr (4, [.ref h2, .int x5])), (h2, .inl (gB g, 1500, .inl fn0)), (h0, .inr (1, [.ref h3, .ref h4, .ref h1, .int z334, .long z335, .long y1, .int z8, .int r251, .long z250, .long z335]))] rfl ?_
                      refine r_aload_n 167 2 C dX1_takeIndex_167 rfl ?_
                      refine r_dup 168 C dX1_takeIndex_168 rfl ?_
                      refine r_get 169 C dX1_takeIndex_169 (k := 4) 2 rfl rfl hiX1 (by decide) rfl (mg 4 rfl) (Or.inl rfl) rfl ?_
                      refine r_lload_n 172 1 C dX1_takeIndex_172 rfl ?_
                      refine r_lconst 173 1 C dX1_takeIndex_173 (by decide) ?_
                      obtain ⟨z358, ez358⟩ : ∃ z_9, z333 - 1 = z_9 := ⟨_, rfl⟩
                      have gz358 := fb_rngL z358
                      refine r_lsub 174 z358 C dX1_takeIndex_174 ez358 ?_
                      obtain ⟨z359, ez359⟩ : ∃ z_9, z335 + z358 = z_9 := ⟨_, rfl⟩
                      have gz359 := fb_rngL z359
                      refine r_ladd 175 z359 C dX1_takeIndex_175 ez359 ?_
                      refine r_put 176 C dX1_takeIndex_176 (k := 4) 2 rfl rfl hiX1 tyX1 tyX1_ok nmX1 (by decide) rfl (mg 4 rfl) (Or.inl rfl) rfl rfl rfl rfl (Nat.le_of_ble_eq_true rfl) [(h1, .inr (4, [.ref h2, .int x5])), (h2, .inl (gB g, 1500, .inl fn0)), (h0, .inr (1, [.ref h3, .ref h4, .ref h1, .int z334, .long z359, .long y1, .int z8, .int r251, .long z250, .long z335]))] rfl ?_
                      refine r_aload_n 179 2 C dX1_takeIndex_179 rfl ?_
                      refine r_get 180 C dX1_takeIndex_180 (k := 4) 2 rfl rfl hiX1 (by decide) rfl (mg 4 rfl) (Or.inl rfl) rfl ?_
                      refine r_aload_n 183 2 C dX1_takeIndex_183 rfl ?_
                      refine r_get 184 C dX1_takeIndex_184 (k := 2) 2 rfl rfl hiX1 (by decide) rfl (mg 7 rfl) (Or.inl rfl) rfl ?_
                      refine r_callVi 187 C dX1_takeIndex_187 [.long z359] [(h1, .inr (4, [.ref h2, .int x5]))] [(h2, .inl (gB g, 1500, .inl fn0)), (h0, .inr (1, [.ref h3, .ref h4, .ref h1, .int z334, .long z359, .long y1, .int z8, .int r251, .long z250, .long z335]))] (fun sz => c0_X5_size l g h1 h2 x5 i_x5 sz) gX1_takeIndex_X5_size rfl ⟨rfl, rfl⟩ 0 (by decide) ⟨Nat.le_of_ble_eq_true rfl, Nat.le_of_ble_eq_true rfl⟩ 0 rfl rfl [0] [1, 2] rfl rfl (by decide) (by decide) (by decide) rfl rfl (Nat.le_of_ble_eq_true rfl) ⟨Nat.le_of_ble_eq_true rfl, Nat.le_of_ble_eq_true rfl⟩ (fun r360 _ w361 => ?_)
                      refine r_ws [(h2, .inl (gB g, 1500, .inl fn0)), (h0, .inr (1, [.ref h3, .ref h4, .ref h1, .int z334, .long z359, .long y1, .int z8, .int r251, .long z250, .long z335])), (h1, .inr (4, [.ref h2, .int x5]))] rfl ?_
                      have p362 : x5 = r360 := (w361).symm
                      subst p362
                      obtain ⟨z363, ez363⟩ : ∃ z_9, Int32.toInt64 x5 = z_9 := ⟨_, rfl⟩
                      have tz363 : (Int64.toInt z363) = (Int32.toInt x5) := by rw [← ez363]; exact Int32.toInt_toInt64 _
                      refine r_i2l 190 z363 C dX1_takeIndex_190 ez363 ?_
                      obtain ⟨z364, ez364⟩ : ∃ z_9, lg_cmp z359 z363 = z_9 := ⟨_, rfl⟩
                      have l1z364 : (Int32.toInt z364) < 0 ↔ (Int64.toInt z359) < (Int64.toInt z363) := by rw [← ez364]; exact lgI1 z359 z363
                      have l2z364 : 0 < (Int32.toInt z364) ↔ (Int64.toInt z363) < (Int64.toInt z359) := by rw [← ez364]; exact lgI2 z359 z363
                      refine r_lcmp 191 z364 C dX1_takeIndex_191 ez364 ?_
                      refine r_if_le 192 200 C dX1_takeIndex_192 (by decide) (fun c365 => ?_) (fun c365 => ?_)
                      · skip
                        have k366 : (Int32.toInt z364) ≤ 0 := (fa_le z364 0).mp c365
                        exact r_vret 200 Rt dX1_takeIndex_200 (z334, z359, z8, r251, z250, z335) (show -257 ≤ (Int32.toInt z8) ∧ (Int32.toInt z8) ≤ 65535 from ⟨(iv_eq ⟨p6, p7⟩ tz8).1, (iv_eq ⟨p6, p7⟩ tz8).2⟩) [1, 2, 0] (by decide) rfl (Nat.le_of_ble_eq_true rfl) (Nat.le_of_ble_eq_true rfl)
                      · skip
                        have k367 : ¬ ((Int32.toInt z364) ≤ 0) := fun h_9 => c365 ((fa_le z364 0).mpr h_9)
                        refine r_aload_n 195 2 C dX1_takeIndex_195 rfl ?_
                        refine r_iconst 196 1 C dX1_takeIndex_196 (by decide) ?_
                        refine r_callVv 197 C dX1_takeIndex_197 [] [(h0, .inr (1, [.ref h3, .ref h4, .ref h1, .int z334, .long z359, .long y1, .int z8, .int r251, .long z250, .long z335]))] [(h2, .inl (gB g, 1500, .inl fn0)), (h1, .inr (4, [.ref h2, .int x5]))] (fun sz => c51_X1_wrong l g h0 1 h3 h4 h1 z334 z359 y1 z8 r251 z250 z335 (iv_eq ⟨p6, p7⟩ tz8) sz) gX1_takeIndex_X1_wrong rfl ⟨rfl, rfl⟩ 1 (by decide) ⟨Nat.le_of_ble_eq_true rfl, Nat.le_of_ble_eq_true rfl⟩ 1 rfl rfl [1] [0, 2] rfl rfl (by decide) (by decide) (by decide) rfl rfl (Nat.le_of_ble_eq_true rfl) ⟨Nat.le_of_ble_eq_true rfl, Nat.le_of_ble_eq_true rfl⟩ (fun  z368 w369 => ?_)
                        refine r_ws [(h2, .inl (gB g, 1500, .inl fn0)), (h1, .inr (4, [.ref h2, .int x5])), (h0, .inr (1, [.ref h3, .ref h4, .ref h1, .int z368, .long z359, .long y1, .int z8, .int r251, .long z250, .long z335]))] rfl ?_
                        have gz368 := fb_rng z368
                        exact r_vret 200 Rt dX1_takeIndex_200 (z368, z359, z8, r251, z250, z335) (show -257 ≤ (Int32.toInt z8) ∧ (Int32.toInt z8) ≤ 65535 from ⟨(iv_eq ⟨p6, p7⟩ tz8).1, (iv_eq ⟨p6, p7⟩ tz8).2⟩) [2, 1, 0] (by decide) rfl (Nat.le_of_ble_eq_true rfl) (Nat.le_of_ble_eq_true rfl)
                    · skip
                      have k370 : (Int32.toInt z334) = 0 := (fa_eq z334 0).mp c356
                      refine r_aload_n 112 2 C dX1_takeIndex_112 rfl ?_
                      refine r_aload_n 113 2 C dX1_takeIndex_113 rfl ?_
                      refine r_get 114 C dX1_takeIndex_114 (k := 7) 2 rfl rfl hiX1 (by decide) rfl (mg 3 rfl) (Or.inl rfl) rfl ?_
                      refine r_callVl 117 C dX1_takeIndex_117 [] [(h0, .inr (1, [.ref h3, .ref h4, .ref h1, .int z334, .long z335, .long y1, .int z8, .int r251, .long z250, .long y3])), (h1, .inr (4, [.ref h2, .int x5])), (h2, .inl (gB g, 1500, .inl fn0))] [] (fun sz => c56_X1_takeNumber l g h0 h1 h2 r251 h3 h4 z334 z335 y1 z8 r251 z250 y3 x5 fn0 (iv_eq ⟨p6, p7⟩ tz8) i_x5 sz) gX1_takeIndex_X1_takeNumber rfl ⟨rfl, rfl⟩ 1 (by decide) ⟨Nat.le_of_ble_eq_true rfl, Nat.le_of_ble_eq_true rfl⟩ 2 rfl rfl [2, 0, 1] [] rfl rfl (by decide) (by decide) (by decide) rfl rfl (Nat.le_of_ble_eq_true rfl) ⟨Nat.le_of_ble_eq_true rfl, Nat.le_of_ble_eq_true rfl⟩ (fun r373 u375 w374 => ?_)
                      obtain ⟨z371, z372⟩ := u375
                      refine r_ws [(h0, .inr (1, [.ref h3, .ref h4, .ref h1, .int z371, .long z372, .long y1, .int z8, .int r251, .long z250, .long y3])), (h1, .inr (4, [.ref h2, .int x5])), (h2, .inl (gB g, 1500, .inl fn0))] rfl ?_
                      have gz371 := fb_rng z371
                      have gz372 := fb_rngL z372
                      have gr373 := fb_rngL r373
                      refine r_lstore 120 C dX1_takeIndex_120 [(6, .long r373), (5, .int z332), (3, .long z333), (0, .ref h0), (1, .int x0), (2, .int x1)] (by decide) rfl ?_
                      refine r_aload_n 122 3 C dX1_takeIndex_122 rfl ?_
                      refine r_lload 123 0 C dX1_takeIndex_123 rfl ?_
                      refine r_lload_n 125 2 C dX1_takeIndex_125 rfl ?_
                      obtain ⟨z376, ez376⟩ : ∃ z_9, lg_cmp r373 z333 = z_9 := ⟨_, rfl⟩
                      have l1z376 : (Int32.toInt z376) < 0 ↔ (Int64.toInt r373) < (Int64.toInt z333) := by rw [← ez376]; exact lgI1 r373 z333
                      have l2z376 : 0 < (Int32.toInt z376) ↔ (Int64.toInt z333) < (Int64.toInt r373) := by rw [← ez376]; exact lgI2 r373 z333
                      refine r_lcmp 126 z376 C dX1_takeIndex_126 ez376 ?_
                      refine r_if_lt 127 146 C dX1_takeIndex_127 (by decide) (fun c377 => ?_) (fun c377 => ?_)
                      · skip
                        have k378 : (Int32.toInt z376) < 0 := (fa_lt z376 0).mp c377
                        refine r_iconst 146 0 C dX1_takeIndex_146 (by decide) ?_
                        refine r_callVv 147 C dX1_takeIndex_147 [] [(h0, .inr (1, [.ref h3, .ref h4, .ref h1, .int z371, .long z372, .long y1, .int z8, .int r251, .long z250, .long y3]))] [(h1, .inr (4, [.ref h2, .int x5])), (h2, .inl (gB g, 1500, .inl fn0))] (fun sz => c53_X1_want l g h0 0 h3 h4 h1 z371 z372 y1 z8 r251 z250 y3 (by decide) (iv_eq ⟨p6, p7⟩ tz8) sz) gX1_takeIndex_X1_want rfl ⟨rfl, rfl⟩ 1 (by decide) ⟨Nat.le_of_ble_eq_true rfl, Nat.le_of_ble_eq_true rfl⟩ 0 rfl rfl [0] [1, 2] rfl rfl (by decide) (by decide) (by decide) rfl rfl (Nat.le_of_ble_eq_true rfl) ⟨Nat.le_of_ble_eq_true rfl, Nat.le_of_ble_eq_true rfl⟩ (fun  z379 w380 => ?_)
                        refine r_ws [(h1, .inr (4, [.ref h2, .int x5])), (h2, .inl (gB g, 1500, .inl fn0)), (h0, .inr (1, [.ref h3, .ref h4, .ref h1, .int z379, .long z372, .long y1, .int z8, .int r251, .long z250, .long y3]))] rfl ?_
                        have gz379 := fb_rng z379
                        refine r_lload 150 0 C dX1_takeIndex_150 rfl ?_
                        refine r_lstore_n 152 C dX1_takeIndex_152 [(3, .long r373), (6, .long r373), (5, .int z332), (0, .ref h0), (1, .int x0), (2, .int x1)] (by decide) rfl ?_
                        obtain ⟨z381, ez381⟩ : ∃ z_9, z332 + Int32.ofInt 1 = z_9 := ⟨_, rfl⟩
                        have tz381 : (Int32.toInt z381) = (Int32.toInt z332) + 1 := by rw [← ez381]; exact fb_addIv (a := 0) (b := 65536) (c := 1) (d := 1) ⟨i340a, i340b⟩ ⟨by decide, by decide⟩ (by decide) (by decide)
                        refine r_iinc 153 2 z381 C dX1_takeIndex_153 rfl ez381 [(5, .int z381), (3, .long r373), (6, .long r373), (0, .ref h0), (1, .int x0), (2, .int x1)] (by decide) rfl ?_
                        refine r_goto 156 96 C dX1_takeIndex_156 (by decide) ?_
                        refine r_lv [(5, .int z381), (3, .long r373), (0, .ref h0), (1, .int x0), (2, .int x1)] [0, 1, 3, 4, 5] rfl ?_
                        exact ih338 z381 r373 z379 z372 ⟨by omega, by omega⟩ (by omega)
                      · skip
                        have k382 : ¬ ((Int32.toInt z376) < 0) := fun h_9 => c377 ((fa_lt z376 0).mpr h_9)
                        refine r_iload 130 1 C dX1_takeIndex_130 rfl ?_
                        refine r_if_gt 132 142 C dX1_takeIndex_132 (by decide) (fun c383 => ?_) (fun c383 => ?_)
                        · skip
                          have k384 : 0 < (Int32.toInt z332) := (fa_lt 0 z332).mp c383
                          refine r_iconst 142 1 C dX1_takeIndex_142 (by decide) ?_
                          refine r_goto 143 147 C dX1_takeIndex_143 (by decide) ?_
                          refine r_callVv 147 C dX1_takeIndex_147 [] [(h0, .inr (1, [.ref h3, .ref h4, .ref h1, .int z371, .long z372, .long y1, .int z8, .int r251, .long z250, .long y3]))] [(h1, .inr (4, [.ref h2, .int x5])), (h2, .inl (gB g, 1500, .inl fn0))] (fun sz => c53_X1_want l g h0 1 h3 h4 h1 z371 z372 y1 z8 r251 z250 y3 (by decide) (iv_eq ⟨p6, p7⟩ tz8) sz) gX1_takeIndex_X1_want rfl ⟨rfl, rfl⟩ 1 (by decide) ⟨Nat.le_of_ble_eq_true rfl, Nat.le_of_ble_eq_true rfl⟩ 0 rfl rfl [0] [1, 2] rfl rfl (by decide) (by decide) (by decide) rfl rfl (Nat.le_of_ble_eq_true rfl) ⟨Nat.le_of_ble_eq_true rfl, Nat.le_of_ble_eq_true rfl⟩ (fun  z385 w386 => ?_)
                          refine r_ws [(h1, .inr (4, [.ref h2, .int x5])), (h2, .inl (gB g, 1500, .inl fn0)), (h0, .inr (1, [.ref h3, .ref h4, .ref h1, .int z385, .long z372, .long y1, .int z8, .int r251, .long z250, .long y3]))] rfl ?_
                          have gz385 := fb_rng z385
                          refine r_lload 150 0 C dX1_takeIndex_150 rfl ?_
                          refine r_lstore_n 152 C dX1_takeIndex_152 [(3, .long r373), (6, .long r373), (5, .int z332), (0, .ref h0), (1, .int x0), (2, .int x1)] (by decide) rfl ?_
                          obtain ⟨z387, ez387⟩ : ∃ z_9, z332 + Int32.ofInt 1 = z_9 := ⟨_, rfl⟩
                          have tz387 : (Int32.toInt z387) = (Int32.toInt z332) + 1 := by rw [← ez387]; exact fb_addIv (a := 0) (b := 65536) (c := 1) (d := 1) ⟨i340a, i340b⟩ ⟨by decide, by decide⟩ (by decide) (by decide)
                          refine r_iinc 153 2 z387 C dX1_takeIndex_153 rfl ez387 [(5, .int z387), (3, .long r373), (6, .long r373), (0, .ref h0), (1, .int x0), (2, .int x1)] (by decide) rfl ?_
                          refine r_goto 156 96 C dX1_takeIndex_156 (by decide) ?_
                          refine r_lv [(5, .int z387), (3, .long r373), (0, .ref h0), (1, .int x0), (2, .int x1)] [0, 1, 3, 4, 5] rfl ?_
                          exact ih338 z387 r373 z385 z372 ⟨by omega, by omega⟩ (by omega)
                        · skip
                          have k388 : ¬ (0 < (Int32.toInt z332)) := fun h_9 => c383 ((fa_lt 0 z332).mpr h_9)
                          refine r_lload 135 0 C dX1_takeIndex_135 rfl ?_
                          refine r_lconst 137 1 C dX1_takeIndex_137 (by decide) ?_
                          obtain ⟨z389, ez389⟩ : ∃ z_9, lg_cmp r373 1 = z_9 := ⟨_, rfl⟩
                          have l1z389 : (Int32.toInt z389) < 0 ↔ (Int64.toInt r373) < 1 := by rw [← ez389]; exact lgI1 r373 1
                          have l2z389 : 0 < (Int32.toInt z389) ↔ 1 < (Int64.toInt r373) := by rw [← ez389]; exact lgI2 r373 1
                          refine r_lcmp 138 z389 C dX1_takeIndex_138 ez389 ?_
                          refine r_if_ne 139 146 C dX1_takeIndex_139 (by decide) (fun c390 => ?_) (fun c390 => ?_)
                          · skip
                            have k391 : ¬ ((Int32.toInt z389) = 0) := fun h_9 => c390 ((fa_eq z389 0).mpr h_9)
                            refine r_iconst 146 0 C dX1_takeIndex_146 (by decide) ?_
                            refine r_callVv 147 C dX1_takeIndex_147 [] [(h0, .inr (1, [.ref h3, .ref h4, .ref h1, .int z371, .long z372, .long y1, .int z8, .int r251, .long z250, .long y3]))] [(h1, .inr (4, [.ref h2, .int x5])), (h2, .inl (gB g, 1500, .inl fn0))] (fun sz => c53_X1_want l g h0 0 h3 h4 h1 z371 z372 y1 z8 r251 z250 y3 (by decide) (iv_eq ⟨p6, p7⟩ tz8) sz) gX1_takeIndex_X1_want rfl ⟨rfl, rfl⟩ 1 (by decide) ⟨Nat.le_of_ble_eq_true rfl, Nat.le_of_ble_eq_true rfl⟩ 0 rfl rfl [0] [1, 2] rfl rfl (by decide) (by decide) (by decide) rfl rfl (Nat.le_of_ble_eq_true rfl) ⟨Nat.le_of_ble_eq_true rfl, Nat.le_of_ble_eq_true rfl⟩ (fun  z392 w393 => ?_)
                            refine r_ws [(h1, .inr (4, [.ref h2, .int x5])), (h2, .inl (gB g, 1500, .inl fn0)), (h0, .inr (1, [.ref h3, .ref h4, .ref h1, .int z392, .long z372, .long y1, .int z8, .int r251, .long z250, .long y3]))] rfl ?_
                            have gz392 := fb_rng z392
                            refine r_lload 150 0 C dX1_takeIndex_150 rfl ?_
                            refine r_lstore_n 152 C dX1_takeIndex_152 [(3, .long r373), (6, .long r373), (5, .int z332), (0, .ref h0), (1, .int x0), (2, .int x1)] (by decide) rfl ?_
                            obtain ⟨z394, ez394⟩ : ∃ z_9, z332 + Int32.ofInt 1 = z_9 := ⟨_, rfl⟩
                            have tz394 : (Int32.toInt z394) = (Int32.toInt z332) + 1 := by rw [← ez394]; exact fb_addIv (a := 0) (b := 65536) (c := 1) (d := 1) ⟨i340a, i340b⟩ ⟨by decide, by decide⟩ (by decide) (by decide)
                            refine r_iinc 153 2 z394 C dX1_takeIndex_153 rfl ez394 [(5, .int z394), (3, .long r373), (6, .long r373), (0, .ref h0), (1, .int x0), (2, .int x1)] (by decide) rfl ?_
                            refine r_goto 156 96 C dX1_takeIndex_156 (by decide) ?_
                            refine r_lv [(5, .int z394), (3, .long r373), (0, .ref h0), (1, .int x0), (2, .int x1)] [0, 1, 3, 4, 5] rfl ?_
                            exact ih338 z394 r373 z392 z372 ⟨by omega, by omega⟩ (by omega)
                          · skip
                            have k395 : (Int32.toInt z389) = 0 := (fa_eq z389 0).mp c390
                            refine r_iconst 142 1 C dX1_takeIndex_142 (by decide) ?_
                            refine r_goto 143 147 C dX1_takeIndex_143 (by decide) ?_
                            refine r_callVv 147 C dX1_takeIndex_147 [] [(h0, .inr (1, [.ref h3, .ref h4, .ref h1, .int z371, .long z372, .long y1, .int z8, .int r251, .long z250, .long y3]))] [(h1, .inr (4, [.ref h2, .int x5])), (h2, .inl (gB g, 1500, .inl fn0))] (fun sz => c53_X1_want l g h0 1 h3 h4 h1 z371 z372 y1 z8 r251 z250 y3 (by decide) (iv_eq ⟨p6, p7⟩ tz8) sz) gX1_takeIndex_X1_want rfl ⟨rfl, rfl⟩ 1 (by decide) ⟨Nat.le_of_ble_eq_true rfl, Nat.le_of_ble_eq_true rfl⟩ 0 rfl rfl [0] [1, 2] rfl rfl (by decide) (by decide) (by decide) rfl rfl (Nat.le_of_ble_eq_true rfl) ⟨Nat.le_of_ble_eq_true rfl, Nat.le_of_ble_eq_true rfl⟩ (fun  z396 w397 => ?_)
                            refine r_ws [(h1, .inr (4, [.ref h2, .int x5])), (h2, .inl (gB g, 1500, .inl fn0)), (h0, .inr (1, [.ref h3, .ref h4, .ref h1, .int z396, .long z372, .long y1, .int z8, .int r251, .long z250, .long y3]))] rfl ?_
                            have gz396 := fb_rng z396
                            refine r_lload 150 0 C dX1_takeIndex_150 rfl ?_
                            refine r_lstore_n 152 C dX1_takeIndex_152 [(3, .long r373), (6, .long r373), (5, .int z332), (0, .ref h0), (1, .int x0), (2, .int x1)] (by decide) rfl ?_
                            obtain ⟨z398, ez398⟩ : ∃ z_9, z332 + Int32.ofInt 1 = z_9 := ⟨_, rfl⟩
                            have tz398 : (Int32.toInt z398) = (Int32.toInt z332) + 1 := by rw [← ez398]; exact fb_addIv (a := 0) (b := 65536) (c := 1) (d := 1) ⟨i340a, i340b⟩ ⟨by decide, by decide⟩ (by decide) (by decide)
                            refine r_iinc 153 2 z398 C dX1_takeIndex_153 rfl ez398 [(5, .int z398), (3, .long r373), (6, .long r373), (0, .ref h0), (1, .int x0), (2, .int x1)] (by decide) rfl ?_
                            refine r_goto 156 96 C dX1_takeIndex_156 (by decide) ?_
                            refine r_lv [(5, .int z398), (3, .long r373), (0, .ref h0), (1, .int x0), (2, .int x1)] [0, 1, 3, 4, 5] rfl ?_
                            exact ih338 z398 r373 z396 z372 ⟨by omega, by omega⟩ (by omega)
              exact lp337 _ 0 1 z330 z250 (by decide) (Nat.lt_succ_self _)
            · skip
              have k399 : ¬ (4 < (Int32.toInt r251)) := fun h_9 => c328 ((fa_lt 4 r251).mpr h_9)
              refine r_iconst 75 1 C dX1_takeIndex_75 (by decide) ?_
              refine r_goto 76 80 C dX1_takeIndex_76 (by decide) ?_
              refine r_callVv 80 C dX1_takeIndex_80 [] [(h0, .inr (1, [.ref h3, .ref h4, .ref h1, .int z249, .long z250, .long y1, .int z8, .int r251, .long y2, .long y3]))] [(h1, .inr (4, [.ref h2, .int x5])), (h2, .inl (gB g, 1500, .inl fn0))] (fun sz => c53_X1_want l g h0 1 h3 h4 h1 z249 z250 y1 z8 r251 y2 y3 (by decide) (iv_eq ⟨p6, p7⟩ tz8) sz) gX1_takeIndex_X1_want rfl ⟨rfl, rfl⟩ 1 (by decide) ⟨Nat.le_of_ble_eq_true rfl, Nat.le_of_ble_eq_true rfl⟩ 0 rfl rfl [0] [1, 2] rfl rfl (by decide) (by decide) (by decide) rfl rfl (Nat.le_of_ble_eq_true rfl) ⟨Nat.le_of_ble_eq_true rfl, Nat.le_of_ble_eq_true rfl⟩ (fun  z400 w401 => ?_)
              refine r_ws [(h1, .inr (4, [.ref h2, .int x5])), (h2, .inl (gB g, 1500, .inl fn0)), (h0, .inr (1, [.ref h3, .ref h4, .ref h1, .int z400, .long z250, .long y1, .int z8, .int r251, .long y2, .long y3]))] rfl ?_
              have gz400 := fb_rng z400
              refine r_aload_n 83 0 C dX1_takeIndex_83 rfl ?_
              refine r_aload_n 84 0 C dX1_takeIndex_84 rfl ?_
              refine r_get 85 C dX1_takeIndex_85 (k := 4) 2 rfl rfl hiX1 (by decide) rfl (mg 4 rfl) (Or.inl rfl) rfl ?_
              refine r_put 88 C dX1_takeIndex_88 (k := 8) 2 rfl rfl hiX1 tyX1 tyX1_ok nmX1 (by decide) rfl (mg 5 rfl) (Or.inl rfl) rfl rfl rfl rfl (Nat.le_of_ble_eq_true rfl) [(h1, .inr (4, [.ref h2, .int x5])), (h2, .inl (gB g, 1500, .inl fn0)), (h0, .inr (1, [.ref h3, .ref h4, .ref h1, .int z400, .long z250, .long y1, .int z8, .int r251, .long z250, .long y3]))] rfl ?_
              refine r_lconst 91 1 C dX1_takeIndex_91 (by decide) ?_
              refine r_lstore_n 92 C dX1_takeIndex_92 [(3, .long 1), (0, .ref h0), (1, .int x0), (2, .int x1)] (by decide) rfl ?_
              refine r_iconst 93 0 C dX1_takeIndex_93 (by decide) ?_
              refine r_istore 94 C dX1_takeIndex_94 [(5, .int 0), (3, .long 1), (0, .ref h0), (1, .int x0), (2, .int x1)] (by decide) rfl ?_
              have lp407 : ∀ (n406 : Nat) (z402 : Int32) (z403 : Int64) (z404 : Int32) (z405 : Int64), (0 ≤ (Int32.toInt z402) ∧ (Int32.toInt z402) ≤ 65536) → Int.toNat (65536 - (Int32.toInt z402)) < n406 → WW p l e ({ frames := 3, cells := 0, slots := 0, locals := 67 } : Room) s m args below meth c A Q g 8 0 0 [(h1, .inr (4, [.ref h2, .int x5])), (h2, .inl (gB g, 1500, .inl fn0)), (h0, .inr (1, [.ref h3, .ref h4, .ref h1, .int z404, .long z405, .long y1, .int z8, .int r251, .long z250, .long y3]))] 96 [(5, .int z402), (3, .long z403), (0, .ref h0), (1, .int x0), (2, .int x1)] [] := by
                intro n406
                induction n406 with
                | zero => intro z402 z403 z404 z405 i410 hm409; exact absurd hm409 (Nat.not_lt_zero _)
                | succ n406 ih408 =>
                  intro z402 z403 z404 z405 i410 hm409
                  obtain ⟨i410a, i410b⟩ := i410
                  have gz403 := fb_rngL z403
                  have gz404 := fb_rng z404
                  have gz405 := fb_rngL z405
                  refine r_iload 96 0 C dX1_takeIndex_96 rfl ?_
                  refine r_aload_n 98 2 C dX1_takeIndex_98 rfl ?_
                  refine r_get 99 C dX1_takeIndex_99 (k := 6) 2 rfl rfl hiX1 (by decide) rfl (mg 1 rfl) (Or.inl rfl) rfl ?_
                  refine r_icmp_gt 102 159 C dX1_takeIndex_102 (by decide) (fun c411 => ?_) (fun c411 => ?_)
                  · skip
                    have k412 : (Int32.toInt z8) < (Int32.toInt z402) := (fa_lt z8 z402).mp c411
                    refine r_aload_n 159 2 C dX1_takeIndex_159 rfl ?_
                    refine r_aload_n 160 2 C dX1_takeIndex_160 rfl ?_
                    refine r_get 161 C dX1_takeIndex_161 (k := 4) 2 rfl rfl hiX1 (by decide) rfl (mg 4 rfl) (Or.inl rfl) rfl ?_
                    refine r_put 164 C dX1_takeIndex_164 (k := 9) 2 rfl rfl hiX1 tyX1 tyX1_ok nmX1 (by decide) rfl (mg 6 rfl) (Or.inl rfl) rfl rfl rfl rfl (Nat.le_of_ble_eq_true rfl) [(h1, .inr (4, [.ref h2, .int x5])), (h2, .inl (gB g, 1500, .inl fn0)), (h0, .inr (1, [.ref h3, .ref h4, .ref h1, .int z404, .long z405, .long y1, .int z8, .int r251, .long z250, .long z405]))] rfl ?_
                    refine r_aload_n 167 2 C dX1_takeIndex_167 rfl ?_
                    refine r_dup 168 C dX1_takeIndex_168 rfl ?_
                    refine r_get 169 C dX1_takeIndex_169 (k := 4) 2 rfl rfl hiX1 (by decide) rfl (mg 4 rfl) (Or.inl rfl) rfl ?_
                    refine r_lload_n 172 1 C dX1_takeIndex_172 rfl ?_
                    refine r_lconst 173 1 C dX1_takeIndex_173 (by decide) ?_
                    obtain ⟨z413, ez413⟩ : ∃ z_9, z403 - 1 = z_9 := ⟨_, rfl⟩
                    have gz413 := fb_rngL z413
                    refine r_lsub 174 z413 C dX1_takeIndex_174 ez413 ?_
                    obtain ⟨z414, ez414⟩ : ∃ z_9, z405 + z413 = z_9 := ⟨_, rfl⟩
                    have gz414 := fb_rngL z414
                    refine r_ladd 175 z414 C dX1_takeIndex_175 ez414 ?_
                    refine r_put 176 C dX1_takeIndex_176 (k := 4) 2 rfl rfl hiX1 tyX1 tyX1_ok nmX1 (by decide) rfl (mg 4 rfl) (Or.inl rfl) rfl rfl rfl rfl (Nat.le_of_ble_eq_true rfl) [(h1, .inr (4, [.ref h2, .int x5])), (h2, .inl (gB g, 1500, .inl fn0)), (h0, .inr (1, [.ref h3, .ref h4, .ref h1, .int z404, .long z414, .long y1, .int z8, .int r251, .long z250, .long z405]))] rfl ?_
                    refine r_aload_n 179 2 C dX1_takeIndex_179 rfl ?_
                    refine r_get 180 C dX1_takeIndex_180 (k := 4) 2 rfl rfl hiX1 (by decide) rfl (mg 4 rfl) (Or.inl rfl) rfl ?_
                    refine r_aload_n 183 2 C dX1_takeIndex_183 rfl ?_
                    refine r_get 184 C dX1_takeIndex_184 (k := 2) 2 rfl rfl hiX1 (by decide) rfl (mg 7 rfl) (Or.inl rfl) rfl ?_
                    refine r_callVi 187 C dX1_takeIndex_187 [.long z414] [(h1, .inr (4, [.ref h2, .int x5]))] [(h2, .inl (gB g, 1500, .inl fn0)), (h0, .inr (1, [.ref h3, .ref h4, .ref h1, .int z404, .long z414, .long y1, .int z8, .int r251, .long z250, .long z405]))] (fun sz => c0_X5_size l g h1 h2 x5 i_x5 sz) gX1_takeIndex_X5_size rfl ⟨rfl, rfl⟩ 0 (by decide) ⟨Nat.le_of_ble_eq_true rfl, Nat.le_of_ble_eq_true rfl⟩ 0 rfl rfl [0] [1, 2] rfl rfl (by decide) (by decide) (by decide) rfl rfl (Nat.le_of_ble_eq_true rfl) ⟨Nat.le_of_ble_eq_true rfl, Nat.le_of_ble_eq_true rfl⟩ (fun r415 _ w416 => ?_)
                    refine r_ws [(h2, .inl (gB g, 1500, .inl fn0)), (h0, .inr (1, [.ref h3, .ref h4, .ref h1, .int z404, .long z414, .long y1, .int z8, .int r251, .long z250, .long z405])), (h1, .inr (4, [.ref h2, .int x5]))] rfl ?_
                    have p417 : x5 = r415 := (w416).symm
                    subst p417
                    obtain ⟨z418, ez418⟩ : ∃ z_9, Int32.toInt64 x5 = z_9 := ⟨_, rfl⟩
                    have tz418 : (Int64.toInt z418) = (Int32.toInt x5) := by rw [← ez418]; exact Int32.toInt_toInt64 _
                    refine r_i2l 190 z418 C dX1_takeIndex_190 ez418 ?_
                    obtain ⟨z419, ez419⟩ : ∃ z_9, lg_cmp z414 z418 = z_9 := ⟨_, rfl⟩
                    have l1z419 : (Int32.toInt z419) < 0 ↔ (Int64.toInt z414) < (Int64.toInt z418) := by rw [← ez419]; exact lgI1 z414 z418
                    have l2z419 : 0 < (Int32.toInt z419) ↔ (Int64.toInt z418) < (Int64.toInt z414) := by rw [← ez419]; exact lgI2 z414 z418
                    refine r_lcmp 191 z419 C dX1_takeIndex_191 ez419 ?_
                    refine r_if_le 192 200 C dX1_takeIndex_192 (by decide) (fun c420 => ?_) (fun c420 => ?_)
                    · skip
                      have k421 : (Int32.toInt z419) ≤ 0 := (fa_le z419 0).mp c420
                      exact r_vret 200 Rt dX1_takeIndex_200 (z404, z414, z8, r251, z250, z405) (show -257 ≤ (Int32.toInt z8) ∧ (Int32.toInt z8) ≤ 65535 from ⟨(iv_eq ⟨p6, p7⟩ tz8).1, (iv_eq ⟨p6, p7⟩ tz8).2⟩) [1, 2, 0] (by decide) rfl (Nat.le_of_ble_eq_true rfl) (Nat.le_of_ble_eq_true rfl)
                    · skip
                      have k422 : ¬ ((Int32.toInt z419) ≤ 0) := fun h_9 => c420 ((fa_le z419 0).mpr h_9)
                      refine r_aload_n 195 2 C dX1_takeIndex_195 rfl ?_
                      refine r_iconst 196 1 C dX1_takeIndex_196 (by decide) ?_
                      refine r_callVv 197 C dX1_takeIndex_197 [] [(h0, .inr (1, [.ref h3, .ref h4, .ref h1, .int z404, .long z414, .long y1, .int z8, .int r251, .long z250, .long z405]))] [(h2, .inl (gB g, 1500, .inl fn0)), (h1, .inr (4, [.ref h2, .int x5]))] (fun sz => c51_X1_wrong l g h0 1 h3 h4 h1 z404 z414 y1 z8 r251 z250 z405 (iv_eq ⟨p6, p7⟩ tz8) sz) gX1_takeIndex_X1_wrong rfl ⟨rfl, rfl⟩ 1 (by decide) ⟨Nat.le_of_ble_eq_true rfl, Nat.le_of_ble_eq_true rfl⟩ 1 rfl rfl [1] [0, 2] rfl rfl (by decide) (by decide) (by decide) rfl rfl (Nat.le_of_ble_eq_true rfl) ⟨Nat.le_of_ble_eq_true rfl, Nat.le_of_ble_eq_true rfl⟩ (fun  z423 w424 => ?_)
                      refine r_ws [(h2, .inl (gB g, 1500, .inl fn0)), (h1, .inr (4, [.ref h2, .int x5])), (h0, .inr (1, [.ref h3, .ref h4, .ref h1, .int z423, .long z414, .long y1, .int z8, .int r251, .long z250, .long z405]))] rfl ?_
                      have gz423 := fb_rng z423
                      exact r_vret 200 Rt dX1_takeIndex_200 (z423, z414, z8, r251, z250, z405) (show -257 ≤ (Int32.toInt z8) ∧ (Int32.toInt z8) ≤ 65535 from ⟨(iv_eq ⟨p6, p7⟩ tz8).1, (iv_eq ⟨p6, p7⟩ tz8).2⟩) [2, 1, 0] (by decide) rfl (Nat.le_of_ble_eq_true rfl) (Nat.le_of_ble_eq_true rfl)
                  · skip
                    have k425 : ¬ ((Int32.toInt z8) < (Int32.toInt z402)) := fun h_9 => c411 ((fa_lt z8 z402).mpr h_9)
                    refine r_aload_n 105 2 C dX1_takeIndex_105 rfl ?_
                    refine r_get 106 C dX1_takeIndex_106 (k := 3) 2 rfl rfl hiX1 (by decide) rfl (mg 2 rfl) (Or.inl rfl) rfl ?_
                    refine r_if_ne 109 159 C dX1_takeIndex_109 (by decide) (fun c426 => ?_) (fun c426 => ?_)
                    · skip
                      have k427 : ¬ ((Int32.toInt z404) = 0) := fun h_9 => c426 ((fa_eq z404 0).mpr h_9)
                      refine r_aload_n 159 2 C dX1_takeIndex_159 rfl ?_
                      refine r_aload_n 160 2 C dX1_takeIndex_160 rfl ?_
                      refine r_get 161 C dX1_takeIndex_161 (k := 4) 2 rfl rfl hiX1 (by decide) rfl (mg 4 rfl) (Or.inl rfl) rfl ?_
                      refine r_put 164 C dX1_takeIndex_164 (k := 9) 2 rfl rfl hiX1 tyX1 tyX1_ok nmX1 (by decide) rfl (mg 6 rfl) (Or.inl rfl) rfl rfl rfl rfl (Nat.le_of_ble_eq_true rfl) [(h1, .inr (4, [.ref h2, .int x5])), (h2, .inl (gB g, 1500, .inl fn0)), (h0, .inr (1, [.ref h3, .ref h4, .ref h1, .int z404, .long z405, .long y1, .int z8, .int r251, .long z250, .long z405]))] rfl ?_
                      refine r_aload_n 167 2 C dX1_takeIndex_167 rfl ?_
                      refine r_dup 168 C dX1_takeIndex_168 rfl ?_
                      refine r_get 169 C dX1_takeIndex_169 (k := 4) 2 rfl rfl hiX1 (by decide) rfl (mg 4 rfl) (Or.inl rfl) rfl ?_
                      refine r_lload_n 172 1 C dX1_takeIndex_172 rfl ?_
                      refine r_lconst 173 1 C dX1_takeIndex_173 (by decide) ?_
                      obtain ⟨z428, ez428⟩ : ∃ z_9, z403 - 1 = z_9 := ⟨_, rfl⟩
                      have gz428 := fb_rngL z428
                      refine r_lsub 174 z428 C dX1_takeIndex_174 ez428 ?_
                      obtain ⟨z429, ez429⟩ : ∃ z_9, z405 + z428 = z_9 := ⟨_, rfl⟩
                      have gz429 := fb_rngL z429
                      refine r_ladd 175 z429 C dX1_takeIndex_175 ez429 ?_
                      refine r_put 176 C dX1_takeIndex_176 (k := 4) 2 rfl rfl hiX1 tyX1 tyX1_ok nmX1 (by decide) rfl (mg 4 rfl) (Or.inl rfl) rfl rfl rfl rfl (Nat.le_of_ble_eq_true rfl) [(h1, .inr (4, [.ref h2, .int x5])), (h2, .inl (gB g, 1500, .inl fn0)), (h0, .inr (1, [.ref h3, .ref h4, .ref h1, .int z404, .long z429, .long y1, .int z8, .int r251, .long z250, .long z405]))] rfl ?_
                      refine r_aload_n 179 2 C dX1_takeIndex_179 rfl ?_
                      refine r_get 180 C dX1_takeIndex_180 (k := 4) 2 rfl rfl hiX1 (by decide) rfl (mg 4 rfl) (Or.inl rfl) rfl ?_
                      refine r_aload_n 183 2 C dX1_takeIndex_183 rfl ?_
                      refine r_get 184 C dX1_takeIndex_184 (k := 2) 2 rfl rfl hiX1 (by decide) rfl (mg 7 rfl) (Or.inl rfl) rfl ?_
                      refine r_callVi 187 C dX1_takeIndex_187 [.long z429] [(h1, .inr (4, [.ref h2, .int x5]))] [(h2, .inl (gB g, 1500, .inl fn0)), (h0, .inr (1, [.ref h3, .ref h4, .ref h1, .int z404, .long z429, .long y1, .int z8, .int r251, .long z250, .long z405]))] (fun sz => c0_X5_size l g h1 h2 x5 i_x5 sz) gX1_takeIndex_X5_size rfl ⟨rfl, rfl⟩ 0 (by decide) ⟨Nat.le_of_ble_eq_true rfl, Nat.le_of_ble_eq_true rfl⟩ 0 rfl rfl [0] [1, 2] rfl rfl (by decide) (by decide) (by decide) rfl rfl (Nat.le_of_ble_eq_true rfl) ⟨Nat.le_of_ble_eq_true rfl, Nat.le_of_ble_eq_true rfl⟩ (fun r430 _ w431 => ?_)
                      refine r_ws [(h2, .inl (gB g, 1500, .inl fn0)), (h0, .inr (1, [.ref h3, .ref h4, .ref h1, .int z404, .long z429, .long y1, .int z8, .int r251, .long z250, .long z405])), (h1, .inr (4, [.ref h2, .int x5]))] rfl ?_
                      have p432 : x5 = r430 := (w431).symm
                      subst p432
                      obtain ⟨z433, ez433⟩ : ∃ z_9, Int32.toInt64 x5 = z_9 := ⟨_, rfl⟩
                      have tz433 : (Int64.toInt z433) = (Int32.toInt x5) := by rw [← ez433]; exact Int32.toInt_toInt64 _
                      refine r_i2l 190 z433 C dX1_takeIndex_190 ez433 ?_
                      obtain ⟨z434, ez434⟩ : ∃ z_9, lg_cmp z429 z433 = z_9 := ⟨_, rfl⟩
                      have l1z434 : (Int32.toInt z434) < 0 ↔ (Int64.toInt z429) < (Int64.toInt z433) := by rw [← ez434]; exact lgI1 z429 z433
                      have l2z434 : 0 < (Int32.toInt z434) ↔ (Int64.toInt z433) < (Int64.toInt z429) := by rw [← ez434]; exact lgI2 z429 z433
                      refine r_lcmp 191 z434 C dX1_takeIndex_191 ez434 ?_
                      refine r_if_le 192 200 C dX1_takeIndex_192 (by decide) (fun c435 => ?_) (fun c435 => ?_)
                      · skip
                        have k436 : (Int32.toInt z434) ≤ 0 := (fa_le z434 0).mp c435
                        exact r_vret 200 Rt dX1_takeIndex_200 (z404, z429, z8, r251, z250, z405) (show -257 ≤ (Int32.toInt z8) ∧ (Int32.toInt z8) ≤ 65535 from ⟨(iv_eq ⟨p6, p7⟩ tz8).1, (iv_eq ⟨p6, p7⟩ tz8).2⟩) [1, 2, 0] (by decide) rfl (Nat.le_of_ble_eq_true rfl) (Nat.le_of_ble_eq_true rfl)
                      · skip
                        have k437 : ¬ ((Int32.toInt z434) ≤ 0) := fun h_9 => c435 ((fa_le z434 0).mpr h_9)
                        refine r_aload_n 195 2 C dX1_takeIndex_195 rfl ?_
                        refine r_iconst 196 1 C dX1_takeIndex_196 (by decide) ?_
                        refine r_callVv 197 C dX1_takeIndex_197 [] [(h0, .inr (1, [.ref h3, .ref h4, .ref h1, .int z404, .long z429, .long y1, .int z8, .int r251, .long z250, .long z405]))] [(h2, .inl (gB g, 1500, .inl fn0)), (h1, .inr (4, [.ref h2, .int x5]))] (fun sz => c51_X1_wrong l g h0 1 h3 h4 h1 z404 z429 y1 z8 r251 z250 z405 (iv_eq ⟨p6, p7⟩ tz8) sz) gX1_takeIndex_X1_wrong rfl ⟨rfl, rfl⟩ 1 (by decide) ⟨Nat.le_of_ble_eq_true rfl, Nat.le_of_ble_eq_true rfl⟩ 1 rfl rfl [1] [0, 2] rfl rfl (by decide) (by decide) (by decide) rfl rfl (Nat.le_of_ble_eq_true rfl) ⟨Nat.le_of_ble_eq_true rfl, Nat.le_of_ble_eq_true rfl⟩ (fun  z438 w439 => ?_)
                        refine r_ws [(h2, .inl (gB g, 1500, .inl fn0)), (h1, .inr (4, [.ref h2, .int x5])), (h0, .inr (1, [.ref h3, .ref h4, .ref h1, .int z438, .long z429, .long y1, .int z8, .int r251, .long z250, .long z405]))] rfl ?_
                        have gz438 := fb_rng z438
                        exact r_vret 200 Rt dX1_takeIndex_200 (z438, z429, z8, r251, z250, z405) (show -257 ≤ (Int32.toInt z8) ∧ (Int32.toInt z8) ≤ 65535 from ⟨(iv_eq ⟨p6, p7⟩ tz8).1, (iv_eq ⟨p6, p7⟩ tz8).2⟩) [2, 1, 0] (by decide) rfl (Nat.le_of_ble_eq_true rfl) (Nat.le_of_ble_eq_true rfl)
                    · skip
                      have k440 : (Int32.toInt z404) = 0 := (fa_eq z404 0).mp c426
                      refine r_aload_n 112 2 C dX1_takeIndex_112 rfl ?_
                      refine r_aload_n 113 2 C dX1_takeIndex_113 rfl ?_
                      refine r_get 114 C dX1_takeIndex_114 (k := 7) 2 rfl rfl hiX1 (by decide) rfl (mg 3 rfl) (Or.inl rfl) rfl ?_
                      refine r_callVl 117 C dX1_takeIndex_117 [] [(h0, .inr (1, [.ref h3, .ref h4, .ref h1, .int z404, .long z405, .long y1, .int z8, .int r251, .long z250, .long y3])), (h1, .inr (4, [.ref h2, .int x5])), (h2, .inl (gB g, 1500, .inl fn0))] [] (fun sz => c56_X1_takeNumber l g h0 h1 h2 r251 h3 h4 z404 z405 y1 z8 r251 z250 y3 x5 fn0 (iv_eq ⟨p6, p7⟩ tz8) i_x5 sz) gX1_takeIndex_X1_takeNumber rfl ⟨rfl, rfl⟩ 1 (by decide) ⟨Nat.le_of_ble_eq_true rfl, Nat.le_of_ble_eq_true rfl⟩ 2 rfl rfl [2, 0, 1] [] rfl rfl (by decide) (by decide) (by decide) rfl rfl (Nat.le_of_ble_eq_true rfl) ⟨Nat.le_of_ble_eq_true rfl, Nat.le_of_ble_eq_true rfl⟩ (fun r443 u445 w444 => ?_)
                      obtain ⟨z441, z442⟩ := u445
                      refine r_ws [(h0, .inr (1, [.ref h3, .ref h4, .ref h1, .int z441, .long z442, .long y1, .int z8, .int r251, .long z250, .long y3])), (h1, .inr (4, [.ref h2, .int x5])), (h2, .inl (gB g, 1500, .inl fn0))] rfl ?_
                      have gz441 := fb_rng z441
                      have gz442 := fb_rngL z442
                      have gr443 := fb_rngL r443
                      refine r_lstore 120 C dX1_takeIndex_120 [(6, .long r443), (5, .int z402), (3, .long z403), (0, .ref h0), (1, .int x0), (2, .int x1)] (by decide) rfl ?_
                      refine r_aload_n 122 3 C dX1_takeIndex_122 rfl ?_
                      refine r_lload 123 0 C dX1_takeIndex_123 rfl ?_
                      refine r_lload_n 125 2 C dX1_takeIndex_125 rfl ?_
                      obtain ⟨z446, ez446⟩ : ∃ z_9, lg_cmp r443 z403 = z_9 := ⟨_, rfl⟩
                      have l1z446 : (Int32.toInt z446) < 0 ↔ (Int64.toInt r443) < (Int64.toInt z403) := by rw [← ez446]; exact lgI1 r443 z403
                      have l2z446 : 0 < (Int32.toInt z446) ↔ (Int64.toInt z403) < (Int64.toInt r443) := by rw [← ez446]; exact lgI2 r443 z403
                      refine r_lcmp 126 z446 C dX1_takeIndex_126 ez446 ?_
                      refine r_if_lt 127 146 C dX1_takeIndex_127 (by decide) (fun c447 => ?_) (fun c447 => ?_)
                      · skip
                        have k448 : (Int32.toInt z446) < 0 := (fa_lt z446 0).mp c447
                        refine r_iconst 146 0 C dX1_takeIndex_146 (by decide) ?_
                        refine r_callVv 147 C dX1_takeIndex_147 [] [(h0, .inr (1, [.ref h3, .ref h4, .ref h1, .int z441, .long z442, .long y1, .int z8, .int r251, .long z250, .long y3]))] [(h1, .inr (4, [.ref h2, .int x5])), (h2, .inl (gB g, 1500, .inl fn0))] (fun sz => c53_X1_want l g h0 0 h3 h4 h1 z441 z442 y1 z8 r251 z250 y3 (by decide) (iv_eq ⟨p6, p7⟩ tz8) sz) gX1_takeIndex_X1_want rfl ⟨rfl, rfl⟩ 1 (by decide) ⟨Nat.le_of_ble_eq_true rfl, Nat.le_of_ble_eq_true rfl⟩ 0 rfl rfl [0] [1, 2] rfl rfl (by decide) (by decide) (by decide) rfl rfl (Nat.le_of_ble_eq_true rfl) ⟨Nat.le_of_ble_eq_true rfl, Nat.le_of_ble_eq_true rfl⟩ (fun  z449 w450 => ?_)
                        refine r_ws [(h1, .inr (4, [.ref h2, .int x5])), (h2, .inl (gB g, 1500, .inl fn0)), (h0, .inr (1, [.ref h3, .ref h4, .ref h1, .int z449, .long z442, .long y1, .int z8, .int r251, .long z250, .long y3]))] rfl ?_
                        have gz449 := fb_rng z449
                        refine r_lload 150 0 C dX1_takeIndex_150 rfl ?_
                        refine r_lstore_n 152 C dX1_takeIndex_152 [(3, .long r443), (6, .long r443), (5, .int z402), (0, .ref h0), (1, .int x0), (2, .int x1)] (by decide) rfl ?_
                        obtain ⟨z451, ez451⟩ : ∃ z_9, z402 + Int32.ofInt 1 = z_9 := ⟨_, rfl⟩
                        have tz451 : (Int32.toInt z451) = (Int32.toInt z402) + 1 := by rw [← ez451]; exact fb_addIv (a := 0) (b := 65536) (c := 1) (d := 1) ⟨i410a, i410b⟩ ⟨by decide, by decide⟩ (by decide) (by decide)
                        refine r_iinc 153 2 z451 C dX1_takeIndex_153 rfl ez451 [(5, .int z451), (3, .long r443), (6, .long r443), (0, .ref h0), (1, .int x0), (2, .int x1)] (by decide) rfl ?_
                        refine r_goto 156 96 C dX1_takeIndex_156 (by decide) ?_
                        refine r_lv [(5, .int z451), (3, .long r443), (0, .ref h0), (1, .int x0), (2, .int x1)] [0, 1, 3, 4, 5] rfl ?_
                        exact ih408 z451 r443 z449 z442 ⟨by omega, by omega⟩ (by omega)
                      · skip
                        have k452 : ¬ ((Int32.toInt z446) < 0) := fun h_9 => c447 ((fa_lt z446 0).mpr h_9)
                        refine r_iload 130 1 C dX1_takeIndex_130 rfl ?_
                        refine r_if_gt 132 142 C dX1_takeIndex_132 (by decide) (fun c453 => ?_) (fun c453 => ?_)
                        · skip
                          have k454 : 0 < (Int32.toInt z402) := (fa_lt 0 z402).mp c453
                          refine r_iconst 142 1 C dX1_takeIndex_142 (by decide) ?_
                          refine r_goto 143 147 C dX1_takeIndex_143 (by decide) ?_
                          refine r_callVv 147 C dX1_takeIndex_147 [] [(h0, .inr (1, [.ref h3, .ref h4, .ref h1, .int z441, .long z442, .long y1, .int z8, .int r251, .long z250, .long y3]))] [(h1, .inr (4, [.ref h2, .int x5])), (h2, .inl (gB g, 1500, .inl fn0))] (fun sz => c53_X1_want l g h0 1 h3 h4 h1 z441 z442 y1 z8 r251 z250 y3 (by decide) (iv_eq ⟨p6, p7⟩ tz8) sz) gX1_takeIndex_X1_want rfl ⟨rfl, rfl⟩ 1 (by decide) ⟨Nat.le_of_ble_eq_true rfl, Nat.le_of_ble_eq_true rfl⟩ 0 rfl rfl [0] [1, 2] rfl rfl (by decide) (by decide) (by decide) rfl rfl (Nat.le_of_ble_eq_true rfl) ⟨Nat.le_of_ble_eq_true rfl, Nat.le_of_ble_eq_true rfl⟩ (fun  z455 w456 => ?_)
                          refine r_ws [(h1, .inr (4, [.ref h2, .int x5])), (h2, .inl (gB g, 1500, .inl fn0)), (h0, .inr (1, [.ref h3, .ref h4, .ref h1, .int z455, .long z442, .long y1, .int z8, .int r251, .long z250, .long y3]))] rfl ?_
                          have gz455 := fb_rng z455
                          refine r_lload 150 0 C dX1_takeIndex_150 rfl ?_
                          refine r_lstore_n 152 C dX1_takeIndex_152 [(3, .long r443), (6, .long r443), (5, .int z402), (0, .ref h0), (1, .int x0), (2, .int x1)] (by decide) rfl ?_
                          obtain ⟨z457, ez457⟩ : ∃ z_9, z402 + Int32.ofInt 1 = z_9 := ⟨_, rfl⟩
                          have tz457 : (Int32.toInt z457) = (Int32.toInt z402) + 1 := by rw [← ez457]; exact fb_addIv (a := 0) (b := 65536) (c := 1) (d := 1) ⟨i410a, i410b⟩ ⟨by decide, by decide⟩ (by decide) (by decide)
                          refine r_iinc 153 2 z457 C dX1_takeIndex_153 rfl ez457 [(5, .int z457), (3, .long r443), (6, .long r443), (0, .ref h0), (1, .int x0), (2, .int x1)] (by decide) rfl ?_
                          refine r_goto 156 96 C dX1_takeIndex_156 (by decide) ?_
                          refine r_lv [(5, .int z457), (3, .long r443), (0, .ref h0), (1, .int x0), (2, .int x1)] [0, 1, 3, 4, 5] rfl ?_
                          exact ih408 z457 r443 z455 z442 ⟨by omega, by omega⟩ (by omega)
                        · skip
                          have k458 : ¬ (0 < (Int32.toInt z402)) := fun h_9 => c453 ((fa_lt 0 z402).mpr h_9)
                          refine r_lload 135 0 C dX1_takeIndex_135 rfl ?_
                          refine r_lconst 137 1 C dX1_takeIndex_137 (by decide) ?_
                          obtain ⟨z459, ez459⟩ : ∃ z_9, lg_cmp r443 1 = z_9 := ⟨_, rfl⟩
                          have l1z459 : (Int32.toInt z459) < 0 ↔ (Int64.toInt r443) < 1 := by rw [← ez459]; exact lgI1 r443 1
                          have l2z459 : 0 < (Int32.toInt z459) ↔ 1 < (Int64.toInt r443) := by rw [← ez459]; exact lgI2 r443 1
                          refine r_lcmp 138 z459 C dX1_takeIndex_138 ez459 ?_
                          refine r_if_ne 139 146 C dX1_takeIndex_139 (by decide) (fun c460 => ?_) (fun c460 => ?_)
                          · skip
                            have k461 : ¬ ((Int32.toInt z459) = 0) := fun h_9 => c460 ((fa_eq z459 0).mpr h_9)
                            refine r_iconst 146 0 C dX1_takeIndex_146 (by decide) ?_
                            refine r_callVv 147 C dX1_takeIndex_147 [] [(h0, .inr (1, [.ref h3, .ref h4, .ref h1, .int z441, .long z442, .long y1, .int z8, .int r251, .long z250, .long y3]))] [(h1, .inr (4, [.ref h2, .int x5])), (h2, .inl (gB g, 1500, .inl fn0))] (fun sz => c53_X1_want l g h0 0 h3 h4 h1 z441 z442 y1 z8 r251 z250 y3 (by decide) (iv_eq ⟨p6, p7⟩ tz8) sz) gX1_takeIndex_X1_want rfl ⟨rfl, rfl⟩ 1 (by decide) ⟨Nat.le_of_ble_eq_true rfl, Nat.le_of_ble_eq_true rfl⟩ 0 rfl rfl [0] [1, 2] rfl rfl (by decide) (by decide) (by decide) rfl rfl (Nat.le_of_ble_eq_true rfl) ⟨Nat.le_of_ble_eq_true rfl, Nat.le_of_ble_eq_true rfl⟩ (fun  z462 w463 => ?_)
                            refine r_ws [(h1, .inr (4, [.ref h2, .int x5])), (h2, .inl (gB g, 1500, .inl fn0)), (h0, .inr (1, [.ref h3, .ref h4, .ref h1, .int z462, .long z442, .long y1, .int z8, .int r251, .long z250, .long y3]))] rfl ?_
                            have gz462 := fb_rng z462
                            refine r_lload 150 0 C dX1_takeIndex_150 rfl ?_
                            refine r_lstore_n 152 C dX1_takeIndex_152 [(3, .long r443), (6, .long r443), (5, .int z402), (0, .ref h0), (1, .int x0), (2, .int x1)] (by decide) rfl ?_
                            obtain ⟨z464, ez464⟩ : ∃ z_9, z402 + Int32.ofInt 1 = z_9 := ⟨_, rfl⟩
                            have tz464 : (Int32.toInt z464) = (Int32.toInt z402) + 1 := by rw [← ez464]; exact fb_addIv (a := 0) (b := 65536) (c := 1) (d := 1) ⟨i410a, i410b⟩ ⟨by decide, by decide⟩ (by decide) (by decide)
                            refine r_iinc 153 2 z464 C dX1_takeIndex_153 rfl ez464 [(5, .int z464), (3, .long r443), (6, .long r443), (0, .ref h0), (1, .int x0), (2, .int x1)] (by decide) rfl ?_
                            refine r_goto 156 96 C dX1_takeIndex_156 (by decide) ?_
                            refine r_lv [(5, .int z464), (3, .long r443), (0, .ref h0), (1, .int x0), (2, .int x1)] [0, 1, 3, 4, 5] rfl ?_
                            exact ih408 z464 r443 z462 z442 ⟨by omega, by omega⟩ (by omega)
                          · skip
                            have k465 : (Int32.toInt z459) = 0 := (fa_eq z459 0).mp c460
                            refine r_iconst 142 1 C dX1_takeIndex_142 (by decide) ?_
                            refine r_goto 143 147 C dX1_takeIndex_143 (by decide) ?_
                            refine r_callVv 147 C dX1_takeIndex_147 [] [(h0, .inr (1, [.ref h3, .ref h4, .ref h1, .int z441, .long z442, .long y1, .int z8, .int r251, .long z250, .long y3]))] [(h1, .inr (4, [.ref h2, .int x5])), (h2, .inl (gB g, 1500, .inl fn0))] (fun sz => c53_X1_want l g h0 1 h3 h4 h1 z441 z442 y1 z8 r251 z250 y3 (by decide) (iv_eq ⟨p6, p7⟩ tz8) sz) gX1_takeIndex_X1_want rfl ⟨rfl, rfl⟩ 1 (by decide) ⟨Nat.le_of_ble_eq_true rfl, Nat.le_of_ble_eq_true rfl⟩ 0 rfl rfl [0] [1, 2] rfl rfl (by decide) (by decide) (by decide) rfl rfl (Nat.le_of_ble_eq_true rfl) ⟨Nat.le_of_ble_eq_true rfl, Nat.le_of_ble_eq_true rfl⟩ (fun  z466 w467 => ?_)
                            refine r_ws [(h1, .inr (4, [.ref h2, .int x5])), (h2, .inl (gB g, 1500, .inl fn0)), (h0, .inr (1, [.ref h3, .ref h4, .ref h1, .int z466, .long z442, .long y1, .int z8, .int r251, .long z250, .long y3]))] rfl ?_
                            have gz466 := fb_rng z466
                            refine r_lload 150 0 C dX1_takeIndex_150 rfl ?_
                            refine r_lstore_n 152 C dX1_takeIndex_152 [(3, .long r443), (6, .long r443), (5, .int z402), (0, .ref h0), (1, .int x0), (2, .int x1)] (by decide) rfl ?_
                            obtain ⟨z468, ez468⟩ : ∃ z_9, z402 + Int32.ofInt 1 = z_9 := ⟨_, rfl⟩
                            have tz468 : (Int32.toInt z468) = (Int32.toInt z402) + 1 := by rw [← ez468]; exact fb_addIv (a := 0) (b := 65536) (c := 1) (d := 1) ⟨i410a, i410b⟩ ⟨by decide, by decide⟩ (by decide) (by decide)
                            refine r_iinc 153 2 z468 C dX1_takeIndex_153 rfl ez468 [(5, .int z468), (3, .long r443), (6, .long r443), (0, .ref h0), (1, .int x0), (2, .int x1)] (by decide) rfl ?_
                            refine r_goto 156 96 C dX1_takeIndex_156 (by decide) ?_
                            refine r_lv [(5, .int z468), (3, .long r443), (0, .ref h0), (1, .int x0), (2, .int x1)] [0, 1, 3, 4, 5] rfl ?_
                            exact ih408 z468 r443 z466 z442 ⟨by omega, by omega⟩ (by omega)
              exact lp407 _ 0 1 z400 z250 (by decide) (Nat.lt_succ_self _)
        · skip
          have k469 : (Int32.toInt z8) = 0 := (fa_eq z8 0).mp c247
          exact r_vret 49 Rt dX1_takeIndex_49 (z242, z2, z8, x4, y2, y3) (show -257 ≤ (Int32.toInt z8) ∧ (Int32.toInt z8) ≤ 65535 from ⟨(iv_eq ⟨p6, p7⟩ tz8).1, (iv_eq ⟨p6, p7⟩ tz8).2⟩) [2, 0, 1] (by decide) rfl (Nat.le_of_ble_eq_true rfl) (Nat.le_of_ble_eq_true rfl)
    · skip
      have k470 : ¬ ((Int32.toInt x1) < (Int32.toInt z8)) := fun h_9 => c240 ((fa_lt x1 z8).mpr h_9)
      refine r_iconst 27 1 C dX1_takeIndex_27 (by decide) ?_
      refine r_goto 28 32 C dX1_takeIndex_28 (by decide) ?_
      refine r_callVv 32 C dX1_takeIndex_32 [] [(h0, .inr (1, [.ref h3, .ref h4, .ref h1, .int z1, .long z2, .long y1, .int z8, .int x4, .long y2, .long y3]))] [(h1, .inr (4, [.ref h2, .int x5])), (h2, .inl (gB g, 1500, .inl fn0))] (fun sz => c53_X1_want l g h0 1 h3 h4 h1 z1 z2 y1 z8 x4 y2 y3 (by decide) (iv_eq ⟨p6, p7⟩ tz8) sz) gX1_takeIndex_X1_want rfl ⟨rfl, rfl⟩ 1 (by decide) ⟨Nat.le_of_ble_eq_true rfl, Nat.le_of_ble_eq_true rfl⟩ 0 rfl rfl [0] [1, 2] rfl rfl (by decide) (by decide) (by decide) rfl rfl (Nat.le_of_ble_eq_true rfl) ⟨Nat.le_of_ble_eq_true rfl, Nat.le_of_ble_eq_true rfl⟩ (fun  z471 w472 => ?_)
      refine r_ws [(h1, .inr (4, [.ref h2, .int x5])), (h2, .inl (gB g, 1500, .inl fn0)), (h0, .inr (1, [.ref h3, .ref h4, .ref h1, .int z471, .long z2, .long y1, .int z8, .int x4, .long y2, .long y3]))] rfl ?_
      have gz471 := fb_rng z471
      refine r_aload_n 35 0 C dX1_takeIndex_35 rfl ?_
      refine r_get 36 C dX1_takeIndex_36 (k := 3) 2 rfl rfl hiX1 (by decide) rfl (mg 2 rfl) (Or.inl rfl) rfl ?_
      refine r_if_ne 39 49 C dX1_takeIndex_39 (by decide) (fun c473 => ?_) (fun c473 => ?_)
      · skip
        have k474 : ¬ ((Int32.toInt z471) = 0) := fun h_9 => c473 ((fa_eq z471 0).mpr h_9)
        exact r_vret 49 Rt dX1_takeIndex_49 (z471, z2, z8, x4, y2, y3) (show -257 ≤ (Int32.toInt z8) ∧ (Int32.toInt z8) ≤ 65535 from ⟨(iv_eq ⟨p6, p7⟩ tz8).1, (iv_eq ⟨p6, p7⟩ tz8).2⟩) [2, 0, 1] (by decide) rfl (Nat.le_of_ble_eq_true rfl) (Nat.le_of_ble_eq_true rfl)
      · skip
        have k475 : (Int32.toInt z471) = 0 := (fa_eq z471 0).mp c473
        refine r_aload_n 42 0 C dX1_takeIndex_42 rfl ?_
        refine r_get 43 C dX1_takeIndex_43 (k := 6) 2 rfl rfl hiX1 (by decide) rfl (mg 1 rfl) (Or.inl rfl) rfl ?_
        refine r_if_ne 46 50 C dX1_takeIndex_46 (by decide) (fun c476 => ?_) (fun c476 => ?_)
        · skip
          have k477 : ¬ ((Int32.toInt z8) = 0) := fun h_9 => c476 ((fa_eq z8 0).mpr h_9)
          refine r_aload_n 50 0 C dX1_takeIndex_50 rfl ?_
          refine r_aload_n 51 0 C dX1_takeIndex_51 rfl ?_
          refine r_callVi 52 C dX1_takeIndex_52 [.ref h0] [(h0, .inr (1, [.ref h3, .ref h4, .ref h1, .int z471, .long z2, .long y1, .int z8, .int x4, .long y2, .long y3])), (h1, .inr (4, [.ref h2, .int x5])), (h2, .inl (gB g, 1500, .inl fn0))] [] (fun sz => c52_X1_take l g h0 h1 h2 h3 h4 z471 z2 y1 z8 x4 y2 y3 x5 fn0 (iv_eq ⟨p6, p7⟩ tz8) i_x5 sz) gX1_takeIndex_X1_take rfl ⟨rfl, rfl⟩ 0 (by decide) ⟨Nat.le_of_ble_eq_true rfl, Nat.le_of_ble_eq_true rfl⟩ 2 rfl rfl [2, 0, 1] [] rfl rfl (by decide) (by decide) (by decide) rfl rfl (Nat.le_of_ble_eq_true rfl) ⟨Nat.le_of_ble_eq_true rfl, Nat.le_of_ble_eq_true rfl⟩ (fun r480 u482 w481 => ?_)
          obtain ⟨z478, z479⟩ := u482
          refine r_ws [(h0, .inr (1, [.ref h3, .ref h4, .ref h1, .int z478, .long z479, .long y1, .int z8, .int x4, .long y2, .long y3])), (h1, .inr (4, [.ref h2, .int x5])), (h2, .inl (gB g, 1500, .inl fn0))] rfl ?_
          have gz478 := fb_rng z478
          have gz479 := fb_rngL z479
          have p483 : -1 ≤ (Int32.toInt r480) := w481.1
          have p484 : (Int32.toInt r480) ≤ 255 := w481.2
          refine r_put 55 C dX1_takeIndex_55 (k := 7) 0 rfl rfl hiX1 tyX1 tyX1_ok nmX1 (by decide) rfl (mg 3 rfl) (Or.inl rfl) rfl rfl rfl rfl (Nat.le_of_ble_eq_true rfl) [(h0, .inr (1, [.ref h3, .ref h4, .ref h1, .int z478, .long z479, .long y1, .int z8, .int r480, .long y2, .long y3])), (h1, .inr (4, [.ref h2, .int x5])), (h2, .inl (gB g, 1500, .inl fn0))] rfl ?_
          refine r_aload_n 58 0 C dX1_takeIndex_58 rfl ?_
          refine r_aload_n 59 0 C dX1_takeIndex_59 rfl ?_
          refine r_get 60 C dX1_takeIndex_60 (k := 7) 0 rfl rfl hiX1 (by decide) rfl (mg 3 rfl) (Or.inl rfl) rfl ?_
          refine r_iconst 63 1 C dX1_takeIndex_63 (by decide) ?_
          refine r_icmp_lt 64 79 C dX1_takeIndex_64 (by decide) (fun c485 => ?_) (fun c485 => ?_)
          · skip
            have k486 : (Int32.toInt r480) < 1 := (fa_lt r480 1).mp c485
            refine r_iconst 79 0 C dX1_takeIndex_79 (by decide) ?_
            refine r_callVv 80 C dX1_takeIndex_80 [] [(h0, .inr (1, [.ref h3, .ref h4, .ref h1, .int z478, .long z479, .long y1, .int z8, .int r480, .long y2, .long y3]))] [(h1, .inr (4, [.ref h2, .int x5])), (h2, .inl (gB g, 1500, .inl fn0))] (fun sz => c53_X1_want l g h0 0 h3 h4 h1 z478 z479 y1 z8 r480 y2 y3 (by decide) (iv_eq ⟨p6, p7⟩ tz8) sz) gX1_takeIndex_X1_want rfl ⟨rfl, rfl⟩ 1 (by decide) ⟨Nat.le_of_ble_eq_true rfl, Nat.le_of_ble_eq_true rfl⟩ 0 rfl rfl [0] [1, 2] rfl rfl (by decide) (by decide) (by decide) rfl rfl (Nat.le_of_ble_eq_true rfl) ⟨Nat.le_of_ble_eq_true rfl, Nat.le_of_ble_eq_true rfl⟩ (fun  z487 w488 => ?_)
            refine r_ws [(h1, .inr (4, [.ref h2, .int x5])), (h2, .inl (gB g, 1500, .inl fn0)), (h0, .inr (1, [.ref h3, .ref h4, .ref h1, .int z487, .long z479, .long y1, .int z8, .int r480, .long y2, .long y3]))] rfl ?_
            have gz487 := fb_rng z487
            refine r_aload_n 83 0 C dX1_takeIndex_83 rfl ?_
            refine r_aload_n 84 0 C dX1_takeIndex_84 rfl ?_
            refine r_get 85 C dX1_takeIndex_85 (k := 4) 2 rfl rfl hiX1 (by decide) rfl (mg 4 rfl) (Or.inl rfl) rfl ?_
            refine r_put 88 C dX1_takeIndex_88 (k := 8) 2 rfl rfl hiX1 tyX1 tyX1_ok nmX1 (by decide) rfl (mg 5 rfl) (Or.inl rfl) rfl rfl rfl rfl (Nat.le_of_ble_eq_true rfl) [(h1, .inr (4, [.ref h2, .int x5])), (h2, .inl (gB g, 1500, .inl fn0)), (h0, .inr (1, [.ref h3, .ref h4, .ref h1, .int z487, .long z479, .long y1, .int z8, .int r480, .long z479, .long y3]))] rfl ?_
            refine r_lconst 91 1 C dX1_takeIndex_91 (by decide) ?_
            refine r_lstore_n 92 C dX1_takeIndex_92 [(3, .long 1), (0, .ref h0), (1, .int x0), (2, .int x1)] (by decide) rfl ?_
            refine r_iconst 93 0 C dX1_takeIndex_93 (by decide) ?_
            refine r_istore 94 C dX1_takeIndex_94 [(5, .int 0), (3, .long 1), (0, .ref h0), (1, .int x0), (2, .int x1)] (by decide) rfl ?_
            have lp494 : ∀ (n493 : Nat) (z489 : Int32) (z490 : Int64) (z491 : Int32) (z492 : Int64), (0 ≤ (Int32.toInt z489) ∧ (Int32.toInt z489) ≤ 65536) → Int.toNat (65536 - (Int32.toInt z489)) < n493 → WW p l e ({ frames := 3, cells := 0, slots := 0, locals := 67 } : Room) s m args below meth c A Q g 8 0 0 [(h1, .inr (4, [.ref h2, .int x5])), (h2, .inl (gB g, 1500, .inl fn0)), (h0, .inr (1, [.ref h3, .ref h4, .ref h1, .int z491, .long z492, .long y1, .int z8, .int r480, .long z479, .long y3]))] 96 [(5, .int z489), (3, .long z490), (0, .ref h0), (1, .int x0), (2, .int x1)] [] := by
              intro n493
              induction n493 with
              | zero => intro z489 z490 z491 z492 i497 hm496; exact absurd hm496 (Nat.not_lt_zero _)
              | succ n493 ih495 =>
                intro z489 z490 z491 z492 i497 hm496
                obtain ⟨i497a, i497b⟩ := i497
                have gz490 := fb_rngL z490
                have gz491 := fb_rng z491
                have gz492 := fb_rngL z492
                refine r_iload 96 0 C dX1_takeIndex_96 rfl ?_
                refine r_aload_n 98 2 C dX1_takeIndex_98 rfl ?_
                refine r_get 99 C dX1_takeIndex_99 (k := 6) 2 rfl rfl hiX1 (by decide) rfl (mg 1 rfl) (Or.inl rfl) rfl ?_
                refine r_icmp_gt 102 159 C dX1_takeIndex_102 (by decide) (fun c498 => ?_) (fun c498 => ?_)
                · skip
                  have k499 : (Int32.toInt z8) < (Int32.toInt z489) := (fa_lt z8 z489).mp c498
                  refine r_aload_n 159 2 C dX1_takeIndex_159 rfl ?_
                  refine r_aload_n 160 2 C dX1_takeIndex_160 rfl ?_
                  refine r_get 161 C dX1_takeIndex_161 (k := 4) 2 rfl rfl hiX1 (by decide) rfl (mg 4 rfl) (Or.inl rfl) rfl ?_
                  refine r_put 164 C dX1_takeIndex_164 (k := 9) 2 rfl rfl hiX1 tyX1 tyX1_ok nmX1 (by decide) rfl (mg 6 rfl) (Or.inl rfl) rfl rfl rfl rfl (Nat.le_of_ble_eq_true rfl) [(h1, .inr (4, [.ref h2, .int x5])), (h2, .inl (gB g, 1500, .inl fn0)), (h0, .inr (1, [.ref h3, .ref h4, .ref h1, .int z491, .long z492, .long y1, .int z8, .int r480, .long z479, .long z492]))] rfl ?_
                  refine r_aload_n 167 2 C dX1_takeIndex_167 rfl ?_
                  refine r_dup 168 C dX1_takeIndex_168 rfl ?_
                  refine r_get 169 C dX1_takeIndex_169 (k := 4) 2 rfl rfl hiX1 (by decide) rfl (mg 4 rfl) (Or.inl rfl) rfl ?_
                  refine r_lload_n 172 1 C dX1_takeIndex_172 rfl ?_
                  refine r_lconst 173 1 C dX1_takeIndex_173 (by decide) ?_
                  obtain ⟨z500, ez500⟩ : ∃ z_9, z490 - 1 = z_9 := ⟨_, rfl⟩
                  have gz500 := fb_rngL z500
                  refine r_lsub 174 z500 C dX1_takeIndex_174 ez500 ?_
                  obtain ⟨z501, ez501⟩ : ∃ z_9, z492 + z500 = z_9 := ⟨_, rfl⟩
                  have gz501 := fb_rngL z501
                  refine r_ladd 175 z501 C dX1_takeIndex_175 ez501 ?_
                  refine r_put 176 C dX1_takeIndex_176 (k := 4) 2 rfl rfl hiX1 tyX1 tyX1_ok nmX1 (by decide) rfl (mg 4 rfl) (Or.inl rfl) rfl rfl rfl rfl (Nat.le_of_ble_eq_true rfl) [(h1, .inr (4, [.ref h2, .int x5])), (h2, .inl (gB g, 1500, .inl fn0)), (h0, .inr (1, [.ref h3, .ref h4, .ref h1, .int z491, .long z501, .long y1, .int z8, .int r480, .long z479, .long z492]))] rfl ?_
                  refine r_aload_n 179 2 C dX1_takeIndex_179 rfl ?_
                  refine r_get 180 C dX1_takeIndex_180 (k := 4) 2 rfl rfl hiX1 (by decide) rfl (mg 4 rfl) (Or.inl rfl) rfl ?_
                  refine r_aload_n 183 2 C dX1_takeIndex_183 rfl ?_
                  refine r_get 184 C dX1_takeIndex_184 (k := 2) 2 rfl rfl hiX1 (by decide) rfl (mg 7 rfl) (Or.inl rfl) rfl ?_
                  refine r_callVi 187 C dX1_takeIndex_187 [.long z501] [(h1, .inr (4, [.ref h2, .int x5]))] [(h2, .inl (gB g, 1500, .inl fn0)), (h0, .inr (1, [.ref h3, .ref h4, .ref h1, .int z491, .long z501, .long y1, .int z8, .int r480, .long z479, .long z492]))] (fun sz => c0_X5_size l g h1 h2 x5 i_x5 sz) gX1_takeIndex_X5_size rfl ⟨rfl, rfl⟩ 0 (by decide) ⟨Nat.le_of_ble_eq_true rfl, Nat.le_of_ble_eq_true rfl⟩ 0 rfl rfl [0] [1, 2] rfl rfl (by decide) (by decide) (by decide) rfl rfl (Nat.le_of_ble_eq_true rfl) ⟨Nat.le_of_ble_eq_true rfl, Nat.le_of_ble_eq_true rfl⟩ (fun r502 _ w503 => ?_)
                  refine r_ws [(h2, .inl (gB g, 1500, .inl fn0)), (h0, .inr (1, [.ref h3, .ref h4, .ref h1, .int z491, .long z501, .long y1, .int z8, .int r480, .long z479, .long z492])), (h1, .inr (4, [.ref h2, .int x5]))] rfl ?_
                  have p504 : x5 = r502 := (w503).symm
                  subst p504
                  obtain ⟨z505, ez505⟩ : ∃ z_9, Int32.toInt64 x5 = z_9 := ⟨_, rfl⟩
                  have tz505 : (Int64.toInt z505) = (Int32.toInt x5) := by rw [← ez505]; exact Int32.toInt_toInt64 _
                  refine r_i2l 190 z505 C dX1_takeIndex_190 ez505 ?_
                  obtain ⟨z506, ez506⟩ : ∃ z_9, lg_cmp z501 z505 = z_9 := ⟨_, rfl⟩
                  have l1z506 : (Int32.toInt z506) < 0 ↔ (Int64.toInt z501) < (Int64.toInt z505) := by rw [← ez506]; exact lgI1 z501 z505
                  have l2z506 : 0 < (Int32.toInt z506) ↔ (Int64.toInt z505) < (Int64.toInt z501) := by rw [← ez506]; exact lgI2 z501 z505
                  refine r_lcmp 191 z506 C dX1_takeIndex_191 ez506 ?_
                  refine r_if_le 192 200 C dX1_takeIndex_192 (by decide) (fun c507 => ?_) (fun c507 => ?_)
                  · skip
                    have k508 : (Int32.toInt z506) ≤ 0 := (fa_le z506 0).mp c507
                    exact r_vret 200 Rt dX1_takeIndex_200 (z491, z501, z8, r480, z479, z492) (show -257 ≤ (Int32.toInt z8) ∧ (Int32.toInt z8) ≤ 65535 from ⟨(iv_eq ⟨p6, p7⟩ tz8).1, (iv_eq ⟨p6, p7⟩ tz8).2⟩) [1, 2, 0] (by decide) rfl (Nat.le_of_ble_eq_true rfl) (Nat.le_of_ble_eq_true rfl)
                  · skip
                    have k509 : ¬ ((Int32.toInt z506) ≤ 0) := fun h_9 => c507 ((fa_le z506 0).mpr h_9)
                    refine r_aload_n 195 2 C dX1_takeIndex_195 rfl ?_
                    refine r_iconst 196 1 C dX1_takeIndex_196 (by decide) ?_
                    refine r_callVv 197 C dX1_takeIndex_197 [] [(h0, .inr (1, [.ref h3, .ref h4, .ref h1, .int z491, .long z501, .long y1, .int z8, .int r480, .long z479, .long z492]))] [(h2, .inl (gB g, 1500, .inl fn0)), (h1, .inr (4, [.ref h2, .int x5]))] (fun sz => c51_X1_wrong l g h0 1 h3 h4 h1 z491 z501 y1 z8 r480 z479 z492 (iv_eq ⟨p6, p7⟩ tz8) sz) gX1_takeIndex_X1_wrong rfl ⟨rfl, rfl⟩ 1 (by decide) ⟨Nat.le_of_ble_eq_true rfl, Nat.le_of_ble_eq_true rfl⟩ 1 rfl rfl [1] [0, 2] rfl rfl (by decide) (by decide) (by decide) rfl rfl (Nat.le_of_ble_eq_true rfl) ⟨Nat.le_of_ble_eq_true rfl, Nat.le_of_ble_eq_true rfl⟩ (fun  z510 w511 => ?_)
                    refine r_ws [(h2, .inl (gB g, 1500, .inl fn0)), (h1, .inr (4, [.ref h2, .int x5])), (h0, .inr (1, [.ref h3, .ref h4, .ref h1, .int z510, .long z501, .long y1, .int z8, .int r480, .long z479, .long z492]))] rfl ?_
                    have gz510 := fb_rng z510
                    exact r_vret 200 Rt dX1_takeIndex_200 (z510, z501, z8, r480, z479, z492) (show -257 ≤ (Int32.toInt z8) ∧ (Int32.toInt z8) ≤ 65535 from ⟨(iv_eq ⟨p6, p7⟩ tz8).1, (iv_eq ⟨p6, p7⟩ tz8).2⟩) [2, 1, 0] (by decide) rfl (Nat.le_of_ble_eq_true rfl) (Nat.le_of_ble_eq_true rfl)
                · skip
                  have k512 : ¬ ((Int32.toInt z8) < (Int32.toInt z489)) := fun h_9 => c498 ((fa_lt z8 z489).mpr h_9)
                  refine r_aload_n 105 2 C dX1_takeIndex_105 rfl ?_
                  refine r_get 106 C dX1_takeIndex_106 (k := 3) 2 rfl rfl hiX1 (by decide) rfl (mg 2 rfl) (Or.inl rfl) rfl ?_
                  refine r_if_ne 109 159 C dX1_takeIndex_109 (by decide) (fun c513 => ?_) (fun c513 => ?_)
                  · skip
                    have k514 : ¬ ((Int32.toInt z491) = 0) := fun h_9 => c513 ((fa_eq z491 0).mpr h_9)
                    refine r_aload_n 159 2 C dX1_takeIndex_159 rfl ?_
                    refine r_aload_n 160 2 C dX1_takeIndex_160 rfl ?_
                    refine r_get 161 C dX1_takeIndex_161 (k := 4) 2 rfl rfl hiX1 (by decide) rfl (mg 4 rfl) (Or.inl rfl) rfl ?_
                    refine r_put 164 C dX1_takeIndex_164 (k := 9) 2 rfl rfl hiX1 tyX1 tyX1_ok nmX1 (by decide) rfl (mg 6 rfl) (Or.inl rfl) rfl rfl rfl rfl (Nat.le_of_ble_eq_true rfl) [(h1, .inr (4, [.ref h2, .int x5])), (h2, .inl (gB g, 1500, .inl fn0)), (h0, .inr (1, [.ref h3, .ref h4, .ref h1, .int z491, .long z492, .long y1, .int z8, .int r480, .long z479, .long z492]))] rfl ?_
                    refine r_aload_n 167 2 C dX1_takeIndex_167 rfl ?_
                    refine r_dup 168 C dX1_takeIndex_168 rfl ?_
                    refine r_get 169 C dX1_takeIndex_169 (k := 4) 2 rfl rfl hiX1 (by decide) rfl (mg 4 rfl) (Or.inl rfl) rfl ?_
                    refine r_lload_n 172 1 C dX1_takeIndex_172 rfl ?_
                    refine r_lconst 173 1 C dX1_takeIndex_173 (by decide) ?_
                    obtain ⟨z515, ez515⟩ : ∃ z_9, z490 - 1 = z_9 := ⟨_, rfl⟩
                    have gz515 := fb_rngL z515
                    refine r_lsub 174 z515 C dX1_takeIndex_174 ez515 ?_
                    obtain ⟨z516, ez516⟩ : ∃ z_9, z492 + z515 = z_9 := ⟨_, rfl⟩
                    have gz516 := fb_rngL z516
                    refine r_ladd 175 z516 C dX1_takeIndex_175 ez516 ?_
                    refine r_put 176 C dX1_takeIndex_176 (k := 4) 2 rfl rfl hiX1 tyX1 tyX1_ok nmX1 (by decide) rfl (mg 4 rfl) (Or.inl rfl) rfl rfl rfl rfl (Nat.le_of_ble_eq_true rfl) [(h1, .inr (4, [.ref h2, .int x5])), (h2, .inl (gB g, 1500, .inl fn0)), (h0, .inr (1, [.ref h3, .ref h4, .ref h1, .int z491, .long z516, .long y1, .int z8, .int r480, .long z479, .long z492]))] rfl ?_
                    refine r_aload_n 179 2 C dX1_takeIndex_179 rfl ?_
                    refine r_get 180 C dX1_takeIndex_180 (k := 4) 2 rfl rfl hiX1 (by decide) rfl (mg 4 rfl) (Or.inl rfl) rfl ?_
                    refine r_aload_n 183 2 C dX1_takeIndex_183 rfl ?_
                    refine r_get 184 C dX1_takeIndex_184 (k := 2) 2 rfl rfl hiX1 (by decide) rfl (mg 7 rfl) (Or.inl rfl) rfl ?_
                    refine r_callVi 187 C dX1_takeIndex_187 [.long z516] [(h1, .inr (4, [.ref h2, .int x5]))] [(h2, .inl (gB g, 1500, .inl fn0)), (h0, .inr (1, [.ref h3, .ref h4, .ref h1, .int z491, .long z516, .long y1, .int z8, .int r480, .long z479, .long z492]))] (fun sz => c0_X5_size l g h1 h2 x5 i_x5 sz) gX1_takeIndex_X5_size rfl ⟨rfl, rfl⟩ 0 (by decide) ⟨Nat.le_of_ble_eq_true rfl, Nat.le_of_ble_eq_true rfl⟩ 0 rfl rfl [0] [1, 2] rfl rfl (by decide) (by decide) (by decide) rfl rfl (Nat.le_of_ble_eq_true rfl) ⟨Nat.le_of_ble_eq_true rfl, Nat.le_of_ble_eq_true rfl⟩ (fun r517 _ w518 => ?_)
                    refine r_ws [(h2, .inl (gB g, 1500, .inl fn0)), (h0, .inr (1, [.ref h3, .ref h4, .ref h1, .int z491, .long z516, .long y1, .int z8, .int r480, .long z479, .long z492])), (h1, .inr (4, [.ref h2, .int x5]))] rfl ?_
                    have p519 : x5 = r517 := (w518).symm
                    subst p519
                    obtain ⟨z520, ez520⟩ : ∃ z_9, Int32.toInt64 x5 = z_9 := ⟨_, rfl⟩
                    have tz520 : (Int64.toInt z520) = (Int32.toInt x5) := by rw [← ez520]; exact Int32.toInt_toInt64 _
                    refine r_i2l 190 z520 C dX1_takeIndex_190 ez520 ?_
                    obtain ⟨z521, ez521⟩ : ∃ z_9, lg_cmp z516 z520 = z_9 := ⟨_, rfl⟩
                    have l1z521 : (Int32.toInt z521) < 0 ↔ (Int64.toInt z516) < (Int64.toInt z520) := by rw [← ez521]; exact lgI1 z516 z520
                    have l2z521 : 0 < (Int32.toInt z521) ↔ (Int64.toInt z520) < (Int64.toInt z516) := by rw [← ez521]; exact lgI2 z516 z520
                    refine r_lcmp 191 z521 C dX1_takeIndex_191 ez521 ?_
                    refine r_if_le 192 200 C dX1_takeIndex_192 (by decide) (fun c522 => ?_) (fun c522 => ?_)
                    · skip
                      have k523 : (Int32.toInt z521) ≤ 0 := (fa_le z521 0).mp c522
                      exact r_vret 200 Rt dX1_takeIndex_200 (z491, z516, z8, r480, z479, z492) (show -257 ≤ (Int32.toInt z8) ∧ (Int32.toInt z8) ≤ 65535 from ⟨(iv_eq ⟨p6, p7⟩ tz8).1, (iv_eq ⟨p6, p7⟩ tz8).2⟩) [1, 2, 0] (by decide) rfl (Nat.le_of_ble_eq_true rfl) (Nat.le_of_ble_eq_true rfl)
                    · skip
                      have k524 : ¬ ((Int32.toInt z521) ≤ 0) := fun h_9 => c522 ((fa_le z521 0).mpr h_9)
                      refine r_aload_n 195 2 C dX1_takeIndex_195 rfl ?_
                      refine r_iconst 196 1 C dX1_takeIndex_196 (by decide) ?_
                      refine r_callVv 197 C dX1_takeIndex_197 [] [(h0, .inr (1, [.ref h3, .ref h4, .ref h1, .int z491, .long z516, .long y1, .int z8, .int r480, .long z479, .long z492]))] [(h2, .inl (gB g, 1500, .inl fn0)), (h1, .inr (4, [.ref h2, .int x5]))] (fun sz => c51_X1_wrong l g h0 1 h3 h4 h1 z491 z516 y1 z8 r480 z479 z492 (iv_eq ⟨p6, p7⟩ tz8) sz) gX1_takeIndex_X1_wrong rfl ⟨rfl, rfl⟩ 1 (by decide) ⟨Nat.le_of_ble_eq_true rfl, Nat.le_of_ble_eq_true rfl⟩ 1 rfl rfl [1] [0, 2] rfl rfl (by decide) (by decide) (by decide) rfl rfl (Nat.le_of_ble_eq_true rfl) ⟨Nat.le_of_ble_eq_true rfl, Nat.le_of_ble_eq_true rfl⟩ (fun  z525 w526 => ?_)
                      refine r_ws [(h2, .inl (gB g, 1500, .inl fn0)), (h1, .inr (4, [.ref h2, .int x5])), (h0, .inr (1, [.ref h3, .ref h4, .ref h1, .int z525, .long z516, .long y1, .int z8, .int r480, .long z479, .long z492]))] rfl ?_
                      have gz525 := fb_rng z525
                      exact r_vret 200 Rt dX1_takeIndex_200 (z525, z516, z8, r480, z479, z492) (show -257 ≤ (Int32.toInt z8) ∧ (Int32.toInt z8) ≤ 65535 from ⟨(iv_eq ⟨p6, p7⟩ tz8).1, (iv_eq ⟨p6, p7⟩ tz8).2⟩) [2, 1, 0] (by decide) rfl (Nat.le_of_ble_eq_true rfl) (Nat.le_of_ble_eq_true rfl)
                  · skip
                    have k527 : (Int32.toInt z491) = 0 := (fa_eq z491 0).mp c513
                    refine r_aload_n 112 2 C dX1_takeIndex_112 rfl ?_
                    refine r_aload_n 113 2 C dX1_takeIndex_113 rfl ?_
                    refine r_get 114 C dX1_takeIndex_114 (k := 7) 2 rfl rfl hiX1 (by decide) rfl (mg 3 rfl) (Or.inl rfl) rfl ?_
                    refine r_callVl 117 C dX1_takeIndex_117 [] [(h0, .inr (1, [.ref h3, .ref h4, .ref h1, .int z491, .long z492, .long y1, .int z8, .int r480, .long z479, .long y3])), (h1, .inr (4, [.ref h2, .int x5])), (h2, .inl (gB g, 1500, .inl fn0))] [] (fun sz => c56_X1_takeNumber l g h0 h1 h2 r480 h3 h4 z491 z492 y1 z8 r480 z479 y3 x5 fn0 (iv_eq ⟨p6, p7⟩ tz8) i_x5 sz) gX1_takeIndex_X1_takeNumber rfl ⟨rfl, rfl⟩ 1 (by decide) ⟨Nat.le_of_ble_eq_true rfl, Nat.le_of_ble_eq_true rfl⟩ 2 rfl rfl [2, 0, 1] [] rfl rfl (by decide) (by decide) (by decide) rfl rfl (Nat.le_of_ble_eq_true rfl) ⟨Nat.le_of_ble_eq_true rfl, Nat.le_of_ble_eq_true rfl⟩ (fun r530 u532 w531 => ?_)
                    obtain ⟨z528, z529⟩ := u532
                    refine r_ws [(h0, .inr (1, [.ref h3, .ref h4, .ref h1, .int z528, .long z529, .long y1, .int z8, .int r480, .long z479, .long y3])), (h1, .inr (4, [.ref h2, .int x5])), (h2, .inl (gB g, 1500, .inl fn0))] rfl ?_
                    have gz528 := fb_rng z528
                    have gz529 := fb_rngL z529
                    have gr530 := fb_rngL r530
                    refine r_lstore 120 C dX1_takeIndex_120 [(6, .long r530), (5, .int z489), (3, .long z490), (0, .ref h0), (1, .int x0), (2, .int x1)] (by decide) rfl ?_
                    refine r_aload_n 122 3 C dX1_takeIndex_122 rfl ?_
                    refine r_lload 123 0 C dX1_takeIndex_123 rfl ?_
                    refine r_lload_n 125 2 C dX1_takeIndex_125 rfl ?_
                    obtain ⟨z533, ez533⟩ : ∃ z_9, lg_cmp r530 z490 = z_9 := ⟨_, rfl⟩
                    have l1z533 : (Int32.toInt z533) < 0 ↔ (Int64.toInt r530) < (Int64.toInt z490) := by rw [← ez533]; exact lgI1 r530 z490
                    have l2z533 : 0 < (Int32.toInt z533) ↔ (Int64.toInt z490) < (Int64.toInt r530) := by rw [← ez533]; exact lgI2 r530 z490
                    refine r_lcmp 126 z533 C dX1_takeIndex_126 ez533 ?_
                    refine r_if_lt 127 146 C dX1_takeIndex_127 (by decide) (fun c534 => ?_) (fun c534 => ?_)
                    · skip
                      have k535 : (Int32.toInt z533) < 0 := (fa_lt z533 0).mp c534
                      refine r_iconst 146 0 C dX1_takeIndex_146 (by decide) ?_
                      refine r_callVv 147 C dX1_takeIndex_147 [] [(h0, .inr (1, [.ref h3, .ref h4, .ref h1, .int z528, .long z529, .long y1, .int z8, .int r480, .long z479, .long y3]))] [(h1, .inr (4, [.ref h2, .int x5])), (h2, .inl (gB g, 1500, .inl fn0))] (fun sz => c53_X1_want l g h0 0 h3 h4 h1 z528 z529 y1 z8 r480 z479 y3 (by decide) (iv_eq ⟨p6, p7⟩ tz8) sz) gX1_takeIndex_X1_want rfl ⟨rfl, rfl⟩ 1 (by decide) ⟨Nat.le_of_ble_eq_true rfl, Nat.le_of_ble_eq_true rfl⟩ 0 rfl rfl [0] [1, 2] rfl rfl (by decide) (by decide) (by decide) rfl rfl (Nat.le_of_ble_eq_true rfl) ⟨Nat.le_of_ble_eq_true rfl, Nat.le_of_ble_eq_true rfl⟩ (fun  z536 w537 => ?_)
                      refine r_ws [(h1, .inr (4, [.ref h2, .int x5])), (h2, .inl (gB g, 1500, .inl fn0)), (h0, .inr (1, [.ref h3, .ref h4, .ref h1, .int z536, .long z529, .long y1, .int z8, .int r480, .long z479, .long y3]))] rfl ?_
                      have gz536 := fb_rng z536
                      refine r_lload 150 0 C dX1_takeIndex_150 rfl ?_
                      refine r_lstore_n 152 C dX1_takeIndex_152 [(3, .long r530), (6, .long r530), (5, .int z489), (0, .ref h0), (1, .int x0), (2, .int x1)] (by decide) rfl ?_
                      obtain ⟨z538, ez538⟩ : ∃ z_9, z489 + Int32.ofInt 1 = z_9 := ⟨_, rfl⟩
                      have tz538 : (Int32.toInt z538) = (Int32.toInt z489) + 1 := by rw [← ez538]; exact fb_addIv (a := 0) (b := 65536) (c := 1) (d := 1) ⟨i497a, i497b⟩ ⟨by decide, by decide⟩ (by decide) (by decide)
                      refine r_iinc 153 2 z538 C dX1_takeIndex_153 rfl ez538 [(5, .int z538), (3, .long r530), (6, .long r530), (0, .ref h0), (1, .int x0), (2, .int x1)] (by decide) rfl ?_
                      refine r_goto 156 96 C dX1_takeIndex_156 (by decide) ?_
                      refine r_lv [(5, .int z538), (3, .long r530), (0, .ref h0), (1, .int x0), (2, .int x1)] [0, 1, 3, 4, 5] rfl ?_
                      exact ih495 z538 r530 z536 z529 ⟨by omega, by omega⟩ (by omega)
                    · skip
                      have k539 : ¬ ((Int32.toInt z533) < 0) := fun h_9 => c534 ((fa_lt z533 0).mpr h_9)
                      refine r_iload 130 1 C dX1_takeIndex_130 rfl ?_
                      refine r_if_gt 132 142 C dX1_takeIndex_132 (by decide) (fun c540 => ?_) (fun c540 => ?_)
                      · skip
                        have k541 : 0 < (Int32.toInt z489) := (fa_lt 0 z489).mp c540
                        refine r_iconst 142 1 C dX1_takeIndex_142 (by decide) ?_
                        refine r_goto 143 147 C dX1_takeIndex_143 (by decide) ?_
                        refine r_callVv 147 C dX1_takeIndex_147 [] [(h0, .inr (1, [.ref h3, .ref h4, .ref h1, .int z528, .long z529, .long y1, .int z8, .int r480, .long z479, .long y3]))] [(h1, .inr (4, [.ref h2, .int x5])), (h2, .inl (gB g, 1500, .inl fn0))] (fun sz => c53_X1_want l g h0 1 h3 h4 h1 z528 z529 y1 z8 r480 z479 y3 (by decide) (iv_eq ⟨p6, p7⟩ tz8) sz) gX1_takeIndex_X1_want rfl ⟨rfl, rfl⟩ 1 (by decide) ⟨Nat.le_of_ble_eq_true rfl, Nat.le_of_ble_eq_true rfl⟩ 0 rfl rfl [0] [1, 2] rfl rfl (by decide) (by decide) (by decide) rfl rfl (Nat.le_of_ble_eq_true rfl) ⟨Nat.le_of_ble_eq_true rfl, Nat.le_of_ble_eq_true rfl⟩ (fun  z542 w543 => ?_)
                        refine r_ws [(h1, .inr (4, [.ref h2, .int x5])), (h2, .inl (gB g, 1500, .inl fn0)), (h0, .inr (1, [.ref h3, .ref h4, .ref h1, .int z542, .long z529, .long y1, .int z8, .int r480, .long z479, .long y3]))] rfl ?_
                        have gz542 := fb_rng z542
                        refine r_lload 150 0 C dX1_takeIndex_150 rfl ?_
                        refine r_lstore_n 152 C dX1_takeIndex_152 [(3, .long r530), (6, .long r530), (5, .int z489), (0, .ref h0), (1, .int x0), (2, .int x1)] (by decide) rfl ?_
                        obtain ⟨z544, ez544⟩ : ∃ z_9, z489 + Int32.ofInt 1 = z_9 := ⟨_, rfl⟩
                        have tz544 : (Int32.toInt z544) = (Int32.toInt z489) + 1 := by rw [← ez544]; exact fb_addIv (a := 0) (b := 65536) (c := 1) (d := 1) ⟨i497a, i497b⟩ ⟨by decide, by decide⟩ (by decide) (by decide)
                        refine r_iinc 153 2 z544 C dX1_takeIndex_153 rfl ez544 [(5, .int z544), (3, .long r530), (6, .long r530), (0, .ref h0), (1, .int x0), (2, .int x1)] (by decide) rfl ?_
                        refine r_goto 156 96 C dX1_takeIndex_156 (by decide) ?_
                        refine r_lv [(5, .int z544), (3, .long r530), (0, .ref h0), (1, .int x0), (2, .int x1)] [0, 1, 3, 4, 5] rfl ?_
                        exact ih495 z544 r530 z542 z529 ⟨by omega, by omega⟩ (by omega)
                      · skip
                        have k545 : ¬ (0 < (Int32.toInt z489)) := fun h_9 => c540 ((fa_lt 0 z489).mpr h_9)
                        refine r_lload 135 0 C dX1_takeIndex_135 rfl ?_
                        refine r_lconst 137 1 C dX1_takeIndex_137 (by decide) ?_
                        obtain ⟨z546, ez546⟩ : ∃ z_9, lg_cmp r530 1 = z_9 := ⟨_, rfl⟩
                        have l1z546 : (Int32.toInt z546) < 0 ↔ (Int64.toInt r530) < 1 := by rw [← ez546]; exact lgI1 r530 1
                        have l2z546 : 0 < (Int32.toInt z546) ↔ 1 < (Int64.toInt r530) := by rw [← ez546]; exact lgI2 r530 1
                        refine r_lcmp 138 z546 C dX1_takeIndex_138 ez546 ?_
                        refine r_if_ne 139 146 C dX1_takeIndex_139 (by decide) (fun c547 => ?_) (fun c547 => ?_)
                        · skip
                          have k548 : ¬ ((Int32.toInt z546) = 0) := fun h_9 => c547 ((fa_eq z546 0).mpr h_9)
                          refine r_iconst 146 0 C dX1_takeIndex_146 (by decide) ?_
                          refine r_callVv 147 C dX1_takeIndex_147 [] [(h0, .inr (1, [.ref h3, .ref h4, .ref h1, .int z528, .long z529, .long y1, .int z8, .int r480, .long z479, .long y3]))] [(h1, .inr (4, [.ref h2, .int x5])), (h2, .inl (gB g, 1500, .inl fn0))] (fun sz => c53_X1_want l g h0 0 h3 h4 h1 z528 z529 y1 z8 r480 z479 y3 (by decide) (iv_eq ⟨p6, p7⟩ tz8) sz) gX1_takeIndex_X1_want rfl ⟨rfl, rfl⟩ 1 (by decide) ⟨Nat.le_of_ble_eq_true rfl, Nat.le_of_ble_eq_true rfl⟩ 0 rfl rfl [0] [1, 2] rfl rfl (by decide) (by decide) (by decide) rfl rfl (Nat.le_of_ble_eq_true rfl) ⟨Nat.le_of_ble_eq_true rfl, Nat.le_of_ble_eq_true rfl⟩ (fun  z549 w550 => ?_)
                          refine r_ws [(h1, .inr (4, [.ref h2, .int x5])), (h2, .inl (gB g, 1500, .inl fn0)), (h0, .inr (1, [.ref h3, .ref h4, .ref h1, .int z549, .long z529, .long y1, .int z8, .int r480, .long z479, .long y3]))] rfl ?_
                          have gz549 := fb_rng z549
                          refine r_lload 150 0 C dX1_takeIndex_150 rfl ?_
                          refine r_lstore_n 152 C dX1_takeIndex_152 [(3, .long r530), (6, .long r530), (5, .int z489), (0, .ref h0), (1, .int x0), (2, .int x1)] (by decide) rfl ?_
                          obtain ⟨z551, ez551⟩ : ∃ z_9, z489 + Int32.ofInt 1 = z_9 := ⟨_, rfl⟩
                          have tz551 : (Int32.toInt z551) = (Int32.toInt z489) + 1 := by rw [← ez551]; exact fb_addIv (a := 0) (b := 65536) (c := 1) (d := 1) ⟨i497a, i497b⟩ ⟨by decide, by decide⟩ (by decide) (by decide)
                          refine r_iinc 153 2 z551 C dX1_takeIndex_153 rfl ez551 [(5, .int z551), (3, .long r530), (6, .long r530), (0, .ref h0), (1, .int x0), (2, .int x1)] (by decide) rfl ?_
                          refine r_goto 156 96 C dX1_takeIndex_156 (by decide) ?_
                          refine r_lv [(5, .int z551), (3, .long r530), (0, .ref h0), (1, .int x0), (2, .int x1)] [0, 1, 3, 4, 5] rfl ?_
                          exact ih495 z551 r530 z549 z529 ⟨by omega, by omega⟩ (by omega)
                        · skip
                          have k552 : (Int32.toInt z546) = 0 := (fa_eq z546 0).mp c547
                          refine r_iconst 142 1 C dX1_takeIndex_142 (by decide) ?_
                          refine r_goto 143 147 C dX1_takeIndex_143 (by decide) ?_
                          refine r_callVv 147 C dX1_takeIndex_147 [] [(h0, .inr (1, [.ref h3, .ref h4, .ref h1, .int z528, .long z529, .long y1, .int z8, .int r480, .long z479, .long y3]))] [(h1, .inr (4, [.ref h2, .int x5])), (h2, .inl (gB g, 1500, .inl fn0))] (fun sz => c53_X1_want l g h0 1 h3 h4 h1 z528 z529 y1 z8 r480 z479 y3 (by decide) (iv_eq ⟨p6, p7⟩ tz8) sz) gX1_takeIndex_X1_want rfl ⟨rfl, rfl⟩ 1 (by decide) ⟨Nat.le_of_ble_eq_true rfl, Nat.le_of_ble_eq_true rfl⟩ 0 rfl rfl [0] [1, 2] rfl rfl (by decide) (by decide) (by decide) rfl rfl (Nat.le_of_ble_eq_true rfl) ⟨Nat.le_of_ble_eq_true rfl, Nat.le_of_ble_eq_true rfl⟩ (fun  z553 w554 => ?_)
                          refine r_ws [(h1, .inr (4, [.ref h2, .int x5])), (h2, .inl (gB g, 1500, .inl fn0)), (h0, .inr (1, [.ref h3, .ref h4, .ref h1, .int z553, .long z529, .long y1, .int z8, .int r480, .long z479, .long y3]))] rfl ?_
                          have gz553 := fb_rng z553
                          refine r_lload 150 0 C dX1_takeIndex_150 rfl ?_
                          refine r_lstore_n 152 C dX1_takeIndex_152 [(3, .long r530), (6, .long r530), (5, .int z489), (0, .ref h0), (1, .int x0), (2, .int x1)] (by decide) rfl ?_
                          obtain ⟨z555, ez555⟩ : ∃ z_9, z489 + Int32.ofInt 1 = z_9 := ⟨_, rfl⟩
                          have tz555 : (Int32.toInt z555) = (Int32.toInt z489) + 1 := by rw [← ez555]; exact fb_addIv (a := 0) (b := 65536) (c := 1) (d := 1) ⟨i497a, i497b⟩ ⟨by decide, by decide⟩ (by decide) (by decide)
                          refine r_iinc 153 2 z555 C dX1_takeIndex_153 rfl ez555 [(5, .int z555), (3, .long r530), (6, .long r530), (0, .ref h0), (1, .int x0), (2, .int x1)] (by decide) rfl ?_
                          refine r_goto 156 96 C dX1_takeIndex_156 (by decide) ?_
                          refine r_lv [(5, .int z555), (3, .long r530), (0, .ref h0), (1, .int x0), (2, .int x1)] [0, 1, 3, 4, 5] rfl ?_
                          exact ih495 z555 r530 z553 z529 ⟨by omega, by omega⟩ (by omega)
            exact lp494 _ 0 1 z487 z479 (by decide) (Nat.lt_succ_self _)
          · skip
            have k556 : ¬ ((Int32.toInt r480) < 1) := fun h_9 => c485 ((fa_lt r480 1).mpr h_9)
            refine r_aload_n 67 0 C dX1_takeIndex_67 rfl ?_
            refine r_get 68 C dX1_takeIndex_68 (k := 7) 0 rfl rfl hiX1 (by decide) rfl (mg 3 rfl) (Or.inl rfl) rfl ?_
            refine r_iconst 71 4 C dX1_takeIndex_71 (by decide) ?_
            refine r_icmp_gt 72 79 C dX1_takeIndex_72 (by decide) (fun c557 => ?_) (fun c557 => ?_)
            · skip
              have k558 : 4 < (Int32.toInt r480) := (fa_lt 4 r480).mp c557
              refine r_iconst 79 0 C dX1_takeIndex_79 (by decide) ?_
              refine r_callVv 80 C dX1_takeIndex_80 [] [(h0, .inr (1, [.ref h3, .ref h4, .ref h1, .int z478, .long z479, .long y1, .int z8, .int r480, .long y2, .long y3]))] [(h1, .inr (4, [.ref h2, .int x5])), (h2, .inl (gB g, 1500, .inl fn0))] (fun sz => c53_X1_want l g h0 0 h3 h4 h1 z478 z479 y1 z8 r480 y2 y3 (by decide) (iv_eq ⟨p6, p7⟩ tz8) sz) gX1_takeIndex_X1_want rfl ⟨rfl, rfl⟩ 1 (by decide) ⟨Nat.le_of_ble_eq_true rfl, Nat.le_of_ble_eq_true rfl⟩ 0 rfl rfl [0] [1, 2] rfl rfl (by decide) (by decide) (by decide) rfl rfl (Nat.le_of_ble_eq_true rfl) ⟨Nat.le_of_ble_eq_true rfl, Nat.le_of_ble_eq_true rfl⟩ (fun  z559 w560 => ?_)
              refine r_ws [(h1, .inr (4, [.ref h2, .int x5])), (h2, .inl (gB g, 1500, .inl fn0)), (h0, .inr (1, [.ref h3, .ref h4, .ref h1, .int z559, .long z479, .long y1, .int z8, .int r480, .long y2, .long y3]))] rfl ?_
              have gz559 := fb_rng z559
              refine r_aload_n 83 0 C dX1_takeIndex_83 rfl ?_
              refine r_aload_n 84 0 C dX1_takeIndex_84 rfl ?_
              refine r_get 85 C dX1_takeIndex_85 (k := 4) 2 rfl rfl hiX1 (by decide) rfl (mg 4 rfl) (Or.inl rfl) rfl ?_
              refine r_put 88 C dX1_takeIndex_88 (k := 8) 2 rfl rfl hiX1 tyX1 tyX1_ok nmX1 (by decide) rfl (mg 5 rfl) (Or.inl rfl) rfl rfl rfl rfl (Nat.le_of_ble_eq_true rfl) [(h1, .inr (4, [.ref h2, .int x5])), (h2, .inl (gB g, 1500, .inl fn0)), (h0, .inr (1, [.ref h3, .ref h4, .ref h1, .int z559, .long z479, .long y1, .int z8, .int r480, .long z479, .long y3]))] rfl ?_
              refine r_lconst 91 1 C dX1_takeIndex_91 (by decide) ?_
              refine r_lstore_n 92 C dX1_takeIndex_92 [(3, .long 1), (0, .ref h0), (1, .int x0), (2, .int x1)] (by decide) rfl ?_
              refine r_iconst 93 0 C dX1_takeIndex_93 (by decide) ?_
              refine r_istore 94 C dX1_takeIndex_94 [(5, .int 0), (3, .long 1), (0, .ref h0), (1, .int x0), (2, .int x1)] (by decide) rfl ?_
              have lp566 : ∀ (n565 : Nat) (z561 : Int32) (z562 : Int64) (z563 : Int32) (z564 : Int64), (0 ≤ (Int32.toInt z561) ∧ (Int32.toInt z561) ≤ 65536) → Int.toNat (65536 - (Int32.toInt z561)) < n565 → WW p l e ({ frames := 3, cells := 0, slots := 0, locals := 67 } : Room) s m args below meth c A Q g 8 0 0 [(h1, .inr (4, [.ref h2, .int x5])), (h2, .inl (gB g, 1500, .inl fn0)), (h0, .inr (1, [.ref h3, .ref h4, .ref h1, .int z563, .long z564, .long y1, .int z8, .int r480, .long z479, .long y3]))] 96 [(5, .int z561), (3, .long z562), (0, .ref h0), (1, .int x0), (2, .int x1)] [] := by
                intro n565
                induction n565 with
                | zero => intro z561 z562 z563 z564 i569 hm568; exact absurd hm568 (Nat.not_lt_zero _)
                | succ n565 ih567 =>
                  intro z561 z562 z563 z564 i569 hm568
                  obtain ⟨i569a, i569b⟩ := i569
                  have gz562 := fb_rngL z562
                  have gz563 := fb_rng z563
                  have gz564 := fb_rngL z564
                  refine r_iload 96 0 C dX1_takeIndex_96 rfl ?_
                  refine r_aload_n 98 2 C dX1_takeIndex_98 rfl ?_
                  refine r_get 99 C dX1_takeIndex_99 (k := 6) 2 rfl rfl hiX1 (by decide) rfl (mg 1 rfl) (Or.inl rfl) rfl ?_
                  refine r_icmp_gt 102 159 C dX1_takeIndex_102 (by decide) (fun c570 => ?_) (fun c570 => ?_)
                  · skip
                    have k571 : (Int32.toInt z8) < (Int32.toInt z561) := (fa_lt z8 z561).mp c570
                    refine r_aload_n 159 2 C dX1_takeIndex_159 rfl ?_
                    refine r_aload_n 160 2 C dX1_takeIndex_160 rfl ?_
                    refine r_get 161 C dX1_takeIndex_161 (k := 4) 2 rfl rfl hiX1 (by decide) rfl (mg 4 rfl) (Or.inl rfl) rfl ?_
                    refine r_put 164 C dX1_takeIndex_164 (k := 9) 2 rfl rfl hiX1 tyX1 tyX1_ok nmX1 (by decide) rfl (mg 6 rfl) (Or.inl rfl) rfl rfl rfl rfl (Nat.le_of_ble_eq_true rfl) [(h1, .inr (4, [.ref h2, .int x5])), (h2, .inl (gB g, 1500, .inl fn0)), (h0, .inr (1, [.ref h3, .ref h4, .ref h1, .int z563, .long z564, .long y1, .int z8, .int r480, .long z479, .long z564]))] rfl ?_
                    refine r_aload_n 167 2 C dX1_takeIndex_167 rfl ?_
                    refine r_dup 168 C dX1_takeIndex_168 rfl ?_
                    refine r_get 169 C dX1_takeIndex_169 (k := 4) 2 rfl rfl hiX1 (by decide) rfl (mg 4 rfl) (Or.inl rfl) rfl ?_
                    refine r_lload_n 172 1 C dX1_takeIndex_172 rfl ?_
                    refine r_lconst 173 1 C dX1_takeIndex_173 (by decide) ?_
                    obtain ⟨z572, ez572⟩ : ∃ z_9, z562 - 1 = z_9 := ⟨_, rfl⟩
                    have gz572 := fb_rngL z572
                    refine r_lsub 174 z572 C dX1_takeIndex_174 ez572 ?_
                    obtain ⟨z573, ez573⟩ : ∃ z_9, z564 + z572 = z_9 := ⟨_, rfl⟩
                    have gz573 := fb_rngL z573
                    refine r_ladd 175 z573 C dX1_takeIndex_175 ez573 ?_
                    refine r_put 176 C dX1_takeIndex_176 (k := 4) 2 rfl rfl hiX1 tyX1 tyX1_ok nmX1 (by decide) rfl (mg 4 rfl) (Or.inl rfl) rfl rfl rfl rfl (Nat.le_of_ble_eq_true rfl) [(h1, .inr (4, [.ref h2, .int x5])), (h2, .inl (gB g, 1500, .inl fn0)), (h0, .inr (1, [.ref h3, .ref h4, .ref h1, .int z563, .long z573, .long y1, .int z8, .int r480, .long z479, .long z564]))] rfl ?_
                    refine r_aload_n 179 2 C dX1_takeIndex_179 rfl ?_
                    refine r_get 180 C dX1_takeIndex_180 (k := 4) 2 rfl rfl hiX1 (by decide) rfl (mg 4 rfl) (Or.inl rfl) rfl ?_
                    refine r_aload_n 183 2 C dX1_takeIndex_183 rfl ?_
                    refine r_get 184 C dX1_takeIndex_184 (k := 2) 2 rfl rfl hiX1 (by decide) rfl (mg 7 rfl) (Or.inl rfl) rfl ?_
                    refine r_callVi 187 C dX1_takeIndex_187 [.long z573] [(h1, .inr (4, [.ref h2, .int x5]))] [(h2, .inl (gB g, 1500, .inl fn0)), (h0, .inr (1, [.ref h3, .ref h4, .ref h1, .int z563, .long z573, .long y1, .int z8, .int r480, .long z479, .long z564]))] (fun sz => c0_X5_size l g h1 h2 x5 i_x5 sz) gX1_takeIndex_X5_size rfl ⟨rfl, rfl⟩ 0 (by decide) ⟨Nat.le_of_ble_eq_true rfl, Nat.le_of_ble_eq_true rfl⟩ 0 rfl rfl [0] [1, 2] rfl rfl (by decide) (by decide) (by decide) rfl rfl (Nat.le_of_ble_eq_true rfl) ⟨Nat.le_of_ble_eq_true rfl, Nat.le_of_ble_eq_true rfl⟩ (fun r574 _ w575 => ?_)
                    refine r_ws [(h2, .inl (gB g, 1500, .inl fn0)), (h0, .inr (1, [.ref h3, .ref h4, .ref h1, .int z563, .long z573, .long y1, .int z8, .int r480, .long z479, .long z564])), (h1, .inr (4, [.ref h2, .int x5]))] rfl ?_
                    have p576 : x5 = r574 := (w575).symm
                    subst p576
                    obtain ⟨z577, ez577⟩ : ∃ z_9, Int32.toInt64 x5 = z_9 := ⟨_, rfl⟩
                    have tz577 : (Int64.toInt z577) = (Int32.toInt x5) := by rw [← ez577]; exact Int32.toInt_toInt64 _
                    refine r_i2l 190 z577 C dX1_takeIndex_190 ez577 ?_
                    obtain ⟨z578, ez578⟩ : ∃ z_9, lg_cmp z573 z577 = z_9 := ⟨_, rfl⟩
                    have l1z578 : (Int32.toInt z578) < 0 ↔ (Int64.toInt z573) < (Int64.toInt z577) := by rw [← ez578]; exact lgI1 z573 z577
                    have l2z578 : 0 < (Int32.toInt z578) ↔ (Int64.toInt z577) < (Int64.toInt z573) := by rw [← ez578]; exact lgI2 z573 z577
                    refine r_lcmp 191 z578 C dX1_takeIndex_191 ez578 ?_
                    refine r_if_le 192 200 C dX1_takeIndex_192 (by decide) (fun c579 => ?_) (fun c579 => ?_)
                    · skip
                      have k580 : (Int32.toInt z578) ≤ 0 := (fa_le z578 0).mp c579
                      exact r_vret 200 Rt dX1_takeIndex_200 (z563, z573, z8, r480, z479, z564) (show -257 ≤ (Int32.toInt z8) ∧ (Int32.toInt z8) ≤ 65535 from ⟨(iv_eq ⟨p6, p7⟩ tz8).1, (iv_eq ⟨p6, p7⟩ tz8).2⟩) [1, 2, 0] (by decide) rfl (Nat.le_of_ble_eq_true rfl) (Nat.le_of_ble_eq_true rfl)
                    · skip
                      have k581 : ¬ ((Int32.toInt z578) ≤ 0) := fun h_9 => c579 ((fa_le z578 0).mpr h_9)
                      refine r_aload_n 195 2 C dX1_takeIndex_195 rfl ?_
                      refine r_iconst 196 1 C dX1_takeIndex_196 (by decide) ?_
                      refine r_callVv 197 C dX1_takeIndex_197 [] [(h0, .inr (1, [.ref h3, .ref h4, .ref h1, .int z563, .long z573, .long y1, .int z8, .int r480, .long z479, .long z564]))] [(h2, .inl (gB g, 1500, .inl fn0)), (h1, .inr (4, [.ref h2, .int x5]))] (fun sz => c51_X1_wrong l g h0 1 h3 h4 h1 z563 z573 y1 z8 r480 z479 z564 (iv_eq ⟨p6, p7⟩ tz8) sz) gX1_takeIndex_X1_wrong rfl ⟨rfl, rfl⟩ 1 (by decide) ⟨Nat.le_of_ble_eq_true rfl, Nat.le_of_ble_eq_true rfl⟩ 1 rfl rfl [1] [0, 2] rfl rfl (by decide) (by decide) (by decide) rfl rfl (Nat.le_of_ble_eq_true rfl) ⟨Nat.le_of_ble_eq_true rfl, Nat.le_of_ble_eq_true rfl⟩ (fun  z582 w583 => ?_)
                      refine r_ws [(h2, .inl (gB g, 1500, .inl fn0)), (h1, .inr (4, [.ref h2, .int x5])), (h0, .inr (1, [.ref h3, .ref h4, .ref h1, .int z582, .long z573, .long y1, .int z8, .int r480, .long z479, .long z564]))] rfl ?_
                      have gz582 := fb_rng z582
                      exact r_vret 200 Rt dX1_takeIndex_200 (z582, z573, z8, r480, z479, z564) (show -257 ≤ (Int32.toInt z8) ∧ (Int32.toInt z8) ≤ 65535 from ⟨(iv_eq ⟨p6, p7⟩ tz8).1, (iv_eq ⟨p6, p7⟩ tz8).2⟩) [2, 1, 0] (by decide) rfl (Nat.le_of_ble_eq_true rfl) (Nat.le_of_ble_eq_true rfl)
                  · skip
                    have k584 : ¬ ((Int32.toInt z8) < (Int32.toInt z561)) := fun h_9 => c570 ((fa_lt z8 z561).mpr h_9)
                    refine r_aload_n 105 2 C dX1_takeIndex_105 rfl ?_
                    refine r_get 106 C dX1_takeIndex_106 (k := 3) 2 rfl rfl hiX1 (by decide) rfl (mg 2 rfl) (Or.inl rfl) rfl ?_
                    refine r_if_ne 109 159 C dX1_takeIndex_109 (by decide) (fun c585 => ?_) (fun c585 => ?_)
                    · skip
                      have k586 : ¬ ((Int32.toInt z563) = 0) := fun h_9 => c585 ((fa_eq z563 0).mpr h_9)
                      refine r_aload_n 159 2 C dX1_takeIndex_159 rfl ?_
                      refine r_aload_n 160 2 C dX1_takeIndex_160 rfl ?_
                      refine r_get 161 C dX1_takeIndex_161 (k := 4) 2 rfl rfl hiX1 (by decide) rfl (mg 4 rfl) (Or.inl rfl) rfl ?_
                      refine r_put 164 C dX1_takeIndex_164 (k := 9) 2 rfl rfl hiX1 tyX1 tyX1_ok nmX1 (by decide) rfl (mg 6 rfl) (Or.inl rfl) rfl rfl rfl rfl (Nat.le_of_ble_eq_true rfl) [(h1, .inr (4, [.ref h2, .int x5])), (h2, .inl (gB g, 1500, .inl fn0)), (h0, .inr (1, [.ref h3, .ref h4, .ref h1, .int z563, .long z564, .long y1, .int z8, .int r480, .long z479, .long z564]))] rfl ?_
                      refine r_aload_n 167 2 C dX1_takeIndex_167 rfl ?_
                      refine r_dup 168 C dX1_takeIndex_168 rfl ?_
                      refine r_get 169 C dX1_takeIndex_169 (k := 4) 2 rfl rfl hiX1 (by decide) rfl (mg 4 rfl) (Or.inl rfl) rfl ?_
                      refine r_lload_n 172 1 C dX1_takeIndex_172 rfl ?_
                      refine r_lconst 173 1 C dX1_takeIndex_173 (by decide) ?_
                      obtain ⟨z587, ez587⟩ : ∃ z_9, z562 - 1 = z_9 := ⟨_, rfl⟩
                      have gz587 := fb_rngL z587
                      refine r_lsub 174 z587 C dX1_takeIndex_174 ez587 ?_
                      obtain ⟨z588, ez588⟩ : ∃ z_9, z564 + z587 = z_9 := ⟨_, rfl⟩
                      have gz588 := fb_rngL z588
                      refine r_ladd 175 z588 C dX1_takeIndex_175 ez588 ?_
                      refine r_put 176 C dX1_takeIndex_176 (k := 4) 2 rfl rfl hiX1 tyX1 tyX1_ok nmX1 (by decide) rfl (mg 4 rfl) (Or.inl rfl) rfl rfl rfl rfl (Nat.le_of_ble_eq_true rfl) [(h1, .inr (4, [.ref h2, .int x5])), (h2, .inl (gB g, 1500, .inl fn0)), (h0, .inr (1, [.ref h3, .ref h4, .ref h1, .int z563, .long z588, .long y1, .int z8, .int r480, .long z479, .long z564]))] rfl ?_
                      refine r_aload_n 179 2 C dX1_takeIndex_179 rfl ?_
                      refine r_get 180 C dX1_takeIndex_180 (k := 4) 2 rfl rfl hiX1 (by decide) rfl (mg 4 rfl) (Or.inl rfl) rfl ?_
                      refine r_aload_n 183 2 C dX1_takeIndex_183 rfl ?_
                      refine r_get 184 C dX1_takeIndex_184 (k := 2) 2 rfl rfl hiX1 (by decide) rfl (mg 7 rfl) (Or.inl rfl) rfl ?_
                      refine r_callVi 187 C dX1_takeIndex_187 [.long z588] [(h1, .inr (4, [.ref h2, .int x5]))] [(h2, .inl (gB g, 1500, .inl fn0)), (h0, .inr (1, [.ref h3, .ref h4, .ref h1, .int z563, .long z588, .long y1, .int z8, .int r480, .long z479, .long z564]))] (fun sz => c0_X5_size l g h1 h2 x5 i_x5 sz) gX1_takeIndex_X5_size rfl ⟨rfl, rfl⟩ 0 (by decide) ⟨Nat.le_of_ble_eq_true rfl, Nat.le_of_ble_eq_true rfl⟩ 0 rfl rfl [0] [1, 2] rfl rfl (by decide) (by decide) (by decide) rfl rfl (Nat.le_of_ble_eq_true rfl) ⟨Nat.le_of_ble_eq_true rfl, Nat.le_of_ble_eq_true rfl⟩ (fun r589 _ w590 => ?_)
                      refine r_ws [(h2, .inl (gB g, 1500, .inl fn0)), (h0, .inr (1, [.ref h3, .ref h4, .ref h1, .int z563, .long z588, .long y1, .int z8, .int r480, .long z479, .long z564])), (h1, .inr (4, [.ref h2, .int x5]))] rfl ?_
                      have p591 : x5 = r589 := (w590).symm
                      subst p591
                      obtain ⟨z592, ez592⟩ : ∃ z_9, Int32.toInt64 x5 = z_9 := ⟨_, rfl⟩
                      have tz592 : (Int64.toInt z592) = (Int32.toInt x5) := by rw [← ez592]; exact Int32.toInt_toInt64 _
                      refine r_i2l 190 z592 C dX1_takeIndex_190 ez592 ?_
                      obtain ⟨z593, ez593⟩ : ∃ z_9, lg_cmp z588 z592 = z_9 := ⟨_, rfl⟩
                      have l1z593 : (Int32.toInt z593) < 0 ↔ (Int64.toInt z588) < (Int64.toInt z592) := by rw [← ez593]; exact lgI1 z588 z592
                      have l2z593 : 0 < (Int32.toInt z593) ↔ (Int64.toInt z592) < (Int64.toInt z588) := by rw [← ez593]; exact lgI2 z588 z592
                      refine r_lcmp 191 z593 C dX1_takeIndex_191 ez593 ?_
                      refine r_if_le 192 200 C dX1_takeIndex_192 (by decide) (fun c594 => ?_) (fun c594 => ?_)
                      · skip
                        have k595 : (Int32.toInt z593) ≤ 0 := (fa_le z593 0).mp c594
                        exact r_vret 200 Rt dX1_takeIndex_200 (z563, z588, z8, r480, z479, z564) (show -257 ≤ (Int32.toInt z8) ∧ (Int32.toInt z8) ≤ 65535 from ⟨(iv_eq ⟨p6, p7⟩ tz8).1, (iv_eq ⟨p6, p7⟩ tz8).2⟩) [1, 2, 0] (by decide) rfl (Nat.le_of_ble_eq_true rfl) (Nat.le_of_ble_eq_true rfl)
                      · skip
                        have k596 : ¬ ((Int32.toInt z593) ≤ 0) := fun h_9 => c594 ((fa_le z593 0).mpr h_9)
                        refine r_aload_n 195 2 C dX1_takeIndex_195 rfl ?_
                        refine r_iconst 196 1 C dX1_takeIndex_196 (by decide) ?_
                        refine r_callVv 197 C dX1_takeIndex_197 [] [(h0, .inr (1, [.ref h3, .ref h4, .ref h1, .int z563, .long z588, .long y1, .int z8, .int r480, .long z479, .long z564]))] [(h2, .inl (gB g, 1500, .inl fn0)), (h1, .inr (4, [.ref h2, .int x5]))] (fun sz => c51_X1_wrong l g h0 1 h3 h4 h1 z563 z588 y1 z8 r480 z479 z564 (iv_eq ⟨p6, p7⟩ tz8) sz) gX1_takeIndex_X1_wrong rfl ⟨rfl, rfl⟩ 1 (by decide) ⟨Nat.le_of_ble_eq_true rfl, Nat.le_of_ble_eq_true rfl⟩ 1 rfl rfl [1] [0, 2] rfl rfl (by decide) (by decide) (by decide) rfl rfl (Nat.le_of_ble_eq_true rfl) ⟨Nat.le_of_ble_eq_true rfl, Nat.le_of_ble_eq_true rfl⟩ (fun  z597 w598 => ?_)
                        refine r_ws [(h2, .inl (gB g, 1500, .inl fn0)), (h1, .inr (4, [.ref h2, .int x5])), (h0, .inr (1, [.ref h3, .ref h4, .ref h1, .int z597, .long z588, .long y1, .int z8, .int r480, .long z479, .long z564]))] rfl ?_
                        have gz597 := fb_rng z597
                        exact r_vret 200 Rt dX1_takeIndex_200 (z597, z588, z8, r480, z479, z564) (show -257 ≤ (Int32.toInt z8) ∧ (Int32.toInt z8) ≤ 65535 from ⟨(iv_eq ⟨p6, p7⟩ tz8).1, (iv_eq ⟨p6, p7⟩ tz8).2⟩) [2, 1, 0] (by decide) rfl (Nat.le_of_ble_eq_true rfl) (Nat.le_of_ble_eq_true rfl)
                    · skip
                      have k599 : (Int32.toInt z563) = 0 := (fa_eq z563 0).mp c585
                      refine r_aload_n 112 2 C dX1_takeIndex_112 rfl ?_
                      refine r_aload_n 113 2 C dX1_takeIndex_113 rfl ?_
                      refine r_get 114 C dX1_takeIndex_114 (k := 7) 2 rfl rfl hiX1 (by decide) rfl (mg 3 rfl) (Or.inl rfl) rfl ?_
                      refine r_callVl 117 C dX1_takeIndex_117 [] [(h0, .inr (1, [.ref h3, .ref h4, .ref h1, .int z563, .long z564, .long y1, .int z8, .int r480, .long z479, .long y3])), (h1, .inr (4, [.ref h2, .int x5])), (h2, .inl (gB g, 1500, .inl fn0))] [] (fun sz => c56_X1_takeNumber l g h0 h1 h2 r480 h3 h4 z563 z564 y1 z8 r480 z479 y3 x5 fn0 (iv_eq ⟨p6, p7⟩ tz8) i_x5 sz) gX1_takeIndex_X1_takeNumber rfl ⟨rfl, rfl⟩ 1 (by decide) ⟨Nat.le_of_ble_eq_true rfl, Nat.le_of_ble_eq_true rfl⟩ 2 rfl rfl [2, 0, 1] [] rfl rfl (by decide) (by decide) (by decide) rfl rfl (Nat.le_of_ble_eq_true rfl) ⟨Nat.le_of_ble_eq_true rfl, Nat.le_of_ble_eq_true rfl⟩ (fun r602 u604 w603 => ?_)
                      obtain ⟨z600, z601⟩ := u604
                      refine r_ws [(h0, .inr (1, [.ref h3, .ref h4, .ref h1, .int z600, .long z601, .long y1, .int z8, .int r480, .long z479, .long y3])), (h1, .inr (4, [.ref h2, .int x5])), (h2, .inl (gB g, 1500, .inl fn0))] rfl ?_
                      have gz600 := fb_rng z600
                      have gz601 := fb_rngL z601
                      have gr602 := fb_rngL r602
                      refine r_lstore 120 C dX1_takeIndex_120 [(6, .long r602), (5, .int z561), (3, .long z562), (0, .ref h0), (1, .int x0), (2, .int x1)] (by decide) rfl ?_
                      refine r_aload_n 122 3 C dX1_takeIndex_122 rfl ?_
                      refine r_lload 123 0 C dX1_takeIndex_123 rfl ?_
                      refine r_lload_n 125 2 C dX1_takeIndex_125 rfl ?_
                      obtain ⟨z605, ez605⟩ : ∃ z_9, lg_cmp r602 z562 = z_9 := ⟨_, rfl⟩
                      have l1z605 : (Int32.toInt z605) < 0 ↔ (Int64.toInt r602) < (Int64.toInt z562) := by rw [← ez605]; exact lgI1 r602 z562
                      have l2z605 : 0 < (Int32.toInt z605) ↔ (Int64.toInt z562) < (Int64.toInt r602) := by rw [← ez605]; exact lgI2 r602 z562
                      refine r_lcmp 126 z605 C dX1_takeIndex_126 ez605 ?_
                      refine r_if_lt 127 146 C dX1_takeIndex_127 (by decide) (fun c606 => ?_) (fun c606 => ?_)
                      · skip
                        have k607 : (Int32.toInt z605) < 0 := (fa_lt z605 0).mp c606
                        refine r_iconst 146 0 C dX1_takeIndex_146 (by decide) ?_
                        refine r_callVv 147 C dX1_takeIndex_147 [] [(h0, .inr (1, [.ref h3, .ref h4, .ref h1, .int z600, .long z601, .long y1, .int z8, .int r480, .long z479, .long y3]))] [(h1, .inr (4, [.ref h2, .int x5])), (h2, .inl (gB g, 1500, .inl fn0))] (fun sz => c53_X1_want l g h0 0 h3 h4 h1 z600 z601 y1 z8 r480 z479 y3 (by decide) (iv_eq ⟨p6, p7⟩ tz8) sz) gX1_takeIndex_X1_want rfl ⟨rfl, rfl⟩ 1 (by decide) ⟨Nat.le_of_ble_eq_true rfl, Nat.le_of_ble_eq_true rfl⟩ 0 rfl rfl [0] [1, 2] rfl rfl (by decide) (by decide) (by decide) rfl rfl (Nat.le_of_ble_eq_true rfl) ⟨Nat.le_of_ble_eq_true rfl, Nat.le_of_ble_eq_true rfl⟩ (fun  z608 w609 => ?_)
                        refine r_ws [(h1, .inr (4, [.ref h2, .int x5])), (h2, .inl (gB g, 1500, .inl fn0)), (h0, .inr (1, [.ref h3, .ref h4, .ref h1, .int z608, .long z601, .long y1, .int z8, .int r480, .long z479, .long y3]))] rfl ?_
                        have gz608 := fb_rng z608
                        refine r_lload 150 0 C dX1_takeIndex_150 rfl ?_
                        refine r_lstore_n 152 C dX1_takeIndex_152 [(3, .long r602), (6, .long r602), (5, .int z561), (0, .ref h0), (1, .int x0), (2, .int x1)] (by decide) rfl ?_
                        obtain ⟨z610, ez610⟩ : ∃ z_9, z561 + Int32.ofInt 1 = z_9 := ⟨_, rfl⟩
                        have tz610 : (Int32.toInt z610) = (Int32.toInt z561) + 1 := by rw [← ez610]; exact fb_addIv (a := 0) (b := 65536) (c := 1) (d := 1) ⟨i569a, i569b⟩ ⟨by decide, by decide⟩ (by decide) (by decide)
                        refine r_iinc 153 2 z610 C dX1_takeIndex_153 rfl ez610 [(5, .int z610), (3, .long r602), (6, .long r602), (0, .ref h0), (1, .int x0), (2, .int x1)] (by decide) rfl ?_
                        refine r_goto 156 96 C dX1_takeIndex_156 (by decide) ?_
                        refine r_lv [(5, .int z610), (3, .long r602), (0, .ref h0), (1, .int x0), (2, .int x1)] [0, 1, 3, 4, 5] rfl ?_
                        exact ih567 z610 r602 z608 z601 ⟨by omega, by omega⟩ (by omega)
                      · skip
                        have k611 : ¬ ((Int32.toInt z605) < 0) := fun h_9 => c606 ((fa_lt z605 0).mpr h_9)
                        refine r_iload 130 1 C dX1_takeIndex_130 rfl ?_
                        refine r_if_gt 132 142 C dX1_takeIndex_132 (by decide) (fun c612 => ?_) (fun c612 => ?_)
                        · skip
                          have k613 : 0 < (Int32.toInt z561) := (fa_lt 0 z561).mp c612
                          refine r_iconst 142 1 C dX1_takeIndex_142 (by decide) ?_
                          refine r_goto 143 147 C dX1_takeIndex_143 (by decide) ?_
                          refine r_callVv 147 C dX1_takeIndex_147 [] [(h0, .inr (1, [.ref h3, .ref h4, .ref h1, .int z600, .long z601, .long y1, .int z8, .int r480, .long z479, .long y3]))] [(h1, .inr (4, [.ref h2, .int x5])), (h2, .inl (gB g, 1500, .inl fn0))] (fun sz => c53_X1_want l g h0 1 h3 h4 h1 z600 z601 y1 z8 r480 z479 y3 (by decide) (iv_eq ⟨p6, p7⟩ tz8) sz) gX1_takeIndex_X1_want rfl ⟨rfl, rfl⟩ 1 (by decide) ⟨Nat.le_of_ble_eq_true rfl, Nat.le_of_ble_eq_true rfl⟩ 0 rfl rfl [0] [1, 2] rfl rfl (by decide) (by decide) (by decide) rfl rfl (Nat.le_of_ble_eq_true rfl) ⟨Nat.le_of_ble_eq_true rfl, Nat.le_of_ble_eq_true rfl⟩ (fun  z614 w615 => ?_)
                          refine r_ws [(h1, .inr (4, [.ref h2, .int x5])), (h2, .inl (gB g, 1500, .inl fn0)), (h0, .inr (1, [.ref h3, .ref h4, .ref h1, .int z614, .long z601, .long y1, .int z8, .int r480, .long z479, .long y3]))] rfl ?_
                          have gz614 := fb_rng z614
                          refine r_lload 150 0 C dX1_takeIndex_150 rfl ?_
                          refine r_lstore_n 152 C dX1_takeIndex_152 [(3, .long r602), (6, .long r602), (5, .int z561), (0, .ref h0), (1, .int x0), (2, .int x1)] (by decide) rfl ?_
                          obtain ⟨z616, ez616⟩ : ∃ z_9, z561 + Int32.ofInt 1 = z_9 := ⟨_, rfl⟩
                          have tz616 : (Int32.toInt z616) = (Int32.toInt z561) + 1 := by rw [← ez616]; exact fb_addIv (a := 0) (b := 65536) (c := 1) (d := 1) ⟨i569a, i569b⟩ ⟨by decide, by decide⟩ (by decide) (by decide)
                          refine r_iinc 153 2 z616 C dX1_takeIndex_153 rfl ez616 [(5, .int z616), (3, .long r602), (6, .long r602), (0, .ref h0), (1, .int x0), (2, .int x1)] (by decide) rfl ?_
                          refine r_goto 156 96 C dX1_takeIndex_156 (by decide) ?_
                          refine r_lv [(5, .int z616), (3, .long r602), (0, .ref h0), (1, .int x0), (2, .int x1)] [0, 1, 3, 4, 5] rfl ?_
                          exact ih567 z616 r602 z614 z601 ⟨by omega, by omega⟩ (by omega)
                        · skip
                          have k617 : ¬ (0 < (Int32.toInt z561)) := fun h_9 => c612 ((fa_lt 0 z561).mpr h_9)
                          refine r_lload 135 0 C dX1_takeIndex_135 rfl ?_
                          refine r_lconst 137 1 C dX1_takeIndex_137 (by decide) ?_
                          obtain ⟨z618, ez618⟩ : ∃ z_9, lg_cmp r602 1 = z_9 := ⟨_, rfl⟩
                          have l1z618 : (Int32.toInt z618) < 0 ↔ (Int64.toInt r602) < 1 := by rw [← ez618]; exact lgI1 r602 1
                          have l2z618 : 0 < (Int32.toInt z618) ↔ 1 < (Int64.toInt r602) := by rw [← ez618]; exact lgI2 r602 1
                          refine r_lcmp 138 z618 C dX1_takeIndex_138 ez618 ?_
                          refine r_if_ne 139 146 C dX1_takeIndex_139 (by decide) (fun c619 => ?_) (fun c619 => ?_)
                          · skip
                            have k620 : ¬ ((Int32.toInt z618) = 0) := fun h_9 => c619 ((fa_eq z618 0).mpr h_9)
                            refine r_iconst 146 0 C dX1_takeIndex_146 (by decide) ?_
                            refine r_callVv 147 C dX1_takeIndex_147 [] [(h0, .inr (1, [.ref h3, .ref h4, .ref h1, .int z600, .long z601, .long y1, .int z8, .int r480, .long z479, .long y3]))] [(h1, .inr (4, [.ref h2, .int x5])), (h2, .inl (gB g, 1500, .inl fn0))] (fun sz => c53_X1_want l g h0 0 h3 h4 h1 z600 z601 y1 z8 r480 z479 y3 (by decide) (iv_eq ⟨p6, p7⟩ tz8) sz) gX1_takeIndex_X1_want rfl ⟨rfl, rfl⟩ 1 (by decide) ⟨Nat.le_of_ble_eq_true rfl, Nat.le_of_ble_eq_true rfl⟩ 0 rfl rfl [0] [1, 2] rfl rfl (by decide) (by decide) (by decide) rfl rfl (Nat.le_of_ble_eq_true rfl) ⟨Nat.le_of_ble_eq_true rfl, Nat.le_of_ble_eq_true rfl⟩ (fun  z621 w622 => ?_)
                            refine r_ws [(h1, .inr (4, [.ref h2, .int x5])), (h2, .inl (gB g, 1500, .inl fn0)), (h0, .inr (1, [.ref h3, .ref h4, .ref h1, .int z621, .long z601, .long y1, .int z8, .int r480, .long z479, .long y3]))] rfl ?_
                            have gz621 := fb_rng z621
                            refine r_lload 150 0 C dX1_takeIndex_150 rfl ?_
                            refine r_lstore_n 152 C dX1_takeIndex_152 [(3, .long r602), (6, .long r602), (5, .int z561), (0, .ref h0), (1, .int x0), (2, .int x1)] (by decide) rfl ?_
                            obtain ⟨z623, ez623⟩ : ∃ z_9, z561 + Int32.ofInt 1 = z_9 := ⟨_, rfl⟩
                            have tz623 : (Int32.toInt z623) = (Int32.toInt z561) + 1 := by rw [← ez623]; exact fb_addIv (a := 0) (b := 65536) (c := 1) (d := 1) ⟨i569a, i569b⟩ ⟨by decide, by decide⟩ (by decide) (by decide)
                            refine r_iinc 153 2 z623 C dX1_takeIndex_153 rfl ez623 [(5, .int z623), (3, .long r602), (6, .long r602), (0, .ref h0), (1, .int x0), (2, .int x1)] (by decide) rfl ?_
                            refine r_goto 156 96 C dX1_takeIndex_156 (by decide) ?_
                            refine r_lv [(5, .int z623), (3, .long r602), (0, .ref h0), (1, .int x0), (2, .int x1)] [0, 1, 3, 4, 5] rfl ?_
                            exact ih567 z623 r602 z621 z601 ⟨by omega, by omega⟩ (by omega)
                          · skip
                            have k624 : (Int32.toInt z618) = 0 := (fa_eq z618 0).mp c619
                            refine r_iconst 142 1 C dX1_takeIndex_142 (by decide) ?_
                            refine r_goto 143 147 C dX1_takeIndex_143 (by decide) ?_
                            refine r_callVv 147 C dX1_takeIndex_147 [] [(h0, .inr (1, [.ref h3, .ref h4, .ref h1, .int z600, .long z601, .long y1, .int z8, .int r480, .long z479, .long y3]))] [(h1, .inr (4, [.ref h2, .int x5])), (h2, .inl (gB g, 1500, .inl fn0))] (fun sz => c53_X1_want l g h0 1 h3 h4 h1 z600 z601 y1 z8 r480 z479 y3 (by decide) (iv_eq ⟨p6, p7⟩ tz8) sz) gX1_takeIndex_X1_want rfl ⟨rfl, rfl⟩ 1 (by decide) ⟨Nat.le_of_ble_eq_true rfl, Nat.le_of_ble_eq_true rfl⟩ 0 rfl rfl [0] [1, 2] rfl rfl (by decide) (by decide) (by decide) rfl rfl (Nat.le_of_ble_eq_true rfl) ⟨Nat.le_of_ble_eq_true rfl, Nat.le_of_ble_eq_true rfl⟩ (fun  z625 w626 => ?_)
                            refine r_ws [(h1, .inr (4, [.ref h2, .int x5])), (h2, .inl (gB g, 1500, .inl fn0)), (h0, .inr (1, [.ref h3, .ref h4, .ref h1, .int z625, .long z601, .long y1, .int z8, .int r480, .long z479, .long y3]))] rfl ?_
                            have gz625 := fb_rng z625
                            refine r_lload 150 0 C dX1_takeIndex_150 rfl ?_
                            refine r_lstore_n 152 C dX1_takeIndex_152 [(3, .long r602), (6, .long r602), (5, .int z561), (0, .ref h0), (1, .int x0), (2, .int x1)] (by decide) rfl ?_
                            obtain ⟨z627, ez627⟩ : ∃ z_9, z561 + Int32.ofInt 1 = z_9 := ⟨_, rfl⟩
                            have tz627 : (Int32.toInt z627) = (Int32.toInt z561) + 1 := by rw [← ez627]; exact fb_addIv (a := 0) (b := 65536) (c := 1) (d := 1) ⟨i569a, i569b⟩ ⟨by decide, by decide⟩ (by decide) (by decide)
                            refine r_iinc 153 2 z627 C dX1_takeIndex_153 rfl ez627 [(5, .int z627), (3, .long r602), (6, .long r602), (0, .ref h0), (1, .int x0), (2, .int x1)] (by decide) rfl ?_
                            refine r_goto 156 96 C dX1_takeIndex_156 (by decide) ?_
                            refine r_lv [(5, .int z627), (3, .long r602), (0, .ref h0), (1, .int x0), (2, .int x1)] [0, 1, 3, 4, 5] rfl ?_
                            exact ih567 z627 r602 z625 z601 ⟨by omega, by omega⟩ (by omega)
              exact lp566 _ 0 1 z559 z479 (by decide) (Nat.lt_succ_self _)
            · skip
              have k628 : ¬ (4 < (Int32.toInt r480)) := fun h_9 => c557 ((fa_lt 4 r480).mpr h_9)
              refine r_iconst 75 1 C dX1_takeIndex_75 (by decide) ?_
              refine r_goto 76 80 C dX1_takeIndex_76 (by decide) ?_
              refine r_callVv 80 C dX1_takeIndex_80 [] [(h0, .inr (1, [.ref h3, .ref h4, .ref h1, .int z478, .long z479, .long y1, .int z8, .int r480, .long y2, .long y3]))] [(h1, .inr (4, [.ref h2, .int x5])), (h2, .inl (gB g, 1500, .inl fn0))] (fun sz => c53_X1_want l g h0 1 h3 h4 h1 z478 z479 y1 z8 r480 y2 y3 (by decide) (iv_eq ⟨p6, p7⟩ tz8) sz) gX1_takeIndex_X1_want rfl ⟨rfl, rfl⟩ 1 (by decide) ⟨Nat.le_of_ble_eq_true rfl, Nat.le_of_ble_eq_true rfl⟩ 0 rfl rfl [0] [1, 2] rfl rfl (by decide) (by decide) (by decide) rfl rfl (Nat.le_of_ble_eq_true rfl) ⟨Nat.le_of_ble_eq_true rfl, Nat.le_of_ble_eq_true rfl⟩ (fun  z629 w630 => ?_)
              refine r_ws [(h1, .inr (4, [.ref h2, .int x5])), (h2, .inl (gB g, 1500, .inl fn0)), (h0, .inr (1, [.ref h3, .ref h4, .ref h1, .int z629, .long z479, .long y1, .int z8, .int r480, .long y2, .long y3]))] rfl ?_
              have gz629 := fb_rng z629
              refine r_aload_n 83 0 C dX1_takeIndex_83 rfl ?_
              refine r_aload_n 84 0 C dX1_takeIndex_84 rfl ?_
              refine r_get 85 C dX1_takeIndex_85 (k := 4) 2 rfl rfl hiX1 (by decide) rfl (mg 4 rfl) (Or.inl rfl) rfl ?_
              refine r_put 88 C dX1_takeIndex_88 (k := 8) 2 rfl rfl hiX1 tyX1 tyX1_ok nmX1 (by decide) rfl (mg 5 rfl) (Or.inl rfl) rfl rfl rfl rfl (Nat.le_of_ble_eq_true rfl) [(h1, .inr (4, [.ref h2, .int x5])), (h2, .inl (gB g, 1500, .inl fn0)), (h0, .inr (1, [.ref h3, .ref h4, .ref h1, .int z629, .long z479, .long y1, .int z8, .int r480, .long z479, .long y3]))] rfl ?_
              refine r_lconst 91 1 C dX1_takeIndex_91 (by decide) ?_
              refine r_lstore_n 92 C dX1_takeIndex_92 [(3, .long 1), (0, .ref h0), (1, .int x0), (2, .int x1)] (by decide) rfl ?_
              refine r_iconst 93 0 C dX1_takeIndex_93 (by decide) ?_
              refine r_istore 94 C dX1_takeIndex_94 [(5, .int 0), (3, .long 1), (0, .ref h0), (1, .int x0), (2, .int x1)] (by decide) rfl ?_
              have lp636 : ∀ (n635 : Nat) (z631 : Int32) (z632 : Int64) (z633 : Int32) (z634 : Int64), (0 ≤ (Int32.toInt z631) ∧ (Int32.toInt z631) ≤ 65536) → Int.toNat (65536 - (Int32.toInt z631)) < n635 → WW p l e ({ frames := 3, cells := 0, slots := 0, locals := 67 } : Room) s m args below meth c A Q g 8 0 0 [(h1, .inr (4, [.ref h2, .int x5])), (h2, .inl (gB g, 1500, .inl fn0)), (h0, .inr (1, [.ref h3, .ref h4, .ref h1, .int z633, .long z634, .long y1, .int z8, .int r480, .long z479, .long y3]))] 96 [(5, .int z631), (3, .long z632), (0, .ref h0), (1, .int x0), (2, .int x1)] [] := by
                intro n635
                induction n635 with
                | zero => intro z631 z632 z633 z634 i639 hm638; exact absurd hm638 (Nat.not_lt_zero _)
                | succ n635 ih637 =>
                  intro z631 z632 z633 z634 i639 hm638
                  obtain ⟨i639a, i639b⟩ := i639
                  have gz632 := fb_rngL z632
                  have gz633 := fb_rng z633
                  have gz634 := fb_rngL z634
                  refine r_iload 96 0 C dX1_takeIndex_96 rfl ?_
                  refine r_aload_n 98 2 C dX1_takeIndex_98 rfl ?_
                  refine r_get 99 C dX1_takeIndex_99 (k := 6) 2 rfl rfl hiX1 (by decide) rfl (mg 1 rfl) (Or.inl rfl) rfl ?_
                  refine r_icmp_gt 102 159 C dX1_takeIndex_102 (by decide) (fun c640 => ?_) (fun c640 => ?_)
                  · skip
                    have k641 : (Int32.toInt z8) < (Int32.toInt z631) := (fa_lt z8 z631).mp c640
                    refine r_aload_n 159 2 C dX1_takeIndex_159 rfl ?_
                    refine r_aload_n 160 2 C dX1_takeIndex_160 rfl ?_
                    refine r_get 161 C dX1_takeIndex_161 (k := 4) 2 rfl rfl hiX1 (by decide) rfl (mg 4 rfl) (Or.inl rfl) rfl ?_
                    refine r_put 164 C dX1_takeIndex_164 (k := 9) 2 rfl rfl hiX1 tyX1 tyX1_ok nmX1 (by decide) rfl (mg 6 rfl) (Or.inl rfl) rfl rfl rfl rfl (Nat.le_of_ble_eq_true rfl) [(h1, .inr (4, [.ref h2, .int x5])), (h2, .inl (gB g, 1500, .inl fn0)), (h0, .inr (1, [.ref h3, .ref h4, .ref h1, .int z633, .long z634, .long y1, .int z8, .int r480, .long z479, .long z634]))] rfl ?_
                    refine r_aload_n 167 2 C dX1_takeIndex_167 rfl ?_
                    refine r_dup 168 C dX1_takeIndex_168 rfl ?_
                    refine r_get 169 C dX1_takeIndex_169 (k := 4) 2 rfl rfl hiX1 (by decide) rfl (mg 4 rfl) (Or.inl rfl) rfl ?_
                    refine r_lload_n 172 1 C dX1_takeIndex_172 rfl ?_
                    refine r_lconst 173 1 C dX1_takeIndex_173 (by decide) ?_
                    obtain ⟨z642, ez642⟩ : ∃ z_9, z632 - 1 = z_9 := ⟨_, rfl⟩
                    have gz642 := fb_rngL z642
                    refine r_lsub 174 z642 C dX1_takeIndex_174 ez642 ?_
                    obtain ⟨z643, ez643⟩ : ∃ z_9, z634 + z642 = z_9 := ⟨_, rfl⟩
                    have gz643 := fb_rngL z643
                    refine r_ladd 175 z643 C dX1_takeIndex_175 ez643 ?_
                    refine r_put 176 C dX1_takeIndex_176 (k := 4) 2 rfl rfl hiX1 tyX1 tyX1_ok nmX1 (by decide) rfl (mg 4 rfl) (Or.inl rfl) rfl rfl rfl rfl (Nat.le_of_ble_eq_true rfl) [(h1, .inr (4, [.ref h2, .int x5])), (h2, .inl (gB g, 1500, .inl fn0)), (h0, .inr (1, [.ref h3, .ref h4, .ref h1, .int z633, .long z643, .long y1, .int z8, .int r480, .long z479, .long z634]))] rfl ?_
                    refine r_aload_n 179 2 C dX1_takeIndex_179 rfl ?_
                    refine r_get 180 C dX1_takeIndex_180 (k := 4) 2 rfl rfl hiX1 (by decide) rfl (mg 4 rfl) (Or.inl rfl) rfl ?_
                    refine r_aload_n 183 2 C dX1_takeIndex_183 rfl ?_
                    refine r_get 184 C dX1_takeIndex_184 (k := 2) 2 rfl rfl hiX1 (by decide) rfl (mg 7 rfl) (Or.inl rfl) rfl ?_
                    refine r_callVi 187 C dX1_takeIndex_187 [.long z643] [(h1, .inr (4, [.ref h2, .int x5]))] [(h2, .inl (gB g, 1500, .inl fn0)), (h0, .inr (1, [.ref h3, .ref h4, .ref h1, .int z633, .long z643, .long y1, .int z8, .int r480, .long z479, .long z634]))] (fun sz => c0_X5_size l g h1 h2 x5 i_x5 sz) gX1_takeIndex_X5_size rfl ⟨rfl, rfl⟩ 0 (by decide) ⟨Nat.le_of_ble_eq_true rfl, Nat.le_of_ble_eq_true rfl⟩ 0 rfl rfl [0] [1, 2] rfl rfl (by decide) (by decide) (by decide) rfl rfl (Nat.le_of_ble_eq_true rfl) ⟨Nat.le_of_ble_eq_true rfl, Nat.le_of_ble_eq_true rfl⟩ (fun r644 _ w645 => ?_)
                    refine r_ws [(h2, .inl (gB g, 1500, .inl fn0)), (h0, .inr (1, [.ref h3, .ref h4, .ref h1, .int z633, .long z643, .long y1, .int z8, .int r480, .long z479, .long z634])), (h1, .inr (4, [.ref h2, .int x5]))] rfl ?_
                    have p646 : x5 = r644 := (w645).symm
                    subst p646
                    obtain ⟨z647, ez647⟩ : ∃ z_9, Int32.toInt64 x5 = z_9 := ⟨_, rfl⟩
                    have tz647 : (Int64.toInt z647) = (Int32.toInt x5) := by rw [← ez647]; exact Int32.toInt_toInt64 _
                    refine r_i2l 190 z647 C dX1_takeIndex_190 ez647 ?_
                    obtain ⟨z648, ez648⟩ : ∃ z_9, lg_cmp z643 z647 = z_9 := ⟨_, rfl⟩
                    have l1z648 : (Int32.toInt z648) < 0 ↔ (Int64.toInt z643) < (Int64.toInt z647) := by rw [← ez648]; exact lgI1 z643 z647
                    have l2z648 : 0 < (Int32.toInt z648) ↔ (Int64.toInt z647) < (Int64.toInt z643) := by rw [← ez648]; exact lgI2 z643 z647
                    refine r_lcmp 191 z648 C dX1_takeIndex_191 ez648 ?_
                    refine r_if_le 192 200 C dX1_takeIndex_192 (by decide) (fun c649 => ?_) (fun c649 => ?_)
                    · skip
                      have k650 : (Int32.toInt z648) ≤ 0 := (fa_le z648 0).mp c649
                      exact r_vret 200 Rt dX1_takeIndex_200 (z633, z643, z8, r480, z479, z634) (show -257 ≤ (Int32.toInt z8) ∧ (Int32.toInt z8) ≤ 65535 from ⟨(iv_eq ⟨p6, p7⟩ tz8).1, (iv_eq ⟨p6, p7⟩ tz8).2⟩) [1, 2, 0] (by decide) rfl (Nat.le_of_ble_eq_true rfl) (Nat.le_of_ble_eq_true rfl)
                    · skip
                      have k651 : ¬ ((Int32.toInt z648) ≤ 0) := fun h_9 => c649 ((fa_le z648 0).mpr h_9)
                      refine r_aload_n 195 2 C dX1_takeIndex_195 rfl ?_
                      refine r_iconst 196 1 C dX1_takeIndex_196 (by decide) ?_
                      refine r_callVv 197 C dX1_takeIndex_197 [] [(h0, .inr (1, [.ref h3, .ref h4, .ref h1, .int z633, .long z643, .long y1, .int z8, .int r480, .long z479, .long z634]))] [(h2, .inl (gB g, 1500, .inl fn0)), (h1, .inr (4, [.ref h2, .int x5]))] (fun sz => c51_X1_wrong l g h0 1 h3 h4 h1 z633 z643 y1 z8 r480 z479 z634 (iv_eq ⟨p6, p7⟩ tz8) sz) gX1_takeIndex_X1_wrong rfl ⟨rfl, rfl⟩ 1 (by decide) ⟨Nat.le_of_ble_eq_true rfl, Nat.le_of_ble_eq_true rfl⟩ 1 rfl rfl [1] [0, 2] rfl rfl (by decide) (by decide) (by decide) rfl rfl (Nat.le_of_ble_eq_true rfl) ⟨Nat.le_of_ble_eq_true rfl, Nat.le_of_ble_eq_true rfl⟩ (fun  z652 w653 => ?_)
                      refine r_ws [(h2, .inl (gB g, 1500, .inl fn0)), (h1, .inr (4, [.ref h2, .int x5])), (h0, .inr (1, [.ref h3, .ref h4, .ref h1, .int z652, .long z643, .long y1, .int z8, .int r480, .long z479, .long z634]))] rfl ?_
                      have gz652 := fb_rng z652
                      exact r_vret 200 Rt dX1_takeIndex_200 (z652, z643, z8, r480, z479, z634) (show -257 ≤ (Int32.toInt z8) ∧ (Int32.toInt z8) ≤ 65535 from ⟨(iv_eq ⟨p6, p7⟩ tz8).1, (iv_eq ⟨p6, p7⟩ tz8).2⟩) [2, 1, 0] (by decide) rfl (Nat.le_of_ble_eq_true rfl) (Nat.le_of_ble_eq_true rfl)
                  · skip
                    have k654 : ¬ ((Int32.toInt z8) < (Int32.toInt z631)) := fun h_9 => c640 ((fa_lt z8 z631).mpr h_9)
                    refine r_aload_n 105 2 C dX1_takeIndex_105 rfl ?_
                    refine r_get 106 C dX1_takeIndex_106 (k := 3) 2 rfl rfl hiX1 (by decide) rfl (mg 2 rfl) (Or.inl rfl) rfl ?_
                    refine r_if_ne 109 159 C dX1_takeIndex_109 (by decide) (fun c655 => ?_) (fun c655 => ?_)
                    · skip
                      have k656 : ¬ ((Int32.toInt z633) = 0) := fun h_9 => c655 ((fa_eq z633 0).mpr h_9)
                      refine r_aload_n 159 2 C dX1_takeIndex_159 rfl ?_
                      refine r_aload_n 160 2 C dX1_takeIndex_160 rfl ?_
                      refine r_get 161 C dX1_takeIndex_161 (k := 4) 2 rfl rfl hiX1 (by decide) rfl (mg 4 rfl) (Or.inl rfl) rfl ?_
                      refine r_put 164 C dX1_takeIndex_164 (k := 9) 2 rfl rfl hiX1 tyX1 tyX1_ok nmX1 (by decide) rfl (mg 6 rfl) (Or.inl rfl) rfl rfl rfl rfl (Nat.le_of_ble_eq_true rfl) [(h1, .inr (4, [.ref h2, .int x5])), (h2, .inl (gB g, 1500, .inl fn0)), (h0, .inr (1, [.ref h3, .ref h4, .ref h1, .int z633, .long z634, .long y1, .int z8, .int r480, .long z479, .long z634]))] rfl ?_
                      refine r_aload_n 167 2 C dX1_takeIndex_167 rfl ?_
                      refine r_dup 168 C dX1_takeIndex_168 rfl ?_
                      refine r_get 169 C dX1_takeIndex_169 (k := 4) 2 rfl rfl hiX1 (by decide) rfl (mg 4 rfl) (Or.inl rfl) rfl ?_
                      refine r_lload_n 172 1 C dX1_takeIndex_172 rfl ?_
                      refine r_lconst 173 1 C dX1_takeIndex_173 (by decide) ?_
                      obtain ⟨z657, ez657⟩ : ∃ z_9, z632 - 1 = z_9 := ⟨_, rfl⟩
                      have gz657 := fb_rngL z657
                      refine r_lsub 174 z657 C dX1_takeIndex_174 ez657 ?_
                      obtain ⟨z658, ez658⟩ : ∃ z_9, z634 + z657 = z_9 := ⟨_, rfl⟩
                      have gz658 := fb_rngL z658
                      refine r_ladd 175 z658 C dX1_takeIndex_175 ez658 ?_
                      refine r_put 176 C dX1_takeIndex_176 (k := 4) 2 rfl rfl hiX1 tyX1 tyX1_ok nmX1 (by decide) rfl (mg 4 rfl) (Or.inl rfl) rfl rfl rfl rfl (Nat.le_of_ble_eq_true rfl) [(h1, .inr (4, [.ref h2, .int x5])), (h2, .inl (gB g, 1500, .inl fn0)), (h0, .inr (1, [.ref h3, .ref h4, .ref h1, .int z633, .long z658, .long y1, .int z8, .int r480, .long z479, .long z634]))] rfl ?_
                      refine r_aload_n 179 2 C dX1_takeIndex_179 rfl ?_
                      refine r_get 180 C dX1_takeIndex_180 (k := 4) 2 rfl rfl hiX1 (by decide) rfl (mg 4 rfl) (Or.inl rfl) rfl ?_
                      refine r_aload_n 183 2 C dX1_takeIndex_183 rfl ?_
                      refine r_get 184 C dX1_takeIndex_184 (k := 2) 2 rfl rfl hiX1 (by decide) rfl (mg 7 rfl) (Or.inl rfl) rfl ?_
                      refine r_callVi 187 C dX1_takeIndex_187 [.long z658] [(h1, .inr (4, [.ref h2, .int x5]))] [(h2, .inl (gB g, 1500, .inl fn0)), (h0, .inr (1, [.ref h3, .ref h4, .ref h1, .int z633, .long z658, .long y1, .int z8, .int r480, .long z479, .long z634]))] (fun sz => c0_X5_size l g h1 h2 x5 i_x5 sz) gX1_takeIndex_X5_size rfl ⟨rfl, rfl⟩ 0 (by decide) ⟨Nat.le_of_ble_eq_true rfl, Nat.le_of_ble_eq_true rfl⟩ 0 rfl rfl [0] [1, 2] rfl rfl (by decide) (by decide) (by decide) rfl rfl (Nat.le_of_ble_eq_true rfl) ⟨Nat.le_of_ble_eq_true rfl, Nat.le_of_ble_eq_true rfl⟩ (fun r659 _ w660 => ?_)
                      refine r_ws [(h2, .inl (gB g, 1500, .inl fn0)), (h0, .inr (1, [.ref h3, .ref h4, .ref h1, .int z633, .long z658, .long y1, .int z8, .int r480, .long z479, .long z634])), (h1, .inr (4, [.ref h2, .int x5]))] rfl ?_
                      have p661 : x5 = r659 := (w660).symm
                      subst p661
                      obtain ⟨z662, ez662⟩ : ∃ z_9, Int32.toInt64 x5 = z_9 := ⟨_, rfl⟩
                      have tz662 : (Int64.toInt z662) = (Int32.toInt x5) := by rw [← ez662]; exact Int32.toInt_toInt64 _
                      refine r_i2l 190 z662 C dX1_takeIndex_190 ez662 ?_
                      obtain ⟨z663, ez663⟩ : ∃ z_9, lg_cmp z658 z662 = z_9 := ⟨_, rfl⟩
                      have l1z663 : (Int32.toInt z663) < 0 ↔ (Int64.toInt z658) < (Int64.toInt z662) := by rw [← ez663]; exact lgI1 z658 z662
                      have l2z663 : 0 < (Int32.toInt z663) ↔ (Int64.toInt z662) < (Int64.toInt z658) := by rw [← ez663]; exact lgI2 z658 z662
                      refine r_lcmp 191 z663 C dX1_takeIndex_191 ez663 ?_
                      refine r_if_le 192 200 C dX1_takeIndex_192 (by decide) (fun c664 => ?_) (fun c664 => ?_)
                      · skip
                        have k665 : (Int32.toInt z663) ≤ 0 := (fa_le z663 0).mp c664
                        exact r_vret 200 Rt dX1_takeIndex_200 (z633, z658, z8, r480, z479, z634) (show -257 ≤ (Int32.toInt z8) ∧ (Int32.toInt z8) ≤ 65535 from ⟨(iv_eq ⟨p6, p7⟩ tz8).1, (iv_eq ⟨p6, p7⟩ tz8).2⟩) [1, 2, 0] (by decide) rfl (Nat.le_of_ble_eq_true rfl) (Nat.le_of_ble_eq_true rfl)
                      · skip
                        have k666 : ¬ ((Int32.toInt z663) ≤ 0) := fun h_9 => c664 ((fa_le z663 0).mpr h_9)
                        refine r_aload_n 195 2 C dX1_takeIndex_195 rfl ?_
                        refine r_iconst 196 1 C dX1_takeIndex_196 (by decide) ?_
                        refine r_callVv 197 C dX1_takeIndex_197 [] [(h0, .inr (1, [.ref h3, .ref h4, .ref h1, .int z633, .long z658, .long y1, .int z8, .int r480, .long z479, .long z634]))] [(h2, .inl (gB g, 1500, .inl fn0)), (h1, .inr (4, [.ref h2, .int x5]))] (fun sz => c51_X1_wrong l g h0 1 h3 h4 h1 z633 z658 y1 z8 r480 z479 z634 (iv_eq ⟨p6, p7⟩ tz8) sz) gX1_takeIndex_X1_wrong rfl ⟨rfl, rfl⟩ 1 (by decide) ⟨Nat.le_of_ble_eq_true rfl, Nat.le_of_ble_eq_true rfl⟩ 1 rfl rfl [1] [0, 2] rfl rfl (by decide) (by decide) (by decide) rfl rfl (Nat.le_of_ble_eq_true rfl) ⟨Nat.le_of_ble_eq_true rfl, Nat.le_of_ble_eq_true rfl⟩ (fun  z667 w668 => ?_)
                        refine r_ws [(h2, .inl (gB g, 1500, .inl fn0)), (h1, .inr (4, [.ref h2, .int x5])), (h0, .inr (1, [.ref h3, .ref h4, .ref h1, .int z667, .long z658, .long y1, .int z8, .int r480, .long z479, .long z634]))] rfl ?_
                        have gz667 := fb_rng z667
                        exact r_vret 200 Rt dX1_takeIndex_200 (z667, z658, z8, r480, z479, z634) (show -257 ≤ (Int32.toInt z8) ∧ (Int32.toInt z8) ≤ 65535 from ⟨(iv_eq ⟨p6, p7⟩ tz8).1, (iv_eq ⟨p6, p7⟩ tz8).2⟩) [2, 1, 0] (by decide) rfl (Nat.le_of_ble_eq_true rfl) (Nat.le_of_ble_eq_true rfl)
                    · skip
                      have k669 : (Int32.toInt z633) = 0 := (fa_eq z633 0).mp c655
                      refine r_aload_n 112 2 C dX1_takeIndex_112 rfl ?_
                      refine r_aload_n 113 2 C dX1_takeIndex_113 rfl ?_
                      refine r_get 114 C dX1_takeIndex_114 (k := 7) 2 rfl rfl hiX1 (by decide) rfl (mg 3 rfl) (Or.inl rfl) rfl ?_
                      refine r_callVl 117 C dX1_takeIndex_117 [] [(h0, .inr (1, [.ref h3, .ref h4, .ref h1, .int z633, .long z634, .long y1, .int z8, .int r480, .long z479, .long y3])), (h1, .inr (4, [.ref h2, .int x5])), (h2, .inl (gB g, 1500, .inl fn0))] [] (fun sz => c56_X1_takeNumber l g h0 h1 h2 r480 h3 h4 z633 z634 y1 z8 r480 z479 y3 x5 fn0 (iv_eq ⟨p6, p7⟩ tz8) i_x5 sz) gX1_takeIndex_X1_takeNumber rfl ⟨rfl, rfl⟩ 1 (by decide) ⟨Nat.le_of_ble_eq_true rfl, Nat.le_of_ble_eq_true rfl⟩ 2 rfl rfl [2, 0, 1] [] rfl rfl (by decide) (by decide) (by decide) rfl rfl (Nat.le_of_ble_eq_true rfl) ⟨Nat.le_of_ble_eq_true rfl, Nat.le_of_ble_eq_true rfl⟩ (fun r672 u674 w673 => ?_)
                      obtain ⟨z670, z671⟩ := u674
                      refine r_ws [(h0, .inr (1, [.ref h3, .ref h4, .ref h1, .int z670, .long z671, .long y1, .int z8, .int r480, .long z479, .long y3])), (h1, .inr (4, [.ref h2, .int x5])), (h2, .inl (gB g, 1500, .inl fn0))] rfl ?_
                      have gz670 := fb_rng z670
                      have gz671 := fb_rngL z671
                      have gr672 := fb_rngL r672
                      refine r_lstore 120 C dX1_takeIndex_120 [(6, .long r672), (5, .int z631), (3, .long z632), (0, .ref h0), (1, .int x0), (2, .int x1)] (by decide) rfl ?_
                      refine r_aload_n 122 3 C dX1_takeIndex_122 rfl ?_
                      refine r_lload 123 0 C dX1_takeIndex_123 rfl ?_
                      refine r_lload_n 125 2 C dX1_takeIndex_125 rfl ?_
                      obtain ⟨z675, ez675⟩ : ∃ z_9, lg_cmp r672 z632 = z_9 := ⟨_, rfl⟩
                      have l1z675 : (Int32.toInt z675) < 0 ↔ (Int64.toInt r672) < (Int64.toInt z632) := by rw [← ez675]; exact lgI1 r672 z632
                      have l2z675 : 0 < (Int32.toInt z675) ↔ (Int64.toInt z632) < (Int64.toInt r672) := by rw [← ez675]; exact lgI2 r672 z632
                      refine r_lcmp 126 z675 C dX1_takeIndex_126 ez675 ?_
                      refine r_if_lt 127 146 C dX1_takeIndex_127 (by decide) (fun c676 => ?_) (fun c676 => ?_)
                      · skip
                        have k677 : (Int32.toInt z675) < 0 := (fa_lt z675 0).mp c676
                        refine r_iconst 146 0 C dX1_takeIndex_146 (by decide) ?_
                        refine r_callVv 147 C dX1_takeIndex_147 [] [(h0, .inr (1, [.ref h3, .ref h4, .ref h1, .int z670, .long z671, .long y1, .int z8, .int r480, .long z479, .long y3]))] [(h1, .inr (4, [.ref h2, .int x5])), (h2, .inl (gB g, 1500, .inl fn0))] (fun sz => c53_X1_want l g h0 0 h3 h4 h1 z670 z671 y1 z8 r480 z479 y3 (by decide) (iv_eq ⟨p6, p7⟩ tz8) sz) gX1_takeIndex_X1_want rfl ⟨rfl, rfl⟩ 1 (by decide) ⟨Nat.le_of_ble_eq_true rfl, Nat.le_of_ble_eq_true rfl⟩ 0 rfl rfl [0] [1, 2] rfl rfl (by decide) (by decide) (by decide) rfl rfl (Nat.le_of_ble_eq_true rfl) ⟨Nat.le_of_ble_eq_true rfl, Nat.le_of_ble_eq_true rfl⟩ (fun  z678 w679 => ?_)
                        refine r_ws [(h1, .inr (4, [.ref h2, .int x5])), (h2, .inl (gB g, 1500, .inl fn0)), (h0, .inr (1, [.ref h3, .ref h4, .ref h1, .int z678, .long z671, .long y1, .int z8, .int r480, .long z479, .long y3]))] rfl ?_
                        have gz678 := fb_rng z678
                        refine r_lload 150 0 C dX1_takeIndex_150 rfl ?_
                        refine r_lstore_n 152 C dX1_takeIndex_152 [(3, .long r672), (6, .long r672), (5, .int z631), (0, .ref h0), (1, .int x0), (2, .int x1)] (by decide) rfl ?_
                        obtain ⟨z680, ez680⟩ : ∃ z_9, z631 + Int32.ofInt 1 = z_9 := ⟨_, rfl⟩
                        have tz680 : (Int32.toInt z680) = (Int32.toInt z631) + 1 := by rw [← ez680]; exact fb_addIv (a := 0) (b := 65536) (c := 1) (d := 1) ⟨i639a, i639b⟩ ⟨by decide, by decide⟩ (by decide) (by decide)
                        refine r_iinc 153 2 z680 C dX1_takeIndex_153 rfl ez680 [(5, .int z680), (3, .long r672), (6, .long r672), (0, .ref h0), (1, .int x0), (2, .int x1)] (by decide) rfl ?_
                        refine r_goto 156 96 C dX1_takeIndex_156 (by decide) ?_
                        refine r_lv [(5, .int z680), (3, .long r672), (0, .ref h0), (1, .int x0), (2, .int x1)] [0, 1, 3, 4, 5] rfl ?_
                        exact ih637 z680 r672 z678 z671 ⟨by omega, by omega⟩ (by omega)
                      · skip
                        have k681 : ¬ ((Int32.toInt z675) < 0) := fun h_9 => c676 ((fa_lt z675 0).mpr h_9)
                        refine r_iload 130 1 C dX1_takeIndex_130 rfl ?_
                        refine r_if_gt 132 142 C dX1_takeIndex_132 (by decide) (fun c682 => ?_) (fun c682 => ?_)
                        · skip
                          have k683 : 0 < (Int32.toInt z631) := (fa_lt 0 z631).mp c682
                          refine r_iconst 142 1 C dX1_takeIndex_142 (by decide) ?_
                          refine r_goto 143 147 C dX1_takeIndex_143 (by decide) ?_
                          refine r_callVv 147 C dX1_takeIndex_147 [] [(h0, .inr (1, [.ref h3, .ref h4, .ref h1, .int z670, .long z671, .long y1, .int z8, .int r480, .long z479, .long y3]))] [(h1, .inr (4, [.ref h2, .int x5])), (h2, .inl (gB g, 1500, .inl fn0))] (fun sz => c53_X1_want l g h0 1 h3 h4 h1 z670 z671 y1 z8 r480 z479 y3 (by decide) (iv_eq ⟨p6, p7⟩ tz8) sz) gX1_takeIndex_X1_want rfl ⟨rfl, rfl⟩ 1 (by decide) ⟨Nat.le_of_ble_eq_true rfl, Nat.le_of_ble_eq_true rfl⟩ 0 rfl rfl [0] [1, 2] rfl rfl (by decide) (by decide) (by decide) rfl rfl (Nat.le_of_ble_eq_true rfl) ⟨Nat.le_of_ble_eq_true rfl, Nat.le_of_ble_eq_true rfl⟩ (fun  z684 w685 => ?_)
                          refine r_ws [(h1, .inr (4, [.ref h2, .int x5])), (h2, .inl (gB g, 1500, .inl fn0)), (h0, .inr (1, [.ref h3, .ref h4, .ref h1, .int z684, .long z671, .long y1, .int z8, .int r480, .long z479, .long y3]))] rfl ?_
                          have gz684 := fb_rng z684
                          refine r_lload 150 0 C dX1_takeIndex_150 rfl ?_
                          refine r_lstore_n 152 C dX1_takeIndex_152 [(3, .long r672), (6, .long r672), (5, .int z631), (0, .ref h0), (1, .int x0), (2, .int x1)] (by decide) rfl ?_
                          obtain ⟨z686, ez686⟩ : ∃ z_9, z631 + Int32.ofInt 1 = z_9 := ⟨_, rfl⟩
                          have tz686 : (Int32.toInt z686) = (Int32.toInt z631) + 1 := by rw [← ez686]; exact fb_addIv (a := 0) (b := 65536) (c := 1) (d := 1) ⟨i639a, i639b⟩ ⟨by decide, by decide⟩ (by decide) (by decide)
                          refine r_iinc 153 2 z686 C dX1_takeIndex_153 rfl ez686 [(5, .int z686), (3, .long r672), (6, .long r672), (0, .ref h0), (1, .int x0), (2, .int x1)] (by decide) rfl ?_
                          refine r_goto 156 96 C dX1_takeIndex_156 (by decide) ?_
                          refine r_lv [(5, .int z686), (3, .long r672), (0, .ref h0), (1, .int x0), (2, .int x1)] [0, 1, 3, 4, 5] rfl ?_
                          exact ih637 z686 r672 z684 z671 ⟨by omega, by omega⟩ (by omega)
                        · skip
                          have k687 : ¬ (0 < (Int32.toInt z631)) := fun h_9 => c682 ((fa_lt 0 z631).mpr h_9)
                          refine r_lload 135 0 C dX1_takeIndex_135 rfl ?_
                          refine r_lconst 137 1 C dX1_takeIndex_137 (by decide) ?_
                          obtain ⟨z688, ez688⟩ : ∃ z_9, lg_cmp r672 1 = z_9 := ⟨_, rfl⟩
                          have l1z688 : (Int32.toInt z688) < 0 ↔ (Int64.toInt r672) < 1 := by rw [← ez688]; exact lgI1 r672 1
                          have l2z688 : 0 < (Int32.toInt z688) ↔ 1 < (Int64.toInt r672) := by rw [← ez688]; exact lgI2 r672 1
                          refine r_lcmp 138 z688 C dX1_takeIndex_138 ez688 ?_
                          refine r_if_ne 139 146 C dX1_takeIndex_139 (by decide) (fun c689 => ?_) (fun c689 => ?_)
                          · skip
                            have k690 : ¬ ((Int32.toInt z688) = 0) := fun h_9 => c689 ((fa_eq z688 0).mpr h_9)
                            refine r_iconst 146 0 C dX1_takeIndex_146 (by decide) ?_
                            refine r_callVv 147 C dX1_takeIndex_147 [] [(h0, .inr (1, [.ref h3, .ref h4, .ref h1, .int z670, .long z671, .long y1, .int z8, .int r480, .long z479, .long y3]))] [(h1, .inr (4, [.ref h2, .int x5])), (h2, .inl (gB g, 1500, .inl fn0))] (fun sz => c53_X1_want l g h0 0 h3 h4 h1 z670 z671 y1 z8 r480 z479 y3 (by decide) (iv_eq ⟨p6, p7⟩ tz8) sz) gX1_takeIndex_X1_want rfl ⟨rfl, rfl⟩ 1 (by decide) ⟨Nat.le_of_ble_eq_true rfl, Nat.le_of_ble_eq_true rfl⟩ 0 rfl rfl [0] [1, 2] rfl rfl (by decide) (by decide) (by decide) rfl rfl (Nat.le_of_ble_eq_true rfl) ⟨Nat.le_of_ble_eq_true rfl, Nat.le_of_ble_eq_true rfl⟩ (fun  z691 w692 => ?_)
                            refine r_ws [(h1, .inr (4, [.ref h2, .int x5])), (h2, .inl (gB g, 1500, .inl fn0)), (h0, .inr (1, [.ref h3, .ref h4, .ref h1, .int z691, .long z671, .long y1, .int z8, .int r480, .long z479, .long y3]))] rfl ?_
                            have gz691 := fb_rng z691
                            refine r_lload 150 0 C dX1_takeIndex_150 rfl ?_
                            refine r_lstore_n 152 C dX1_takeIndex_152 [(3, .long r672), (6, .long r672), (5, .int z631), (0, .ref h0), (1, .int x0), (2, .int x1)] (by decide) rfl ?_
                            obtain ⟨z693, ez693⟩ : ∃ z_9, z631 + Int32.ofInt 1 = z_9 := ⟨_, rfl⟩
                            have tz693 : (Int32.toInt z693) = (Int32.toInt z631) + 1 := by rw [← ez693]; exact fb_addIv (a := 0) (b := 65536) (c := 1) (d := 1) ⟨i639a, i639b⟩ ⟨by decide, by decide⟩ (by decide) (by decide)
                            refine r_iinc 153 2 z693 C dX1_takeIndex_153 rfl ez693 [(5, .int z693), (3, .long r672), (6, .long r672), (0, .ref h0), (1, .int x0), (2, .int x1)] (by decide) rfl ?_
                            refine r_goto 156 96 C dX1_takeIndex_156 (by decide) ?_
                            refine r_lv [(5, .int z693), (3, .long r672), (0, .ref h0), (1, .int x0), (2, .int x1)] [0, 1, 3, 4, 5] rfl ?_
                            exact ih637 z693 r672 z691 z671 ⟨by omega, by omega⟩ (by omega)
                          · skip
                            have k694 : (Int32.toInt z688) = 0 := (fa_eq z688 0).mp c689
                            refine r_iconst 142 1 C dX1_takeIndex_142 (by decide) ?_
                            refine r_goto 143 147 C dX1_takeIndex_143 (by decide) ?_
                            refine r_callVv 147 C dX1_takeIndex_147 [] [(h0, .inr (1, [.ref h3, .ref h4, .ref h1, .int z670, .long z671, .long y1, .int z8, .int r480, .long z479, .long y3]))] [(h1, .inr (4, [.ref h2, .int x5])), (h2, .inl (gB g, 1500, .inl fn0))] (fun sz => c53_X1_want l g h0 1 h3 h4 h1 z670 z671 y1 z8 r480 z479 y3 (by decide) (iv_eq ⟨p6, p7⟩ tz8) sz) gX1_takeIndex_X1_want rfl ⟨rfl, rfl⟩ 1 (by decide) ⟨Nat.le_of_ble_eq_true rfl, Nat.le_of_ble_eq_true rfl⟩ 0 rfl rfl [0] [1, 2] rfl rfl (by decide) (by decide) (by decide) rfl rfl (Nat.le_of_ble_eq_true rfl) ⟨Nat.le_of_ble_eq_true rfl, Nat.le_of_ble_eq_true rfl⟩ (fun  z695 w696 => ?_)
                            refine r_ws [(h1, .inr (4, [.ref h2, .int x5])), (h2, .inl (gB g, 1500, .inl fn0)), (h0, .inr (1, [.ref h3, .ref h4, .ref h1, .int z695, .long z671, .long y1, .int z8, .int r480, .long z479, .long y3]))] rfl ?_
                            have gz695 := fb_rng z695
                            refine r_lload 150 0 C dX1_takeIndex_150 rfl ?_
                            refine r_lstore_n 152 C dX1_takeIndex_152 [(3, .long r672), (6, .long r672), (5, .int z631), (0, .ref h0), (1, .int x0), (2, .int x1)] (by decide) rfl ?_
                            obtain ⟨z697, ez697⟩ : ∃ z_9, z631 + Int32.ofInt 1 = z_9 := ⟨_, rfl⟩
                            have tz697 : (Int32.toInt z697) = (Int32.toInt z631) + 1 := by rw [← ez697]; exact fb_addIv (a := 0) (b := 65536) (c := 1) (d := 1) ⟨i639a, i639b⟩ ⟨by decide, by decide⟩ (by decide) (by decide)
                            refine r_iinc 153 2 z697 C dX1_takeIndex_153 rfl ez697 [(5, .int z697), (3, .long r672), (6, .long r672), (0, .ref h0), (1, .int x0), (2, .int x1)] (by decide) rfl ?_
                            refine r_goto 156 96 C dX1_takeIndex_156 (by decide) ?_
                            refine r_lv [(5, .int z697), (3, .long r672), (0, .ref h0), (1, .int x0), (2, .int x1)] [0, 1, 3, 4, 5] rfl ?_
                            exact ih637 z697 r672 z695 z671 ⟨by omega, by omega⟩ (by omega)
              exact lp636 _ 0 1 z629 z479 (by decide) (Nat.lt_succ_self _)
        · skip
          have k698 : (Int32.toInt z8) = 0 := (fa_eq z8 0).mp c476
          exact r_vret 49 Rt dX1_takeIndex_49 (z471, z2, z8, x4, y2, y3) (show -257 ≤ (Int32.toInt z8) ∧ (Int32.toInt z8) ≤ 65535 from ⟨(iv_eq ⟨p6, p7⟩ tz8).1, (iv_eq ⟨p6, p7⟩ tz8).2⟩) [2, 0, 1] (by decide) rfl (Nat.le_of_ble_eq_true rfl) (Nat.le_of_ble_eq_true rfl)
