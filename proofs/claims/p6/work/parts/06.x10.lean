set_option maxHeartbeats 4000000 in
set_option maxRecDepth 100000 in
theorem c283_X4_turningCurves (l : Launch) (g : GD) (h0 : Nat) (h1 : Nat) (h2 : Nat) (h3 : Nat) (h4 : Nat) (h5 : Nat) (x0 : Int32) (h6 : Nat) (x1 : Int32) (x2 : Int32) (y0 : Int64) (x3 : Int32) (x4 : Int32) (x5 : Int32) (x6 : Int32) (h7 : Nat) (h8 : Nat) (h9 : Nat) (x7 : Int32) (x8 : Int32) (h10 : Nat) (x9 : Int32) (x10 : Int32) (x11 : Int32) (x12 : Int32) (y1 : Int64) (y2 : Int64) (x13 : Int32) (fm0 : Nat → Int64) (fn0 : Nat → Int32) (fm1 : Nat → Int64) (i_x0 : (0 ≤ (Int32.toInt x0) ∧ (Int32.toInt x0) ≤ 1)) (i_x6 : (0 ≤ (Int32.toInt x6) ∧ (Int32.toInt x6) ≤ 1)) (i_x7 : (0 ≤ (Int32.toInt x7) ∧ (Int32.toInt x7) ≤ 10)) (i_x8 : (0 ≤ (Int32.toInt x8) ∧ (Int32.toInt x8) ≤ 1)) (i_x9 : (0 ≤ (Int32.toInt x9) ∧ (Int32.toInt x9) ≤ 48)) (i_x10 : (0 ≤ (Int32.toInt x10) ∧ (Int32.toInt x10) ≤ 48)) (i_x11 : (0 ≤ (Int32.toInt x11) ∧ (Int32.toInt x11) ≤ 400)) (i_x12 : (0 ≤ (Int32.toInt x12) ∧ (Int32.toInt x12) ≤ 400)) (i_x13 : (0 ≤ (Int32.toInt x13) ∧ (Int32.toInt x13) ≤ 1)) (sz : Nat) : Met l yX4_turningCurves wsX4_turningCurves ({ frames := 2, cells := 0, slots := 0, locals := 55 }) (va_Pc [.ref h0, .int x0] (PW g [(h0, .inr (0, [.ref h1, .ref h2, .ref h6, .int x1, .int x2, .long y0, .int x3, .int x4, .int x5, .int x6, .ref h7, .ref h8, .ref h9, .int x7, .int x8])), (h1, .inr (6, [.ref h3, .ref h10, .int x9, .int x10])), (h2, .inr (5, [.ref h4, .ref h5, .int x11, .int x12, .long y1, .long y2, .int x13])), (h3, .inl (gJ g, 48, .inr (.inl fm0))), (h4, .inl (gB g, 400, .inl fn0)), (h5, .inl (gJ g, 2400, .inr (.inl fm1)))] sz)) (va_Qi (fun (r : Int32) (u : (Int32) × (Int64) × (Int64) × (Int32) × (Nat → Int32) × (Nat → Int64)) => 0 ≤ (Int32.toInt r) ∧ (Int32.toInt r) ≤ 6 ∧ 0 ≤ (Int32.toInt (u.1)) ∧ (Int32.toInt (u.1)) ≤ 400 ∧ 0 ≤ (Int32.toInt (u.2.2.2.1)) ∧ (Int32.toInt (u.2.2.2.1)) ≤ 1) (BW g (va_A [(h0, .inr (0, [.ref h1, .ref h2, .ref h6, .int x1, .int x2, .long y0, .int x3, .int x4, .int x5, .int x6, .ref h7, .ref h8, .ref h9, .int x7, .int x8])), (h1, .inr (6, [.ref h3, .ref h10, .int x9, .int x10])), (h2, .inr (5, [.ref h4, .ref h5, .int x11, .int x12, .long y1, .long y2, .int x13])), (h3, .inl (gJ g, 48, .inr (.inl fm0))), (h4, .inl (gB g, 400, .inl fn0)), (h5, .inl (gJ g, 2400, .inr (.inl fm1)))] sz) (fun u : (Int32) × (Int64) × (Int64) × (Int32) × (Nat → Int32) × (Nat → Int64) => [(h0, .inr (0, [.ref h1, .ref h2, .ref h6, .int x1, .int x2, .long y0, .int x3, .int x4, .int x5, .int x6, .ref h7, .ref h8, .ref h9, .int x7, .int x8])), (h1, .inr (6, [.ref h3, .ref h10, .int x9, .int x10])), (h2, .inr (5, [.ref h4, .ref h5, .int u.1, .int x12, .long u.2.1, .long u.2.2.1, .int u.2.2.2.1])), (h3, .inl (gJ g, 48, .inr (.inl fm0))), (h4, .inl (gB g, 400, .inl u.2.2.2.2.1)), (h5, .inl (gJ g, 2400, .inr (.inl u.2.2.2.2.2)))])) (va_A [(h0, .inr (0, [.ref h1, .ref h2, .ref h6, .int x1, .int x2, .long y0, .int x3, .int x4, .int x5, .int x6, .ref h7, .ref h8, .ref h9, .int x7, .int x8])), (h1, .inr (6, [.ref h3, .ref h10, .int x9, .int x10])), (h2, .inr (5, [.ref h4, .ref h5, .int x11, .int x12, .long y1, .long y2, .int x13])), (h3, .inl (gJ g, 48, .inr (.inl fm0))), (h4, .inl (gB g, 400, .inl fn0)), (h5, .inl (gJ g, 2400, .inr (.inl fm1)))] sz)) 0 0 (va_A [(h0, .inr (0, [.ref h1, .ref h2, .ref h6, .int x1, .int x2, .long y0, .int x3, .int x4, .int x5, .int x6, .ref h7, .ref h8, .ref h9, .int x7, .int x8])), (h1, .inr (6, [.ref h3, .ref h10, .int x9, .int x10])), (h2, .inr (5, [.ref h4, .ref h5, .int x11, .int x12, .long y1, .long y2, .int x13])), (h3, .inl (gJ g, 48, .inr (.inl fm0))), (h4, .inl (gB g, 400, .inl fn0)), (h5, .inl (gJ g, 2400, .inr (.inl fm1)))] sz) := by
  refine met_i RX4 (by decide) rfl rfl (Nat.le_of_ble_eq_true rfl) [(0, .ref h0), (1, .int x0)] rfl ?_
  intro p e s m args below meth c A Q C hnm Rt
  have hiX0 : ∀ w ∈ wsX00, w ∈ wsX4_turningCurves := fun w h => List.mem_cons_of_mem _ (List.mem_append_left _ (List.mem_append_left _ (List.mem_append_left _ (List.mem_append_right _ (h)))))
  refine r_aload_n 0 0 C dX4_turningCurves_0 rfl ?_
  refine r_get 1 C dX4_turningCurves_1 (k := 0) 0 rfl rfl hiX0 (by decide) rfl (mg 1 rfl) (Or.inl rfl) rfl ?_
  refine r_callVi 4 C dX4_turningCurves_4 [] [(h1, .inr (6, [.ref h3, .ref h10, .int x9, .int x10]))] [(h0, .inr (0, [.ref h1, .ref h2, .ref h6, .int x1, .int x2, .long y0, .int x3, .int x4, .int x5, .int x6, .ref h7, .ref h8, .ref h9, .int x7, .int x8])), (h2, .inr (5, [.ref h4, .ref h5, .int x11, .int x12, .long y1, .long y2, .int x13])), (h3, .inl (gJ g, 48, .inr (.inl fm0))), (h4, .inl (gB g, 400, .inl fn0)), (h5, .inl (gJ g, 2400, .inr (.inl fm1)))] (fun sz => c231_X7_size l g h1 h3 h10 x9 x10 i_x9 i_x10 sz) gX4_turningCurves_X7_size rfl ⟨rfl, rfl⟩ 0 (by decide) ⟨Nat.le_of_ble_eq_true rfl, Nat.le_of_ble_eq_true rfl⟩ 1 rfl rfl [1] [0, 2, 3, 4, 5] rfl rfl (by decide) (by decide) (by decide) rfl rfl (Nat.le_of_ble_eq_true rfl) ⟨Nat.le_of_ble_eq_true rfl, Nat.le_of_ble_eq_true rfl⟩ (fun r1 _ w2 => ?_)
  refine r_ws [(h0, .inr (0, [.ref h1, .ref h2, .ref h6, .int x1, .int x2, .long y0, .int x3, .int x4, .int x5, .int x6, .ref h7, .ref h8, .ref h9, .int x7, .int x8])), (h2, .inr (5, [.ref h4, .ref h5, .int x11, .int x12, .long y1, .long y2, .int x13])), (h3, .inl (gJ g, 48, .inr (.inl fm0))), (h4, .inl (gB g, 400, .inl fn0)), (h5, .inl (gJ g, 2400, .inr (.inl fm1))), (h1, .inr (6, [.ref h3, .ref h10, .int x9, .int x10]))] rfl ?_
  have p3 : x9 = r1 := (w2).symm
  subst p3
  refine r_istore_n 7 C dX4_turningCurves_7 [(2, .int x9), (0, .ref h0), (1, .int x0)] (by decide) rfl ?_
  refine r_iload_n 8 0 C dX4_turningCurves_8 rfl ?_
  refine r_iconst 9 4 C dX4_turningCurves_9 (by decide) ?_
  refine r_icmp_lt 10 20 C dX4_turningCurves_10 (by decide) (fun c4 => ?_) (fun c4 => ?_)
  · skip
    have k5 : (Int32.toInt x9) < 4 := (fa_lt x9 4).mp c4
    refine r_iconst 20 2 C dX4_turningCurves_20 (by decide) ?_
    exact r_iret 21 Rt dX4_turningCurves_21 (x11, y1, y2, x13, fn0, fm1) (show 0 ≤ (Int32.toInt 2) ∧ (Int32.toInt 2) ≤ 6 ∧ 0 ≤ (Int32.toInt x11) ∧ (Int32.toInt x11) ≤ 400 ∧ 0 ≤ (Int32.toInt x13) ∧ (Int32.toInt x13) ≤ 1 from ⟨(by ((repeat' apply And.intro) <;> first | trivial | rfl | assumption | omega | decide | exact Or.inl rfl | exact Or.inr (Or.inl rfl) | exact Or.inr (Or.inr rfl))), (by ((repeat' apply And.intro) <;> first | trivial | rfl | assumption | omega | decide | exact Or.inl rfl | exact Or.inr (Or.inl rfl) | exact Or.inr (Or.inr rfl))), i_x11.1, i_x11.2, i_x13.1, i_x13.2⟩) [0, 5, 1, 2, 3, 4] (by decide) rfl (Nat.le_of_ble_eq_true rfl) (Nat.le_of_ble_eq_true rfl)
  · skip
    have k6 : ¬ ((Int32.toInt x9) < 4) := fun h_9 => c4 ((fa_lt x9 4).mpr h_9)
    refine r_iload_n 13 0 C dX4_turningCurves_13 rfl ?_
    refine r_iconst 14 4 C dX4_turningCurves_14 (by decide) ?_
    obtain ⟨z7, ez7⟩ : ∃ z_9, x9 - x9 / 4 * 4 = z_9 := ⟨_, rfl⟩
    have tz7 : (Int32.toInt z7) = (Int32.toInt x9) % 4 := by rw [← ez7]; exact rem_nn (by omega) (n := 4) (by decide) (by decide)
    refine r_irem 15 z7 C dX4_turningCurves_15 (by decide) ez7 ?_
    refine r_iconst 16 1 C dX4_turningCurves_16 (by decide) ?_
    refine r_icmp_le 17 22 C dX4_turningCurves_17 (by decide) (fun c8 => ?_) (fun c8 => ?_)
    · skip
      have k9 : (Int32.toInt z7) ≤ 1 := (fa_le z7 1).mp c8
      refine r_iload_n 22 2 C dX4_turningCurves_22 rfl ?_
      refine r_istore_n 23 C dX4_turningCurves_23 [(3, .int x0), (2, .int x9), (0, .ref h0), (1, .int x0)] (by decide) rfl ?_
      refine r_iconst 24 0 C dX4_turningCurves_24 (by decide) ?_
      refine r_istore 25 C dX4_turningCurves_25 [(4, .int 0), (3, .int x0), (2, .int x9), (0, .ref h0), (1, .int x0)] (by decide) rfl ?_
      refine r_iconst 27 0 C dX4_turningCurves_27 (by decide) ?_
      refine r_istore 28 C dX4_turningCurves_28 [(5, .int 0), (4, .int 0), (3, .int x0), (2, .int x9), (0, .ref h0), (1, .int x0)] (by decide) rfl ?_
      have lp20 : ∀ (n19 : Nat) (z10 : Int32) (z11 : Int32) (z12 : Int32) (z13 : Int32) (z14 : Int64) (z15 : Int64) (z16 : Int32) (f17 : Nat → Int32) (f18 : Nat → Int64), (0 ≤ (Int32.toInt z10) ∧ (Int32.toInt z10) ≤ 48) → (0 ≤ (Int32.toInt z11) ∧ (Int32.toInt z11) ≤ 6) → (0 ≤ (Int32.toInt z12) ∧ (Int32.toInt z12) ≤ 1) → (0 ≤ (Int32.toInt z13) ∧ (Int32.toInt z13) ≤ 400) → (0 ≤ (Int32.toInt z16) ∧ (Int32.toInt z16) ≤ 1) → Int.toNat (48 - (Int32.toInt z10)) < n19 → WW p l e ({ frames := 2, cells := 0, slots := 0, locals := 55 } : Room) s m args below meth c A Q g 16 0 0 [(h0, .inr (0, [.ref h1, .ref h2, .ref h6, .int x1, .int x2, .long y0, .int x3, .int x4, .int x5, .int x6, .ref h7, .ref h8, .ref h9, .int x7, .int x8])), (h2, .inr (5, [.ref h4, .ref h5, .int z13, .int x12, .long z14, .long z15, .int z16])), (h3, .inl (gJ g, 48, .inr (.inl fm0))), (h4, .inl (gB g, 400, .inl f17)), (h5, .inl (gJ g, 2400, .inr (.inl f18))), (h1, .inr (6, [.ref h3, .ref h10, .int x9, .int x10]))] 30 [(5, .int z10), (4, .int z11), (3, .int z12), (2, .int x9), (0, .ref h0), (1, .int x0)] [] := by
        intro n19
        induction n19 with
        | zero => intro z10 z11 z12 z13 z14 z15 z16 f17 f18 i23 i24 i25 i26 i27 hm22; exact absurd hm22 (Nat.not_lt_zero _)
        | succ n19 ih21 =>
          intro z10 z11 z12 z13 z14 z15 z16 f17 f18 i23 i24 i25 i26 i27 hm22
          obtain ⟨i23a, i23b⟩ := i23
          obtain ⟨i24a, i24b⟩ := i24
          obtain ⟨i25a, i25b⟩ := i25
          obtain ⟨i26a, i26b⟩ := i26
          obtain ⟨i27a, i27b⟩ := i27
          have gz14 := fb_rngL z14
          have gz15 := fb_rngL z15
          refine r_iload 30 0 C dX4_turningCurves_30 rfl ?_
          refine r_iconst 32 4 C dX4_turningCurves_32 (by decide) ?_
          obtain ⟨z28, ez28⟩ : ∃ z_9, z10 + 4 = z_9 := ⟨_, rfl⟩
          have tz28 : (Int32.toInt z28) = (Int32.toInt z10) + 4 := by rw [← ez28]; exact fb_addIv (a := 0) (b := 48) (c := 4) (d := 4) ⟨i23a, i23b⟩ ⟨by decide, by decide⟩ (by decide) (by decide)
          refine r_iadd 33 z28 C dX4_turningCurves_33 ez28 ?_
          refine r_iload_n 34 3 C dX4_turningCurves_34 rfl ?_
          refine r_icmp_gt 35 179 C dX4_turningCurves_35 (by decide) (fun c29 => ?_) (fun c29 => ?_)
          · skip
            have k30 : (Int32.toInt x9) < (Int32.toInt z28) := (fa_lt x9 z28).mp c29
            refine r_iload 179 1 C dX4_turningCurves_179 rfl ?_
            exact r_iret 181 Rt dX4_turningCurves_181 (z13, z14, z15, z16, f17, f18) (show 0 ≤ (Int32.toInt z11) ∧ (Int32.toInt z11) ≤ 6 ∧ 0 ≤ (Int32.toInt z13) ∧ (Int32.toInt z13) ≤ 400 ∧ 0 ≤ (Int32.toInt z16) ∧ (Int32.toInt z16) ≤ 1 from ⟨(show _ ∧ _ from ⟨i24a, i24b⟩).1, (show _ ∧ _ from ⟨i24a, i24b⟩).2, (show _ ∧ _ from ⟨i26a, i26b⟩).1, (show _ ∧ _ from ⟨i26a, i26b⟩).2, (show _ ∧ _ from ⟨i27a, i27b⟩).1, (show _ ∧ _ from ⟨i27a, i27b⟩).2⟩) [0, 5, 1, 2, 3, 4] (by decide) rfl (Nat.le_of_ble_eq_true rfl) (Nat.le_of_ble_eq_true rfl)
          · skip
            have k31 : ¬ ((Int32.toInt x9) < (Int32.toInt z28)) := fun h_9 => c29 ((fa_lt x9 z28).mpr h_9)
            refine r_iload 38 1 C dX4_turningCurves_38 rfl ?_
            refine r_if_ne 40 179 C dX4_turningCurves_40 (by decide) (fun c32 => ?_) (fun c32 => ?_)
            · skip
              have k33 : ¬ ((Int32.toInt z11) = 0) := fun h_9 => c32 ((fa_eq z11 0).mpr h_9)
              refine r_iload 179 1 C dX4_turningCurves_179 rfl ?_
              exact r_iret 181 Rt dX4_turningCurves_181 (z13, z14, z15, z16, f17, f18) (show 0 ≤ (Int32.toInt z11) ∧ (Int32.toInt z11) ≤ 6 ∧ 0 ≤ (Int32.toInt z13) ∧ (Int32.toInt z13) ≤ 400 ∧ 0 ≤ (Int32.toInt z16) ∧ (Int32.toInt z16) ≤ 1 from ⟨(show _ ∧ _ from ⟨i24a, i24b⟩).1, (show _ ∧ _ from ⟨i24a, i24b⟩).2, (show _ ∧ _ from ⟨i26a, i26b⟩).1, (show _ ∧ _ from ⟨i26a, i26b⟩).2, (show _ ∧ _ from ⟨i27a, i27b⟩).1, (show _ ∧ _ from ⟨i27a, i27b⟩).2⟩) [0, 5, 1, 2, 3, 4] (by decide) rfl (Nat.le_of_ble_eq_true rfl) (Nat.le_of_ble_eq_true rfl)
            · skip
              have k34 : (Int32.toInt z11) = 0 := (fa_eq z11 0).mp c32
              refine r_aload_n 43 4 C dX4_turningCurves_43 rfl ?_
              refine r_get 44 C dX4_turningCurves_44 (k := 0) 0 rfl rfl hiX0 (by decide) rfl (mg 1 rfl) (Or.inl rfl) rfl ?_
              refine r_iload 47 0 C dX4_turningCurves_47 rfl ?_
              refine r_callVl 49 C dX4_turningCurves_49 [] [(h1, .inr (6, [.ref h3, .ref h10, .int x9, .int x10])), (h3, .inl (gJ g, 48, .inr (.inl fm0)))] [(h0, .inr (0, [.ref h1, .ref h2, .ref h6, .int x1, .int x2, .long y0, .int x3, .int x4, .int x5, .int x6, .ref h7, .ref h8, .ref h9, .int x7, .int x8])), (h2, .inr (5, [.ref h4, .ref h5, .int z13, .int x12, .long z14, .long z15, .int z16])), (h4, .inl (gB g, 400, .inl f17)), (h5, .inl (gJ g, 2400, .inr (.inl f18)))] (fun sz => c232_X7_get l g h1 h3 z10 h10 x9 x10 fm0 i_x9 i_x10 sz) gX4_turningCurves_X7_get rfl ⟨rfl, rfl⟩ 1 (by decide) ⟨Nat.le_of_ble_eq_true rfl, Nat.le_of_ble_eq_true rfl⟩ 5 rfl rfl [5, 2] [0, 1, 3, 4] rfl rfl (by decide) (by decide) (by decide) rfl rfl (Nat.le_of_ble_eq_true rfl) ⟨Nat.le_of_ble_eq_true rfl, Nat.le_of_ble_eq_true rfl⟩ (fun r35 _ w36 => ?_)
              refine r_ws [(h0, .inr (0, [.ref h1, .ref h2, .ref h6, .int x1, .int x2, .long y0, .int x3, .int x4, .int x5, .int x6, .ref h7, .ref h8, .ref h9, .int x7, .int x8])), (h2, .inr (5, [.ref h4, .ref h5, .int z13, .int x12, .long z14, .long z15, .int z16])), (h4, .inl (gB g, 400, .inl f17)), (h5, .inl (gJ g, 2400, .inr (.inl f18))), (h1, .inr (6, [.ref h3, .ref h10, .int x9, .int x10])), (h3, .inl (gJ g, 48, .inr (.inl fm0)))] rfl ?_
              have gr35 := fb_rngL r35
              refine r_lstore 52 C dX4_turningCurves_52 [(6, .long r35), (5, .int z10), (4, .int z11), (3, .int z12), (2, .int x9), (0, .ref h0), (1, .int x0)] (by decide) rfl ?_
              refine r_aload_n 54 5 C dX4_turningCurves_54 rfl ?_
              refine r_get 55 C dX4_turningCurves_55 (k := 0) 0 rfl rfl hiX0 (by decide) rfl (mg 1 rfl) (Or.inl rfl) rfl ?_
              refine r_iload 58 1 C dX4_turningCurves_58 rfl ?_
              refine r_iconst 60 1 C dX4_turningCurves_60 (by decide) ?_
              obtain ⟨z37, ez37⟩ : ∃ z_9, z10 + 1 = z_9 := ⟨_, rfl⟩
              have tz37 : (Int32.toInt z37) = (Int32.toInt z10) + 1 := by rw [← ez37]; exact fb_addIv (a := 0) (b := 48) (c := 1) (d := 1) ⟨i23a, i23b⟩ ⟨by decide, by decide⟩ (by decide) (by decide)
              refine r_iadd 61 z37 C dX4_turningCurves_61 ez37 ?_
              refine r_callVl 62 C dX4_turningCurves_62 [] [(h1, .inr (6, [.ref h3, .ref h10, .int x9, .int x10])), (h3, .inl (gJ g, 48, .inr (.inl fm0)))] [(h0, .inr (0, [.ref h1, .ref h2, .ref h6, .int x1, .int x2, .long y0, .int x3, .int x4, .int x5, .int x6, .ref h7, .ref h8, .ref h9, .int x7, .int x8])), (h2, .inr (5, [.ref h4, .ref h5, .int z13, .int x12, .long z14, .long z15, .int z16])), (h4, .inl (gB g, 400, .inl f17)), (h5, .inl (gJ g, 2400, .inr (.inl f18)))] (fun sz => c232_X7_get l g h1 h3 z37 h10 x9 x10 fm0 i_x9 i_x10 sz) gX4_turningCurves_X7_get rfl ⟨rfl, rfl⟩ 1 (by decide) ⟨Nat.le_of_ble_eq_true rfl, Nat.le_of_ble_eq_true rfl⟩ 4 rfl rfl [4, 5] [0, 1, 2, 3] rfl rfl (by decide) (by decide) (by decide) rfl rfl (Nat.le_of_ble_eq_true rfl) ⟨Nat.le_of_ble_eq_true rfl, Nat.le_of_ble_eq_true rfl⟩ (fun r38 _ w39 => ?_)
              refine r_ws [(h0, .inr (0, [.ref h1, .ref h2, .ref h6, .int x1, .int x2, .long y0, .int x3, .int x4, .int x5, .int x6, .ref h7, .ref h8, .ref h9, .int x7, .int x8])), (h2, .inr (5, [.ref h4, .ref h5, .int z13, .int x12, .long z14, .long z15, .int z16])), (h4, .inl (gB g, 400, .inl f17)), (h5, .inl (gJ g, 2400, .inr (.inl f18))), (h1, .inr (6, [.ref h3, .ref h10, .int x9, .int x10])), (h3, .inl (gJ g, 48, .inr (.inl fm0)))] rfl ?_
              have gr38 := fb_rngL r38
              refine r_lstore 65 C dX4_turningCurves_65 [(8, .long r38), (6, .long r35), (5, .int z10), (4, .int z11), (3, .int z12), (2, .int x9), (0, .ref h0), (1, .int x0)] (by decide) rfl ?_
              refine r_aload_n 67 6 C dX4_turningCurves_67 rfl ?_
              refine r_get 68 C dX4_turningCurves_68 (k := 0) 0 rfl rfl hiX0 (by decide) rfl (mg 1 rfl) (Or.inl rfl) rfl ?_
              refine r_iload 71 2 C dX4_turningCurves_71 rfl ?_
              refine r_iconst 73 2 C dX4_turningCurves_73 (by decide) ?_
              obtain ⟨z40, ez40⟩ : ∃ z_9, z10 + 2 = z_9 := ⟨_, rfl⟩
              have tz40 : (Int32.toInt z40) = (Int32.toInt z10) + 2 := by rw [← ez40]; exact fb_addIv (a := 0) (b := 48) (c := 2) (d := 2) ⟨i23a, i23b⟩ ⟨by decide, by decide⟩ (by decide) (by decide)
              refine r_iadd 74 z40 C dX4_turningCurves_74 ez40 ?_
              refine r_callVl 75 C dX4_turningCurves_75 [] [(h1, .inr (6, [.ref h3, .ref h10, .int x9, .int x10])), (h3, .inl (gJ g, 48, .inr (.inl fm0)))] [(h0, .inr (0, [.ref h1, .ref h2, .ref h6, .int x1, .int x2, .long y0, .int x3, .int x4, .int x5, .int x6, .ref h7, .ref h8, .ref h9, .int x7, .int x8])), (h2, .inr (5, [.ref h4, .ref h5, .int z13, .int x12, .long z14, .long z15, .int z16])), (h4, .inl (gB g, 400, .inl f17)), (h5, .inl (gJ g, 2400, .inr (.inl f18)))] (fun sz => c232_X7_get l g h1 h3 z40 h10 x9 x10 fm0 i_x9 i_x10 sz) gX4_turningCurves_X7_get rfl ⟨rfl, rfl⟩ 1 (by decide) ⟨Nat.le_of_ble_eq_true rfl, Nat.le_of_ble_eq_true rfl⟩ 4 rfl rfl [4, 5] [0, 1, 2, 3] rfl rfl (by decide) (by decide) (by decide) rfl rfl (Nat.le_of_ble_eq_true rfl) ⟨Nat.le_of_ble_eq_true rfl, Nat.le_of_ble_eq_true rfl⟩ (fun r41 _ w42 => ?_)
              refine r_ws [(h0, .inr (0, [.ref h1, .ref h2, .ref h6, .int x1, .int x2, .long y0, .int x3, .int x4, .int x5, .int x6, .ref h7, .ref h8, .ref h9, .int x7, .int x8])), (h2, .inr (5, [.ref h4, .ref h5, .int z13, .int x12, .long z14, .long z15, .int z16])), (h4, .inl (gB g, 400, .inl f17)), (h5, .inl (gJ g, 2400, .inr (.inl f18))), (h1, .inr (6, [.ref h3, .ref h10, .int x9, .int x10])), (h3, .inl (gJ g, 48, .inr (.inl fm0)))] rfl ?_
              have gr41 := fb_rngL r41
              refine r_lstore 78 C dX4_turningCurves_78 [(10, .long r41), (8, .long r38), (6, .long r35), (5, .int z10), (4, .int z11), (3, .int z12), (2, .int x9), (0, .ref h0), (1, .int x0)] (by decide) rfl ?_
              refine r_aload_n 80 7 C dX4_turningCurves_80 rfl ?_
              refine r_get 81 C dX4_turningCurves_81 (k := 0) 0 rfl rfl hiX0 (by decide) rfl (mg 1 rfl) (Or.inl rfl) rfl ?_
              refine r_iload 84 3 C dX4_turningCurves_84 rfl ?_
              refine r_iconst 86 3 C dX4_turningCurves_86 (by decide) ?_
              obtain ⟨z43, ez43⟩ : ∃ z_9, z10 + 3 = z_9 := ⟨_, rfl⟩
              have tz43 : (Int32.toInt z43) = (Int32.toInt z10) + 3 := by rw [← ez43]; exact fb_addIv (a := 0) (b := 48) (c := 3) (d := 3) ⟨i23a, i23b⟩ ⟨by decide, by decide⟩ (by decide) (by decide)
              refine r_iadd 87 z43 C dX4_turningCurves_87 ez43 ?_
              refine r_callVl 88 C dX4_turningCurves_88 [] [(h1, .inr (6, [.ref h3, .ref h10, .int x9, .int x10])), (h3, .inl (gJ g, 48, .inr (.inl fm0)))] [(h0, .inr (0, [.ref h1, .ref h2, .ref h6, .int x1, .int x2, .long y0, .int x3, .int x4, .int x5, .int x6, .ref h7, .ref h8, .ref h9, .int x7, .int x8])), (h2, .inr (5, [.ref h4, .ref h5, .int z13, .int x12, .long z14, .long z15, .int z16])), (h4, .inl (gB g, 400, .inl f17)), (h5, .inl (gJ g, 2400, .inr (.inl f18)))] (fun sz => c232_X7_get l g h1 h3 z43 h10 x9 x10 fm0 i_x9 i_x10 sz) gX4_turningCurves_X7_get rfl ⟨rfl, rfl⟩ 1 (by decide) ⟨Nat.le_of_ble_eq_true rfl, Nat.le_of_ble_eq_true rfl⟩ 4 rfl rfl [4, 5] [0, 1, 2, 3] rfl rfl (by decide) (by decide) (by decide) rfl rfl (Nat.le_of_ble_eq_true rfl) ⟨Nat.le_of_ble_eq_true rfl, Nat.le_of_ble_eq_true rfl⟩ (fun r44 _ w45 => ?_)
              refine r_ws [(h0, .inr (0, [.ref h1, .ref h2, .ref h6, .int x1, .int x2, .long y0, .int x3, .int x4, .int x5, .int x6, .ref h7, .ref h8, .ref h9, .int x7, .int x8])), (h2, .inr (5, [.ref h4, .ref h5, .int z13, .int x12, .long z14, .long z15, .int z16])), (h4, .inl (gB g, 400, .inl f17)), (h5, .inl (gJ g, 2400, .inr (.inl f18))), (h1, .inr (6, [.ref h3, .ref h10, .int x9, .int x10])), (h3, .inl (gJ g, 48, .inr (.inl fm0)))] rfl ?_
              have gr44 := fb_rngL r44
              refine r_lstore 91 C dX4_turningCurves_91 [(12, .long r44), (10, .long r41), (8, .long r38), (6, .long r35), (5, .int z10), (4, .int z11), (3, .int z12), (2, .int x9), (0, .ref h0), (1, .int x0)] (by decide) rfl ?_
              refine r_iload 93 4 C dX4_turningCurves_93 rfl ?_
              refine r_iconst 95 5 C dX4_turningCurves_95 (by decide) ?_
              obtain ⟨z46, ez46⟩ : ∃ z_9, z10 + 5 = z_9 := ⟨_, rfl⟩
              have tz46 : (Int32.toInt z46) = (Int32.toInt z10) + 5 := by rw [← ez46]; exact fb_addIv (a := 0) (b := 48) (c := 5) (d := 5) ⟨i23a, i23b⟩ ⟨by decide, by decide⟩ (by decide) (by decide)
              refine r_iadd 96 z46 C dX4_turningCurves_96 ez46 ?_
              refine r_iload_n 97 7 C dX4_turningCurves_97 rfl ?_
              refine r_icmp_ne 98 115 C dX4_turningCurves_98 (by decide) (fun c47 => ?_) (fun c47 => ?_)
              · skip
                have k48 : ¬ ((Int32.toInt z46) = (Int32.toInt x9)) := fun h_9 => c47 ((fa_eq z46 x9).mpr h_9)
                refine r_lconst 115 0 C dX4_turningCurves_115 (by decide) ?_
                refine r_lstore 116 C dX4_turningCurves_116 [(14, .long 0), (12, .long r44), (10, .long r41), (8, .long r38), (6, .long r35), (5, .int z10), (4, .int z11), (3, .int z12), (2, .int x9), (0, .ref h0), (1, .int x0)] (by decide) rfl ?_
                refine r_iload_n 118 7 C dX4_turningCurves_118 rfl ?_
                refine r_if_eq 119 143 C dX4_turningCurves_119 (by decide) (fun c49 => ?_) (fun c49 => ?_)
                · skip
                  have k50 : (Int32.toInt z12) = 0 := (fa_eq z12 0).mp c49
                  refine r_aload_n 143 9 C dX4_turningCurves_143 rfl ?_
                  refine r_get 144 C dX4_turningCurves_144 (k := 1) 0 rfl rfl hiX0 (by decide) rfl (mg 2 rfl) (Or.inl rfl) rfl ?_
                  refine r_lconst 147 0 C dX4_turningCurves_147 (by decide) ?_
                  refine r_lload 148 4 C dX4_turningCurves_148 rfl ?_
                  refine r_lload 150 3 C dX4_turningCurves_150 rfl ?_
                  refine r_lload 152 2 C dX4_turningCurves_152 rfl ?_
                  refine r_lload 154 1 C dX4_turningCurves_154 rfl ?_
                  refine r_lload 156 0 C dX4_turningCurves_156 rfl ?_
                  refine r_callVi 158 C dX4_turningCurves_158 [] [(h2, .inr (5, [.ref h4, .ref h5, .int z13, .int x12, .long z14, .long z15, .int z16])), (h4, .inl (gB g, 400, .inl f17)), (h5, .inl (gJ g, 2400, .inr (.inl f18)))] [(h0, .inr (0, [.ref h1, .ref h2, .ref h6, .int x1, .int x2, .long y0, .int x3, .int x4, .int x5, .int x6, .ref h7, .ref h8, .ref h9, .int x7, .int x8])), (h1, .inr (6, [.ref h3, .ref h10, .int x9, .int x10])), (h3, .inl (gJ g, 48, .inr (.inl fm0)))] (fun sz => c246_X6_curveBy l g h2 h4 h5 0 r35 r38 r41 r44 0 z13 x12 z14 z15 z16 f17 f18 ⟨i26a, i26b⟩ i_x12 ⟨i27a, i27b⟩ sz) gX4_turningCurves_X6_curveBy rfl ⟨rfl, rfl⟩ 6 (by decide) ⟨Nat.le_of_ble_eq_true rfl, Nat.le_of_ble_eq_true rfl⟩ 1 rfl rfl [1, 2, 3] [0, 4, 5] rfl rfl (by decide) (by decide) (by decide) rfl rfl (Nat.le_of_ble_eq_true rfl) ⟨Nat.le_of_ble_eq_true rfl, Nat.le_of_ble_eq_true rfl⟩ (fun r56 u58 w57 => ?_)
                  obtain ⟨z51, z52, z53, f54, f55⟩ := u58
                  refine r_ws [(h0, .inr (0, [.ref h1, .ref h2, .ref h6, .int x1, .int x2, .long y0, .int x3, .int x4, .int x5, .int x6, .ref h7, .ref h8, .ref h9, .int x7, .int x8])), (h1, .inr (6, [.ref h3, .ref h10, .int x9, .int x10])), (h3, .inl (gJ g, 48, .inr (.inl fm0))), (h2, .inr (5, [.ref h4, .ref h5, .int z51, .int x12, .long z52, .long z53, .int 1])), (h4, .inl (gB g, 400, .inl f54)), (h5, .inl (gJ g, 2400, .inr (.inl f55)))] rfl ?_
                  have gz52 := fb_rngL z52
                  have gz53 := fb_rngL z53
                  have p59 : 0 ≤ (Int32.toInt r56) := w57.1
                  have p60 : (Int32.toInt r56) ≤ 6 := w57.2.1
                  have p61 : 0 ≤ (Int32.toInt z51) := w57.2.2.1
                  have p62 : (Int32.toInt z51) ≤ 400 := w57.2.2.2
                  refine r_istore 161 C dX4_turningCurves_161 [(4, .int r56), (14, .long 0), (12, .long r44), (10, .long r41), (8, .long r38), (6, .long r35), (5, .int z10), (3, .int z12), (2, .int x9), (0, .ref h0), (1, .int x0)] (by decide) rfl ?_
                  refine r_iload_n 163 7 C dX4_turningCurves_163 rfl ?_
                  refine r_if_ne_f 164 171 C dX4_turningCurves_164 (by decide) ((fa_eq z12 0).mpr (by show (Int32.toInt z12) = 0; omega)) ?_
                  refine r_iconst 167 1 C dX4_turningCurves_167 (by decide) ?_
                  refine r_goto 168 172 C dX4_turningCurves_168 (by decide) ?_
                  refine r_istore_n 172 C dX4_turningCurves_172 [(3, .int 1), (4, .int r56), (14, .long 0), (12, .long r44), (10, .long r41), (8, .long r38), (6, .long r35), (5, .int z10), (2, .int x9), (0, .ref h0), (1, .int x0)] (by decide) rfl ?_
                  obtain ⟨z63, ez63⟩ : ∃ z_9, z10 + Int32.ofInt 4 = z_9 := ⟨_, rfl⟩
                  have tz63 : (Int32.toInt z63) = (Int32.toInt z10) + 4 := by rw [← ez63]; exact fb_addIv (a := 0) (b := 48) (c := 4) (d := 4) ⟨i23a, i23b⟩ ⟨by decide, by decide⟩ (by decide) (by decide)
                  refine r_iinc 173 7 z63 C dX4_turningCurves_173 rfl ez63 [(5, .int z63), (3, .int 1), (4, .int r56), (14, .long 0), (12, .long r44), (10, .long r41), (8, .long r38), (6, .long r35), (2, .int x9), (0, .ref h0), (1, .int x0)] (by decide) rfl ?_
                  refine r_goto 176 30 C dX4_turningCurves_176 (by decide) ?_
                  refine r_lv [(5, .int z63), (4, .int r56), (3, .int 1), (2, .int x9), (0, .ref h0), (1, .int x0)] [0, 2, 1, 8, 9, 10] rfl ?_
                  refine r_pick [(h0, .inr (0, [.ref h1, .ref h2, .ref h6, .int x1, .int x2, .long y0, .int x3, .int x4, .int x5, .int x6, .ref h7, .ref h8, .ref h9, .int x7, .int x8])), (h2, .inr (5, [.ref h4, .ref h5, .int z51, .int x12, .long z52, .long z53, .int 1])), (h3, .inl (gJ g, 48, .inr (.inl fm0))), (h4, .inl (gB g, 400, .inl f54)), (h5, .inl (gJ g, 2400, .inr (.inl f55))), (h1, .inr (6, [.ref h3, .ref h10, .int x9, .int x10]))] [0, 3, 2, 4, 5, 1] (by decide) rfl ?_
                  exact ih21 z63 r56 1 z51 z52 z53 1 f54 f55 ⟨by omega, by omega⟩ ⟨p59, p60⟩ (by decide) ⟨p61, p62⟩ (by decide) (by omega)
                · skip
                  have k64 : ¬ ((Int32.toInt z12) = 0) := fun h_9 => c49 ((fa_eq z12 0).mpr h_9)
                  refine r_aload_n 122 9 C dX4_turningCurves_122 rfl ?_
                  refine r_get 123 C dX4_turningCurves_123 (k := 1) 0 rfl rfl hiX0 (by decide) rfl (mg 2 rfl) (Or.inl rfl) rfl ?_
                  refine r_lload 126 4 C dX4_turningCurves_126 rfl ?_
                  refine r_lconst 128 0 C dX4_turningCurves_128 (by decide) ?_
                  refine r_lload 129 3 C dX4_turningCurves_129 rfl ?_
                  refine r_lload 131 2 C dX4_turningCurves_131 rfl ?_
                  refine r_lload 133 0 C dX4_turningCurves_133 rfl ?_
                  refine r_lload 135 1 C dX4_turningCurves_135 rfl ?_
                  refine r_callVi 137 C dX4_turningCurves_137 [] [(h2, .inr (5, [.ref h4, .ref h5, .int z13, .int x12, .long z14, .long z15, .int z16])), (h4, .inl (gB g, 400, .inl f17)), (h5, .inl (gJ g, 2400, .inr (.inl f18)))] [(h0, .inr (0, [.ref h1, .ref h2, .ref h6, .int x1, .int x2, .long y0, .int x3, .int x4, .int x5, .int x6, .ref h7, .ref h8, .ref h9, .int x7, .int x8])), (h1, .inr (6, [.ref h3, .ref h10, .int x9, .int x10])), (h3, .inl (gJ g, 48, .inr (.inl fm0)))] (fun sz => c246_X6_curveBy l g h2 h4 h5 r35 0 r38 r41 0 r44 z13 x12 z14 z15 z16 f17 f18 ⟨i26a, i26b⟩ i_x12 ⟨i27a, i27b⟩ sz) gX4_turningCurves_X6_curveBy rfl ⟨rfl, rfl⟩ 6 (by decide) ⟨Nat.le_of_ble_eq_true rfl, Nat.le_of_ble_eq_true rfl⟩ 1 rfl rfl [1, 2, 3] [0, 4, 5] rfl rfl (by decide) (by decide) (by decide) rfl rfl (Nat.le_of_ble_eq_true rfl) ⟨Nat.le_of_ble_eq_true rfl, Nat.le_of_ble_eq_true rfl⟩ (fun r70 u72 w71 => ?_)
                  obtain ⟨z65, z66, z67, f68, f69⟩ := u72
                  refine r_ws [(h0, .inr (0, [.ref h1, .ref h2, .ref h6, .int x1, .int x2, .long y0, .int x3, .int x4, .int x5, .int x6, .ref h7, .ref h8, .ref h9, .int x7, .int x8])), (h1, .inr (6, [.ref h3, .ref h10, .int x9, .int x10])), (h3, .inl (gJ g, 48, .inr (.inl fm0))), (h2, .inr (5, [.ref h4, .ref h5, .int z65, .int x12, .long z66, .long z67, .int 1])), (h4, .inl (gB g, 400, .inl f68)), (h5, .inl (gJ g, 2400, .inr (.inl f69)))] rfl ?_
                  have gz66 := fb_rngL z66
                  have gz67 := fb_rngL z67
                  have p73 : 0 ≤ (Int32.toInt r70) := w71.1
                  have p74 : (Int32.toInt r70) ≤ 6 := w71.2.1
                  have p75 : 0 ≤ (Int32.toInt z65) := w71.2.2.1
                  have p76 : (Int32.toInt z65) ≤ 400 := w71.2.2.2
                  refine r_goto 140 161 C dX4_turningCurves_140 (by decide) ?_
                  refine r_istore 161 C dX4_turningCurves_161 [(4, .int r70), (14, .long 0), (12, .long r44), (10, .long r41), (8, .long r38), (6, .long r35), (5, .int z10), (3, .int z12), (2, .int x9), (0, .ref h0), (1, .int x0)] (by decide) rfl ?_
                  refine r_iload_n 163 7 C dX4_turningCurves_163 rfl ?_
                  refine r_if_ne_t 164 171 C dX4_turningCurves_164 (by decide) (fun h_9 => by have h_8 : (Int32.toInt z12) = 0 := (fa_eq z12 0).mp h_9; omega) ?_
                  refine r_iconst 171 0 C dX4_turningCurves_171 (by decide) ?_
                  refine r_istore_n 172 C dX4_turningCurves_172 [(3, .int 0), (4, .int r70), (14, .long 0), (12, .long r44), (10, .long r41), (8, .long r38), (6, .long r35), (5, .int z10), (2, .int x9), (0, .ref h0), (1, .int x0)] (by decide) rfl ?_
                  obtain ⟨z77, ez77⟩ : ∃ z_9, z10 + Int32.ofInt 4 = z_9 := ⟨_, rfl⟩
                  have tz77 : (Int32.toInt z77) = (Int32.toInt z10) + 4 := by rw [← ez77]; exact fb_addIv (a := 0) (b := 48) (c := 4) (d := 4) ⟨i23a, i23b⟩ ⟨by decide, by decide⟩ (by decide) (by decide)
                  refine r_iinc 173 7 z77 C dX4_turningCurves_173 rfl ez77 [(5, .int z77), (3, .int 0), (4, .int r70), (14, .long 0), (12, .long r44), (10, .long r41), (8, .long r38), (6, .long r35), (2, .int x9), (0, .ref h0), (1, .int x0)] (by decide) rfl ?_
                  refine r_goto 176 30 C dX4_turningCurves_176 (by decide) ?_
                  refine r_lv [(5, .int z77), (4, .int r70), (3, .int 0), (2, .int x9), (0, .ref h0), (1, .int x0)] [0, 2, 1, 8, 9, 10] rfl ?_
                  refine r_pick [(h0, .inr (0, [.ref h1, .ref h2, .ref h6, .int x1, .int x2, .long y0, .int x3, .int x4, .int x5, .int x6, .ref h7, .ref h8, .ref h9, .int x7, .int x8])), (h2, .inr (5, [.ref h4, .ref h5, .int z65, .int x12, .long z66, .long z67, .int 1])), (h3, .inl (gJ g, 48, .inr (.inl fm0))), (h4, .inl (gB g, 400, .inl f68)), (h5, .inl (gJ g, 2400, .inr (.inl f69))), (h1, .inr (6, [.ref h3, .ref h10, .int x9, .int x10]))] [0, 3, 2, 4, 5, 1] (by decide) rfl ?_
                  exact ih21 z77 r70 0 z65 z66 z67 1 f68 f69 ⟨by omega, by omega⟩ ⟨p73, p74⟩ (by decide) ⟨p75, p76⟩ (by decide) (by omega)
              · skip
                have k78 : (Int32.toInt z46) = (Int32.toInt x9) := (fa_eq z46 x9).mp c47
                refine r_aload_n 101 8 C dX4_turningCurves_101 rfl ?_
                refine r_get 102 C dX4_turningCurves_102 (k := 0) 0 rfl rfl hiX0 (by decide) rfl (mg 1 rfl) (Or.inl rfl) rfl ?_
                refine r_iload 105 4 C dX4_turningCurves_105 rfl ?_
                refine r_iconst 107 4 C dX4_turningCurves_107 (by decide) ?_
                obtain ⟨z79, ez79⟩ : ∃ z_9, z10 + 4 = z_9 := ⟨_, rfl⟩
                have tz79 : (Int32.toInt z79) = (Int32.toInt z10) + 4 := by rw [← ez79]; exact fb_addIv (a := 0) (b := 48) (c := 4) (d := 4) ⟨i23a, i23b⟩ ⟨by decide, by decide⟩ (by decide) (by decide)
                refine r_iadd 108 z79 C dX4_turningCurves_108 ez79 ?_
                refine r_callVl 109 C dX4_turningCurves_109 [] [(h1, .inr (6, [.ref h3, .ref h10, .int x9, .int x10])), (h3, .inl (gJ g, 48, .inr (.inl fm0)))] [(h0, .inr (0, [.ref h1, .ref h2, .ref h6, .int x1, .int x2, .long y0, .int x3, .int x4, .int x5, .int x6, .ref h7, .ref h8, .ref h9, .int x7, .int x8])), (h2, .inr (5, [.ref h4, .ref h5, .int z13, .int x12, .long z14, .long z15, .int z16])), (h4, .inl (gB g, 400, .inl f17)), (h5, .inl (gJ g, 2400, .inr (.inl f18)))] (fun sz => c232_X7_get l g h1 h3 z79 h10 x9 x10 fm0 i_x9 i_x10 sz) gX4_turningCurves_X7_get rfl ⟨rfl, rfl⟩ 1 (by decide) ⟨Nat.le_of_ble_eq_true rfl, Nat.le_of_ble_eq_true rfl⟩ 4 rfl rfl [4, 5] [0, 1, 2, 3] rfl rfl (by decide) (by decide) (by decide) rfl rfl (Nat.le_of_ble_eq_true rfl) ⟨Nat.le_of_ble_eq_true rfl, Nat.le_of_ble_eq_true rfl⟩ (fun r80 _ w81 => ?_)
                refine r_ws [(h0, .inr (0, [.ref h1, .ref h2, .ref h6, .int x1, .int x2, .long y0, .int x3, .int x4, .int x5, .int x6, .ref h7, .ref h8, .ref h9, .int x7, .int x8])), (h2, .inr (5, [.ref h4, .ref h5, .int z13, .int x12, .long z14, .long z15, .int z16])), (h4, .inl (gB g, 400, .inl f17)), (h5, .inl (gJ g, 2400, .inr (.inl f18))), (h1, .inr (6, [.ref h3, .ref h10, .int x9, .int x10])), (h3, .inl (gJ g, 48, .inr (.inl fm0)))] rfl ?_
                have gr80 := fb_rngL r80
                refine r_goto 112 116 C dX4_turningCurves_112 (by decide) ?_
                refine r_lstore 116 C dX4_turningCurves_116 [(14, .long r80), (12, .long r44), (10, .long r41), (8, .long r38), (6, .long r35), (5, .int z10), (4, .int z11), (3, .int z12), (2, .int x9), (0, .ref h0), (1, .int x0)] (by decide) rfl ?_
                refine r_iload_n 118 7 C dX4_turningCurves_118 rfl ?_
                refine r_if_eq 119 143 C dX4_turningCurves_119 (by decide) (fun c82 => ?_) (fun c82 => ?_)
                · skip
                  have k83 : (Int32.toInt z12) = 0 := (fa_eq z12 0).mp c82
                  refine r_aload_n 143 9 C dX4_turningCurves_143 rfl ?_
                  refine r_get 144 C dX4_turningCurves_144 (k := 1) 0 rfl rfl hiX0 (by decide) rfl (mg 2 rfl) (Or.inl rfl) rfl ?_
                  refine r_lconst 147 0 C dX4_turningCurves_147 (by decide) ?_
                  refine r_lload 148 4 C dX4_turningCurves_148 rfl ?_
                  refine r_lload 150 3 C dX4_turningCurves_150 rfl ?_
                  refine r_lload 152 2 C dX4_turningCurves_152 rfl ?_
                  refine r_lload 154 1 C dX4_turningCurves_154 rfl ?_
                  refine r_lload 156 0 C dX4_turningCurves_156 rfl ?_
                  refine r_callVi 158 C dX4_turningCurves_158 [] [(h2, .inr (5, [.ref h4, .ref h5, .int z13, .int x12, .long z14, .long z15, .int z16])), (h4, .inl (gB g, 400, .inl f17)), (h5, .inl (gJ g, 2400, .inr (.inl f18)))] [(h0, .inr (0, [.ref h1, .ref h2, .ref h6, .int x1, .int x2, .long y0, .int x3, .int x4, .int x5, .int x6, .ref h7, .ref h8, .ref h9, .int x7, .int x8])), (h1, .inr (6, [.ref h3, .ref h10, .int x9, .int x10])), (h3, .inl (gJ g, 48, .inr (.inl fm0)))] (fun sz => c246_X6_curveBy l g h2 h4 h5 0 r35 r38 r41 r44 r80 z13 x12 z14 z15 z16 f17 f18 ⟨i26a, i26b⟩ i_x12 ⟨i27a, i27b⟩ sz) gX4_turningCurves_X6_curveBy rfl ⟨rfl, rfl⟩ 6 (by decide) ⟨Nat.le_of_ble_eq_true rfl, Nat.le_of_ble_eq_true rfl⟩ 1 rfl rfl [1, 2, 3] [0, 4, 5] rfl rfl (by decide) (by decide) (by decide) rfl rfl (Nat.le_of_ble_eq_true rfl) ⟨Nat.le_of_ble_eq_true rfl, Nat.le_of_ble_eq_true rfl⟩ (fun r89 u91 w90 => ?_)
                  obtain ⟨z84, z85, z86, f87, f88⟩ := u91
                  refine r_ws [(h0, .inr (0, [.ref h1, .ref h2, .ref h6, .int x1, .int x2, .long y0, .int x3, .int x4, .int x5, .int x6, .ref h7, .ref h8, .ref h9, .int x7, .int x8])), (h1, .inr (6, [.ref h3, .ref h10, .int x9, .int x10])), (h3, .inl (gJ g, 48, .inr (.inl fm0))), (h2, .inr (5, [.ref h4, .ref h5, .int z84, .int x12, .long z85, .long z86, .int 1])), (h4, .inl (gB g, 400, .inl f87)), (h5, .inl (gJ g, 2400, .inr (.inl f88)))] rfl ?_
                  have gz85 := fb_rngL z85
                  have gz86 := fb_rngL z86
                  have p92 : 0 ≤ (Int32.toInt r89) := w90.1
                  have p93 : (Int32.toInt r89) ≤ 6 := w90.2.1
                  have p94 : 0 ≤ (Int32.toInt z84) := w90.2.2.1
                  have p95 : (Int32.toInt z84) ≤ 400 := w90.2.2.2
                  refine r_istore 161 C dX4_turningCurves_161 [(4, .int r89), (14, .long r80), (12, .long r44), (10, .long r41), (8, .long r38), (6, .long r35), (5, .int z10), (3, .int z12), (2, .int x9), (0, .ref h0), (1, .int x0)] (by decide) rfl ?_
                  refine r_iload_n 163 7 C dX4_turningCurves_163 rfl ?_
                  refine r_if_ne_f 164 171 C dX4_turningCurves_164 (by decide) ((fa_eq z12 0).mpr (by show (Int32.toInt z12) = 0; omega)) ?_
                  refine r_iconst 167 1 C dX4_turningCurves_167 (by decide) ?_
                  refine r_goto 168 172 C dX4_turningCurves_168 (by decide) ?_
                  refine r_istore_n 172 C dX4_turningCurves_172 [(3, .int 1), (4, .int r89), (14, .long r80), (12, .long r44), (10, .long r41), (8, .long r38), (6, .long r35), (5, .int z10), (2, .int x9), (0, .ref h0), (1, .int x0)] (by decide) rfl ?_
                  obtain ⟨z96, ez96⟩ : ∃ z_9, z10 + Int32.ofInt 4 = z_9 := ⟨_, rfl⟩
                  have tz96 : (Int32.toInt z96) = (Int32.toInt z10) + 4 := by rw [← ez96]; exact fb_addIv (a := 0) (b := 48) (c := 4) (d := 4) ⟨i23a, i23b⟩ ⟨by decide, by decide⟩ (by decide) (by decide)
                  refine r_iinc 173 7 z96 C dX4_turningCurves_173 rfl ez96 [(5, .int z96), (3, .int 1), (4, .int r89), (14, .long r80), (12, .long r44), (10, .long r41), (8, .long r38), (6, .long r35), (2, .int x9), (0, .ref h0), (1, .int x0)] (by decide) rfl ?_
                  refine r_goto 176 30 C dX4_turningCurves_176 (by decide) ?_
                  refine r_lv [(5, .int z96), (4, .int r89), (3, .int 1), (2, .int x9), (0, .ref h0), (1, .int x0)] [0, 2, 1, 8, 9, 10] rfl ?_
                  refine r_pick [(h0, .inr (0, [.ref h1, .ref h2, .ref h6, .int x1, .int x2, .long y0, .int x3, .int x4, .int x5, .int x6, .ref h7, .ref h8, .ref h9, .int x7, .int x8])), (h2, .inr (5, [.ref h4, .ref h5, .int z84, .int x12, .long z85, .long z86, .int 1])), (h3, .inl (gJ g, 48, .inr (.inl fm0))), (h4, .inl (gB g, 400, .inl f87)), (h5, .inl (gJ g, 2400, .inr (.inl f88))), (h1, .inr (6, [.ref h3, .ref h10, .int x9, .int x10]))] [0, 3, 2, 4, 5, 1] (by decide) rfl ?_
                  exact ih21 z96 r89 1 z84 z85 z86 1 f87 f88 ⟨by omega, by omega⟩ ⟨p92, p93⟩ (by decide) ⟨p94, p95⟩ (by decide) (by omega)
                · skip
                  have k97 : ¬ ((Int32.toInt z12) = 0) := fun h_9 => c82 ((fa_eq z12 0).mpr h_9)
                  refine r_aload_n 122 9 C dX4_turningCurves_122 rfl ?_
                  refine r_get 123 C dX4_turningCurves_123 (k := 1) 0 rfl rfl hiX0 (by decide) rfl (mg 2 rfl) (Or.inl rfl) rfl ?_
                  refine r_lload 126 4 C dX4_turningCurves_126 rfl ?_
                  refine r_lconst 128 0 C dX4_turningCurves_128 (by decide) ?_
                  refine r_lload 129 3 C dX4_turningCurves_129 rfl ?_
                  refine r_lload 131 2 C dX4_turningCurves_131 rfl ?_
                  refine r_lload 133 0 C dX4_turningCurves_133 rfl ?_
                  refine r_lload 135 1 C dX4_turningCurves_135 rfl ?_
                  refine r_callVi 137 C dX4_turningCurves_137 [] [(h2, .inr (5, [.ref h4, .ref h5, .int z13, .int x12, .long z14, .long z15, .int z16])), (h4, .inl (gB g, 400, .inl f17)), (h5, .inl (gJ g, 2400, .inr (.inl f18)))] [(h0, .inr (0, [.ref h1, .ref h2, .ref h6, .int x1, .int x2, .long y0, .int x3, .int x4, .int x5, .int x6, .ref h7, .ref h8, .ref h9, .int x7, .int x8])), (h1, .inr (6, [.ref h3, .ref h10, .int x9, .int x10])), (h3, .inl (gJ g, 48, .inr (.inl fm0)))] (fun sz => c246_X6_curveBy l g h2 h4 h5 r35 0 r38 r41 r80 r44 z13 x12 z14 z15 z16 f17 f18 ⟨i26a, i26b⟩ i_x12 ⟨i27a, i27b⟩ sz) gX4_turningCurves_X6_curveBy rfl ⟨rfl, rfl⟩ 6 (by decide) ⟨Nat.le_of_ble_eq_true rfl, Nat.le_of_ble_eq_true rfl⟩ 1 rfl rfl [1, 2, 3] [0, 4, 5] rfl rfl (by decide) (by decide) (by decide) rfl rfl (Nat.le_of_ble_eq_true rfl) ⟨Nat.le_of_ble_eq_true rfl, Nat.le_of_ble_eq_true rfl⟩ (fun r103 u105 w104 => ?_)
                  obtain ⟨z98, z99, z100, f101, f102⟩ := u105
                  refine r_ws [(h0, .inr (0, [.ref h1, .ref h2, .ref h6, .int x1, .int x2, .long y0, .int x3, .int x4, .int x5, .int x6, .ref h7, .ref h8, .ref h9, .int x7, .int x8])), (h1, .inr (6, [.ref h3, .ref h10, .int x9, .int x10])), (h3, .inl (gJ g, 48, .inr (.inl fm0))), (h2, .inr (5, [.ref h4, .ref h5, .int z98, .int x12, .long z99, .long z100, .int 1])), (h4, .inl (gB g, 400, .inl f101)), (h5, .inl (gJ g, 2400, .inr (.inl f102)))] rfl ?_
                  have gz99 := fb_rngL z99
                  have gz100 := fb_rngL z100
                  have p106 : 0 ≤ (Int32.toInt r103) := w104.1
                  have p107 : (Int32.toInt r103) ≤ 6 := w104.2.1
                  have p108 : 0 ≤ (Int32.toInt z98) := w104.2.2.1
                  have p109 : (Int32.toInt z98) ≤ 400 := w104.2.2.2
                  refine r_goto 140 161 C dX4_turningCurves_140 (by decide) ?_
                  refine r_istore 161 C dX4_turningCurves_161 [(4, .int r103), (14, .long r80), (12, .long r44), (10, .long r41), (8, .long r38), (6, .long r35), (5, .int z10), (3, .int z12), (2, .int x9), (0, .ref h0), (1, .int x0)] (by decide) rfl ?_
                  refine r_iload_n 163 7 C dX4_turningCurves_163 rfl ?_
                  refine r_if_ne_t 164 171 C dX4_turningCurves_164 (by decide) (fun h_9 => by have h_8 : (Int32.toInt z12) = 0 := (fa_eq z12 0).mp h_9; omega) ?_
                  refine r_iconst 171 0 C dX4_turningCurves_171 (by decide) ?_
                  refine r_istore_n 172 C dX4_turningCurves_172 [(3, .int 0), (4, .int r103), (14, .long r80), (12, .long r44), (10, .long r41), (8, .long r38), (6, .long r35), (5, .int z10), (2, .int x9), (0, .ref h0), (1, .int x0)] (by decide) rfl ?_
                  obtain ⟨z110, ez110⟩ : ∃ z_9, z10 + Int32.ofInt 4 = z_9 := ⟨_, rfl⟩
                  have tz110 : (Int32.toInt z110) = (Int32.toInt z10) + 4 := by rw [← ez110]; exact fb_addIv (a := 0) (b := 48) (c := 4) (d := 4) ⟨i23a, i23b⟩ ⟨by decide, by decide⟩ (by decide) (by decide)
                  refine r_iinc 173 7 z110 C dX4_turningCurves_173 rfl ez110 [(5, .int z110), (3, .int 0), (4, .int r103), (14, .long r80), (12, .long r44), (10, .long r41), (8, .long r38), (6, .long r35), (2, .int x9), (0, .ref h0), (1, .int x0)] (by decide) rfl ?_
                  refine r_goto 176 30 C dX4_turningCurves_176 (by decide) ?_
                  refine r_lv [(5, .int z110), (4, .int r103), (3, .int 0), (2, .int x9), (0, .ref h0), (1, .int x0)] [0, 2, 1, 8, 9, 10] rfl ?_
                  refine r_pick [(h0, .inr (0, [.ref h1, .ref h2, .ref h6, .int x1, .int x2, .long y0, .int x3, .int x4, .int x5, .int x6, .ref h7, .ref h8, .ref h9, .int x7, .int x8])), (h2, .inr (5, [.ref h4, .ref h5, .int z98, .int x12, .long z99, .long z100, .int 1])), (h3, .inl (gJ g, 48, .inr (.inl fm0))), (h4, .inl (gB g, 400, .inl f101)), (h5, .inl (gJ g, 2400, .inr (.inl f102))), (h1, .inr (6, [.ref h3, .ref h10, .int x9, .int x10]))] [0, 3, 2, 4, 5, 1] (by decide) rfl ?_
                  exact ih21 z110 r103 0 z98 z99 z100 1 f101 f102 ⟨by omega, by omega⟩ ⟨p106, p107⟩ (by decide) ⟨p108, p109⟩ (by decide) (by omega)
      exact lp20 _ 0 0 x0 x11 y1 y2 x13 fn0 fm1 (by decide) (by decide) i_x0 i_x11 i_x13 (Nat.lt_succ_self _)
    · skip
      have k111 : ¬ ((Int32.toInt z7) ≤ 1) := fun h_9 => c8 ((fa_le z7 1).mpr h_9)
      refine r_iconst 20 2 C dX4_turningCurves_20 (by decide) ?_
      exact r_iret 21 Rt dX4_turningCurves_21 (x11, y1, y2, x13, fn0, fm1) (show 0 ≤ (Int32.toInt 2) ∧ (Int32.toInt 2) ≤ 6 ∧ 0 ≤ (Int32.toInt x11) ∧ (Int32.toInt x11) ≤ 400 ∧ 0 ≤ (Int32.toInt x13) ∧ (Int32.toInt x13) ≤ 1 from ⟨(by ((repeat' apply And.intro) <;> first | trivial | rfl | assumption | omega | decide | exact Or.inl rfl | exact Or.inr (Or.inl rfl) | exact Or.inr (Or.inr rfl))), (by ((repeat' apply And.intro) <;> first | trivial | rfl | assumption | omega | decide | exact Or.inl rfl | exact Or.inr (Or.inl rfl) | exact Or.inr (Or.inr rfl))), i_x11.1, i_x11.2, i_x13.1, i_x13.2⟩) [0, 5, 1, 2, 3, 4] (by decide) rfl (Nat.le_of_ble_eq_true rfl) (Nat.le_of_ble_eq_true rfl)
set_option maxHeartbeats 4000000 in
set_option maxRecDepth 100000 in
theorem c284_X0_flexAlongX (l : Launch) (g : GD) (h0 : Nat) (h1 : Nat) (h2 : Nat) (h3 : Nat) (h4 : Nat) (h5 : Nat) (h6 : Nat) (x0 : Int32) (x1 : Int32) (y0 : Int64) (x2 : Int32) (x3 : Int32) (x4 : Int32) (x5 : Int32) (h7 : Nat) (h8 : Nat) (h9 : Nat) (x6 : Int32) (x7 : Int32) (h10 : Nat) (x8 : Int32) (x9 : Int32) (x10 : Int32) (x11 : Int32) (y1 : Int64) (y2 : Int64) (x12 : Int32) (fm0 : Nat → Int64) (fn0 : Nat → Int32) (fm1 : Nat → Int64) (i_x5 : (0 ≤ (Int32.toInt x5) ∧ (Int32.toInt x5) ≤ 1)) (i_x6 : (0 ≤ (Int32.toInt x6) ∧ (Int32.toInt x6) ≤ 10)) (i_x7 : (0 ≤ (Int32.toInt x7) ∧ (Int32.toInt x7) ≤ 1)) (i_x8 : (0 ≤ (Int32.toInt x8) ∧ (Int32.toInt x8) ≤ 48)) (i_x9 : (0 ≤ (Int32.toInt x9) ∧ (Int32.toInt x9) ≤ 48)) (i_x10 : (0 ≤ (Int32.toInt x10) ∧ (Int32.toInt x10) ≤ 400)) (i_x11 : (0 ≤ (Int32.toInt x11) ∧ (Int32.toInt x11) ≤ 400)) (i_x12 : (0 ≤ (Int32.toInt x12) ∧ (Int32.toInt x12) ≤ 1)) (sz : Nat) : Met l yX0_flexAlongX wsX0_flexAlongX ({ frames := 2, cells := 0, slots := 0, locals := 55 }) (va_Pc [.ref h0] (PW g [(h0, .inr (0, [.ref h1, .ref h2, .ref h6, .int x0, .int x1, .long y0, .int x2, .int x3, .int x4, .int x5, .ref h7, .ref h8, .ref h9, .int x6, .int x7])), (h1, .inr (6, [.ref h3, .ref h10, .int x8, .int x9])), (h2, .inr (5, [.ref h4, .ref h5, .int x10, .int x11, .long y1, .long y2, .int x12])), (h3, .inl (gJ g, 48, .inr (.inl fm0))), (h4, .inl (gB g, 400, .inl fn0)), (h5, .inl (gJ g, 2400, .inr (.inl fm1)))] sz)) (va_Qi (fun (r : Int32) (u : (Int32) × (Int64) × (Int64) × (Nat → Int32) × (Nat → Int64)) => 0 ≤ (Int32.toInt r) ∧ (Int32.toInt r) ≤ 6 ∧ 0 ≤ (Int32.toInt (u.1)) ∧ (Int32.toInt (u.1)) ≤ 400) (BW g (va_A [(h0, .inr (0, [.ref h1, .ref h2, .ref h6, .int x0, .int x1, .long y0, .int x2, .int x3, .int x4, .int x5, .ref h7, .ref h8, .ref h9, .int x6, .int x7])), (h1, .inr (6, [.ref h3, .ref h10, .int x8, .int x9])), (h2, .inr (5, [.ref h4, .ref h5, .int x10, .int x11, .long y1, .long y2, .int x12])), (h3, .inl (gJ g, 48, .inr (.inl fm0))), (h4, .inl (gB g, 400, .inl fn0)), (h5, .inl (gJ g, 2400, .inr (.inl fm1)))] sz) (fun u : (Int32) × (Int64) × (Int64) × (Nat → Int32) × (Nat → Int64) => [(h0, .inr (0, [.ref h1, .ref h2, .ref h6, .int x0, .int x1, .long y0, .int x2, .int x3, .int x4, .int x5, .ref h7, .ref h8, .ref h9, .int x6, .int x7])), (h1, .inr (6, [.ref h3, .ref h10, .int x8, .int x9])), (h2, .inr (5, [.ref h4, .ref h5, .int u.1, .int x11, .long u.2.1, .long u.2.2.1, .int 1])), (h3, .inl (gJ g, 48, .inr (.inl fm0))), (h4, .inl (gB g, 400, .inl u.2.2.2.1)), (h5, .inl (gJ g, 2400, .inr (.inl u.2.2.2.2)))])) (va_A [(h0, .inr (0, [.ref h1, .ref h2, .ref h6, .int x0, .int x1, .long y0, .int x2, .int x3, .int x4, .int x5, .ref h7, .ref h8, .ref h9, .int x6, .int x7])), (h1, .inr (6, [.ref h3, .ref h10, .int x8, .int x9])), (h2, .inr (5, [.ref h4, .ref h5, .int x10, .int x11, .long y1, .long y2, .int x12])), (h3, .inl (gJ g, 48, .inr (.inl fm0))), (h4, .inl (gB g, 400, .inl fn0)), (h5, .inl (gJ g, 2400, .inr (.inl fm1)))] sz)) 0 0 (va_A [(h0, .inr (0, [.ref h1, .ref h2, .ref h6, .int x0, .int x1, .long y0, .int x2, .int x3, .int x4, .int x5, .ref h7, .ref h8, .ref h9, .int x6, .int x7])), (h1, .inr (6, [.ref h3, .ref h10, .int x8, .int x9])), (h2, .inr (5, [.ref h4, .ref h5, .int x10, .int x11, .long y1, .long y2, .int x12])), (h3, .inl (gJ g, 48, .inr (.inl fm0))), (h4, .inl (gB g, 400, .inl fn0)), (h5, .inl (gJ g, 2400, .inr (.inl fm1)))] sz) := by
  refine met_i RX0 (by decide) rfl rfl (Nat.le_of_ble_eq_true rfl) [(0, .ref h0)] rfl ?_
  intro p e s m args below meth c A Q C hnm Rt
  have hiX0 : ∀ w ∈ wsX00, w ∈ wsX0_flexAlongX := fun w h => List.mem_cons_of_mem _ (List.mem_append_left _ (List.mem_append_left _ (List.mem_append_left _ (List.mem_append_right _ (h)))))
  refine r_aload_n 0 0 C dX0_flexAlongX_0 rfl ?_
  refine r_get 1 C dX0_flexAlongX_1 (k := 0) 0 rfl rfl hiX0 (by decide) rfl (mg 1 rfl) (Or.inr (mg 2 rfl)) rfl ?_
  refine r_iconst 4 2 C dX0_flexAlongX_4 (by decide) ?_
  refine r_callVl 5 C dX0_flexAlongX_5 [] [(h1, .inr (6, [.ref h3, .ref h10, .int x8, .int x9])), (h3, .inl (gJ g, 48, .inr (.inl fm0)))] [(h0, .inr (0, [.ref h1, .ref h2, .ref h6, .int x0, .int x1, .long y0, .int x2, .int x3, .int x4, .int x5, .ref h7, .ref h8, .ref h9, .int x6, .int x7])), (h2, .inr (5, [.ref h4, .ref h5, .int x10, .int x11, .long y1, .long y2, .int x12])), (h4, .inl (gB g, 400, .inl fn0)), (h5, .inl (gJ g, 2400, .inr (.inl fm1)))] (fun sz => c232_X7_get l g h1 h3 2 h10 x8 x9 fm0 i_x8 i_x9 sz) gX0_flexAlongX_X7_get rfl ⟨rfl, rfl⟩ 1 (by decide) ⟨Nat.le_of_ble_eq_true rfl, Nat.le_of_ble_eq_true rfl⟩ 1 rfl rfl [1, 3] [0, 2, 4, 5] rfl rfl (by decide) (by decide) (by decide) rfl rfl (Nat.le_of_ble_eq_true rfl) ⟨Nat.le_of_ble_eq_true rfl, Nat.le_of_ble_eq_true rfl⟩ (fun r1 _ w2 => ?_)
  refine r_ws [(h0, .inr (0, [.ref h1, .ref h2, .ref h6, .int x0, .int x1, .long y0, .int x2, .int x3, .int x4, .int x5, .ref h7, .ref h8, .ref h9, .int x6, .int x7])), (h2, .inr (5, [.ref h4, .ref h5, .int x10, .int x11, .long y1, .long y2, .int x12])), (h4, .inl (gB g, 400, .inl fn0)), (h5, .inl (gJ g, 2400, .inr (.inl fm1))), (h1, .inr (6, [.ref h3, .ref h10, .int x8, .int x9])), (h3, .inl (gJ g, 48, .inr (.inl fm0)))] rfl ?_
  have gr1 := fb_rngL r1
  refine r_lstore_n 8 C dX0_flexAlongX_8 [(1, .long r1), (0, .ref h0)] (by decide) rfl ?_
  refine r_aload_n 9 1 C dX0_flexAlongX_9 rfl ?_
  refine r_get 10 C dX0_flexAlongX_10 (k := 1) 0 rfl rfl hiX0 (by decide) rfl (mg 3 rfl) (Or.inr (mg 4 rfl)) rfl ?_
  refine r_aload_n 13 1 C dX0_flexAlongX_13 rfl ?_
  refine r_get 14 C dX0_flexAlongX_14 (k := 0) 0 rfl rfl hiX0 (by decide) rfl (mg 1 rfl) (Or.inr (mg 2 rfl)) rfl ?_
  refine r_iconst 17 0 C dX0_flexAlongX_17 (by decide) ?_
  refine r_callVl 18 C dX0_flexAlongX_18 [.ref h2] [(h1, .inr (6, [.ref h3, .ref h10, .int x8, .int x9])), (h3, .inl (gJ g, 48, .inr (.inl fm0)))] [(h0, .inr (0, [.ref h1, .ref h2, .ref h6, .int x0, .int x1, .long y0, .int x2, .int x3, .int x4, .int x5, .ref h7, .ref h8, .ref h9, .int x6, .int x7])), (h2, .inr (5, [.ref h4, .ref h5, .int x10, .int x11, .long y1, .long y2, .int x12])), (h4, .inl (gB g, 400, .inl fn0)), (h5, .inl (gJ g, 2400, .inr (.inl fm1)))] (fun sz => c232_X7_get l g h1 h3 0 h10 x8 x9 fm0 i_x8 i_x9 sz) gX0_flexAlongX_X7_get rfl ⟨rfl, rfl⟩ 1 (by decide) ⟨Nat.le_of_ble_eq_true rfl, Nat.le_of_ble_eq_true rfl⟩ 4 rfl rfl [4, 5] [0, 1, 2, 3] rfl rfl (by decide) (by decide) (by decide) rfl rfl (Nat.le_of_ble_eq_true rfl) ⟨Nat.le_of_ble_eq_true rfl, Nat.le_of_ble_eq_true rfl⟩ (fun r3 _ w4 => ?_)
  refine r_ws [(h0, .inr (0, [.ref h1, .ref h2, .ref h6, .int x0, .int x1, .long y0, .int x2, .int x3, .int x4, .int x5, .ref h7, .ref h8, .ref h9, .int x6, .int x7])), (h2, .inr (5, [.ref h4, .ref h5, .int x10, .int x11, .long y1, .long y2, .int x12])), (h4, .inl (gB g, 400, .inl fn0)), (h5, .inl (gJ g, 2400, .inr (.inl fm1))), (h1, .inr (6, [.ref h3, .ref h10, .int x8, .int x9])), (h3, .inl (gJ g, 48, .inr (.inl fm0)))] rfl ?_
  have gr3 := fb_rngL r3
  refine r_lconst 21 0 C dX0_flexAlongX_21 (by decide) ?_
  refine r_aload_n 22 1 C dX0_flexAlongX_22 rfl ?_
  refine r_get 23 C dX0_flexAlongX_23 (k := 0) 0 rfl rfl hiX0 (by decide) rfl (mg 1 rfl) (Or.inr (mg 2 rfl)) rfl ?_
  refine r_iconst 26 1 C dX0_flexAlongX_26 (by decide) ?_
  refine r_callVl 27 C dX0_flexAlongX_27 [.long 0, .long r3, .ref h2] [(h1, .inr (6, [.ref h3, .ref h10, .int x8, .int x9])), (h3, .inl (gJ g, 48, .inr (.inl fm0)))] [(h0, .inr (0, [.ref h1, .ref h2, .ref h6, .int x0, .int x1, .long y0, .int x2, .int x3, .int x4, .int x5, .ref h7, .ref h8, .ref h9, .int x6, .int x7])), (h2, .inr (5, [.ref h4, .ref h5, .int x10, .int x11, .long y1, .long y2, .int x12])), (h4, .inl (gB g, 400, .inl fn0)), (h5, .inl (gJ g, 2400, .inr (.inl fm1)))] (fun sz => c232_X7_get l g h1 h3 1 h10 x8 x9 fm0 i_x8 i_x9 sz) gX0_flexAlongX_X7_get rfl ⟨rfl, rfl⟩ 1 (by decide) ⟨Nat.le_of_ble_eq_true rfl, Nat.le_of_ble_eq_true rfl⟩ 4 rfl rfl [4, 5] [0, 1, 2, 3] rfl rfl (by decide) (by decide) (by decide) rfl rfl (Nat.le_of_ble_eq_true rfl) ⟨Nat.le_of_ble_eq_true rfl, Nat.le_of_ble_eq_true rfl⟩ (fun r5 _ w6 => ?_)
  refine r_ws [(h0, .inr (0, [.ref h1, .ref h2, .ref h6, .int x0, .int x1, .long y0, .int x2, .int x3, .int x4, .int x5, .ref h7, .ref h8, .ref h9, .int x6, .int x7])), (h2, .inr (5, [.ref h4, .ref h5, .int x10, .int x11, .long y1, .long y2, .int x12])), (h4, .inl (gB g, 400, .inl fn0)), (h5, .inl (gJ g, 2400, .inr (.inl fm1))), (h1, .inr (6, [.ref h3, .ref h10, .int x8, .int x9])), (h3, .inl (gJ g, 48, .inr (.inl fm0)))] rfl ?_
  have gr5 := fb_rngL r5
  refine r_lload_n 30 0 C dX0_flexAlongX_30 rfl ?_
  refine r_aload_n 31 1 C dX0_flexAlongX_31 rfl ?_
  refine r_get 32 C dX0_flexAlongX_32 (k := 0) 0 rfl rfl hiX0 (by decide) rfl (mg 1 rfl) (Or.inr (mg 2 rfl)) rfl ?_
  refine r_iconst 35 3 C dX0_flexAlongX_35 (by decide) ?_
  refine r_callVlX 36 C dX0_flexAlongX_36 [.long r1, .long r5, .long 0, .long r3, .ref h2] [(h1, .inr (6, [.ref h3, .ref h10, .int x8, .int x9])), (h3, .inl (gJ g, 48, .inr (.inl fm0)))] [(h0, .inr (0, [.ref h1, .ref h2, .ref h6, .int x0, .int x1, .long y0, .int x2, .int x3, .int x4, .int x5, .ref h7, .ref h8, .ref h9, .int x6, .int x7])), (h2, .inr (5, [.ref h4, .ref h5, .int x10, .int x11, .long y1, .long y2, .int x12])), (h4, .inl (gB g, 400, .inl fn0)), (h5, .inl (gJ g, 2400, .inr (.inl fm1)))] (fun sz => c232_X7_get l g h1 h3 3 h10 x8 x9 fm0 i_x8 i_x9 sz) gX0_flexAlongX_X7_get rfl ⟨rfl, rfl⟩ 1 (by decide) ⟨Nat.le_of_ble_eq_true rfl, Nat.le_of_ble_eq_true rfl⟩ 4 rfl rfl [4, 5] [0, 1, 2, 3] rfl rfl (by decide) (by decide) (by decide) rfl rfl (Nat.le_of_ble_eq_true rfl) ⟨Nat.le_of_ble_eq_true rfl, Nat.le_of_ble_eq_true rfl⟩ (fun r7 _ w8 => ?_)
  refine r_ws [(h0, .inr (0, [.ref h1, .ref h2, .ref h6, .int x0, .int x1, .long y0, .int x2, .int x3, .int x4, .int x5, .ref h7, .ref h8, .ref h9, .int x6, .int x7])), (h2, .inr (5, [.ref h4, .ref h5, .int x10, .int x11, .long y1, .long y2, .int x12])), (h4, .inl (gB g, 400, .inl fn0)), (h5, .inl (gJ g, 2400, .inr (.inl fm1))), (h1, .inr (6, [.ref h3, .ref h10, .int x8, .int x9])), (h3, .inl (gJ g, 48, .inr (.inl fm0)))] rfl ?_
  have gr7 := fb_rngL r7
  refine r_lconst 39 0 C dX0_flexAlongX_39 (by decide) ?_
  refine r_callVi 40 C dX0_flexAlongX_40 [] [(h2, .inr (5, [.ref h4, .ref h5, .int x10, .int x11, .long y1, .long y2, .int x12])), (h4, .inl (gB g, 400, .inl fn0)), (h5, .inl (gJ g, 2400, .inr (.inl fm1)))] [(h0, .inr (0, [.ref h1, .ref h2, .ref h6, .int x0, .int x1, .long y0, .int x2, .int x3, .int x4, .int x5, .ref h7, .ref h8, .ref h9, .int x6, .int x7])), (h1, .inr (6, [.ref h3, .ref h10, .int x8, .int x9])), (h3, .inl (gJ g, 48, .inr (.inl fm0)))] (fun sz => c246_X6_curveBy l g h2 h4 h5 r3 0 r5 r1 r7 0 x10 x11 y1 y2 x12 fn0 fm1 i_x10 i_x11 i_x12 sz) gX0_flexAlongX_X6_curveBy rfl ⟨rfl, rfl⟩ 6 (by decide) ⟨Nat.le_of_ble_eq_true rfl, Nat.le_of_ble_eq_true rfl⟩ 1 rfl rfl [1, 2, 3] [0, 4, 5] rfl rfl (by decide) (by decide) (by decide) rfl rfl (Nat.le_of_ble_eq_true rfl) ⟨Nat.le_of_ble_eq_true rfl, Nat.le_of_ble_eq_true rfl⟩ (fun r14 u16 w15 => ?_)
  obtain ⟨z9, z10, z11, f12, f13⟩ := u16
  refine r_ws [(h0, .inr (0, [.ref h1, .ref h2, .ref h6, .int x0, .int x1, .long y0, .int x2, .int x3, .int x4, .int x5, .ref h7, .ref h8, .ref h9, .int x6, .int x7])), (h1, .inr (6, [.ref h3, .ref h10, .int x8, .int x9])), (h3, .inl (gJ g, 48, .inr (.inl fm0))), (h2, .inr (5, [.ref h4, .ref h5, .int z9, .int x11, .long z10, .long z11, .int 1])), (h4, .inl (gB g, 400, .inl f12)), (h5, .inl (gJ g, 2400, .inr (.inl f13)))] rfl ?_
  have gz10 := fb_rngL z10
  have gz11 := fb_rngL z11
  have p17 : 0 ≤ (Int32.toInt r14) := w15.1
  have p18 : (Int32.toInt r14) ≤ 6 := w15.2.1
  have p19 : 0 ≤ (Int32.toInt z9) := w15.2.2.1
  have p20 : (Int32.toInt z9) ≤ 400 := w15.2.2.2
  refine r_istore_n 43 C dX0_flexAlongX_43 [(3, .int r14), (1, .long r1), (0, .ref h0)] (by decide) rfl ?_
  refine r_iload_n 44 0 C dX0_flexAlongX_44 rfl ?_
  refine r_if_eq 45 50 C dX0_flexAlongX_45 (by decide) (fun c21 => ?_) (fun c21 => ?_)
  · skip
    have k22 : (Int32.toInt r14) = 0 := (fa_eq r14 0).mp c21
    refine r_aload_n 50 2 C dX0_flexAlongX_50 rfl ?_
    refine r_get 51 C dX0_flexAlongX_51 (k := 1) 0 rfl rfl hiX0 (by decide) rfl (mg 3 rfl) (Or.inr (mg 4 rfl)) rfl ?_
    refine r_aload_n 54 2 C dX0_flexAlongX_54 rfl ?_
    refine r_get 55 C dX0_flexAlongX_55 (k := 0) 0 rfl rfl hiX0 (by decide) rfl (mg 1 rfl) (Or.inr (mg 2 rfl)) rfl ?_
    refine r_iconst 58 4 C dX0_flexAlongX_58 (by decide) ?_
    refine r_callVl 59 C dX0_flexAlongX_59 [.ref h2] [(h1, .inr (6, [.ref h3, .ref h10, .int x8, .int x9])), (h3, .inl (gJ g, 48, .inr (.inl fm0)))] [(h0, .inr (0, [.ref h1, .ref h2, .ref h6, .int x0, .int x1, .long y0, .int x2, .int x3, .int x4, .int x5, .ref h7, .ref h8, .ref h9, .int x6, .int x7])), (h2, .inr (5, [.ref h4, .ref h5, .int z9, .int x11, .long z10, .long z11, .int 1])), (h4, .inl (gB g, 400, .inl f12)), (h5, .inl (gJ g, 2400, .inr (.inl f13)))] (fun sz => c232_X7_get l g h1 h3 4 h10 x8 x9 fm0 i_x8 i_x9 sz) gX0_flexAlongX_X7_get rfl ⟨rfl, rfl⟩ 1 (by decide) ⟨Nat.le_of_ble_eq_true rfl, Nat.le_of_ble_eq_true rfl⟩ 1 rfl rfl [1, 2] [0, 3, 4, 5] rfl rfl (by decide) (by decide) (by decide) rfl rfl (Nat.le_of_ble_eq_true rfl) ⟨Nat.le_of_ble_eq_true rfl, Nat.le_of_ble_eq_true rfl⟩ (fun r23 _ w24 => ?_)
    refine r_ws [(h0, .inr (0, [.ref h1, .ref h2, .ref h6, .int x0, .int x1, .long y0, .int x2, .int x3, .int x4, .int x5, .ref h7, .ref h8, .ref h9, .int x6, .int x7])), (h2, .inr (5, [.ref h4, .ref h5, .int z9, .int x11, .long z10, .long z11, .int 1])), (h4, .inl (gB g, 400, .inl f12)), (h5, .inl (gJ g, 2400, .inr (.inl f13))), (h1, .inr (6, [.ref h3, .ref h10, .int x8, .int x9])), (h3, .inl (gJ g, 48, .inr (.inl fm0)))] rfl ?_
    have gr23 := fb_rngL r23
    refine r_lconst 62 0 C dX0_flexAlongX_62 (by decide) ?_
    refine r_aload_n 63 2 C dX0_flexAlongX_63 rfl ?_
    refine r_get 64 C dX0_flexAlongX_64 (k := 0) 0 rfl rfl hiX0 (by decide) rfl (mg 1 rfl) (Or.inr (mg 2 rfl)) rfl ?_
    refine r_iconst 67 5 C dX0_flexAlongX_67 (by decide) ?_
    refine r_callVl 68 C dX0_flexAlongX_68 [.long 0, .long r23, .ref h2] [(h1, .inr (6, [.ref h3, .ref h10, .int x8, .int x9])), (h3, .inl (gJ g, 48, .inr (.inl fm0)))] [(h0, .inr (0, [.ref h1, .ref h2, .ref h6, .int x0, .int x1, .long y0, .int x2, .int x3, .int x4, .int x5, .ref h7, .ref h8, .ref h9, .int x6, .int x7])), (h2, .inr (5, [.ref h4, .ref h5, .int z9, .int x11, .long z10, .long z11, .int 1])), (h4, .inl (gB g, 400, .inl f12)), (h5, .inl (gJ g, 2400, .inr (.inl f13)))] (fun sz => c232_X7_get l g h1 h3 5 h10 x8 x9 fm0 i_x8 i_x9 sz) gX0_flexAlongX_X7_get rfl ⟨rfl, rfl⟩ 1 (by decide) ⟨Nat.le_of_ble_eq_true rfl, Nat.le_of_ble_eq_true rfl⟩ 4 rfl rfl [4, 5] [0, 1, 2, 3] rfl rfl (by decide) (by decide) (by decide) rfl rfl (Nat.le_of_ble_eq_true rfl) ⟨Nat.le_of_ble_eq_true rfl, Nat.le_of_ble_eq_true rfl⟩ (fun r25 _ w26 => ?_)
    refine r_ws [(h0, .inr (0, [.ref h1, .ref h2, .ref h6, .int x0, .int x1, .long y0, .int x2, .int x3, .int x4, .int x5, .ref h7, .ref h8, .ref h9, .int x6, .int x7])), (h2, .inr (5, [.ref h4, .ref h5, .int z9, .int x11, .long z10, .long z11, .int 1])), (h4, .inl (gB g, 400, .inl f12)), (h5, .inl (gJ g, 2400, .inr (.inl f13))), (h1, .inr (6, [.ref h3, .ref h10, .int x8, .int x9])), (h3, .inl (gJ g, 48, .inr (.inl fm0)))] rfl ?_
    have gr25 := fb_rngL r25
    refine r_lload_n 71 1 C dX0_flexAlongX_71 rfl ?_
    obtain ⟨z27, ez27⟩ : ∃ z_9, -r1 = z_9 := ⟨_, rfl⟩
    have gz27 := fb_rngL z27
    refine r_lneg 72 z27 C dX0_flexAlongX_72 ez27 ?_
    refine r_aload_n 73 2 C dX0_flexAlongX_73 rfl ?_
    refine r_get 74 C dX0_flexAlongX_74 (k := 0) 0 rfl rfl hiX0 (by decide) rfl (mg 1 rfl) (Or.inr (mg 2 rfl)) rfl ?_
    refine r_bipush 77 6 C dX0_flexAlongX_77 (by decide) ?_
    refine r_callVlX 79 C dX0_flexAlongX_79 [.long z27, .long r25, .long 0, .long r23, .ref h2] [(h1, .inr (6, [.ref h3, .ref h10, .int x8, .int x9])), (h3, .inl (gJ g, 48, .inr (.inl fm0)))] [(h0, .inr (0, [.ref h1, .ref h2, .ref h6, .int x0, .int x1, .long y0, .int x2, .int x3, .int x4, .int x5, .ref h7, .ref h8, .ref h9, .int x6, .int x7])), (h2, .inr (5, [.ref h4, .ref h5, .int z9, .int x11, .long z10, .long z11, .int 1])), (h4, .inl (gB g, 400, .inl f12)), (h5, .inl (gJ g, 2400, .inr (.inl f13)))] (fun sz => c232_X7_get l g h1 h3 6 h10 x8 x9 fm0 i_x8 i_x9 sz) gX0_flexAlongX_X7_get rfl ⟨rfl, rfl⟩ 1 (by decide) ⟨Nat.le_of_ble_eq_true rfl, Nat.le_of_ble_eq_true rfl⟩ 4 rfl rfl [4, 5] [0, 1, 2, 3] rfl rfl (by decide) (by decide) (by decide) rfl rfl (Nat.le_of_ble_eq_true rfl) ⟨Nat.le_of_ble_eq_true rfl, Nat.le_of_ble_eq_true rfl⟩ (fun r28 _ w29 => ?_)
    refine r_ws [(h0, .inr (0, [.ref h1, .ref h2, .ref h6, .int x0, .int x1, .long y0, .int x2, .int x3, .int x4, .int x5, .ref h7, .ref h8, .ref h9, .int x6, .int x7])), (h2, .inr (5, [.ref h4, .ref h5, .int z9, .int x11, .long z10, .long z11, .int 1])), (h4, .inl (gB g, 400, .inl f12)), (h5, .inl (gJ g, 2400, .inr (.inl f13))), (h1, .inr (6, [.ref h3, .ref h10, .int x8, .int x9])), (h3, .inl (gJ g, 48, .inr (.inl fm0)))] rfl ?_
    have gr28 := fb_rngL r28
    refine r_lconst 82 0 C dX0_flexAlongX_82 (by decide) ?_
    refine r_callVi 83 C dX0_flexAlongX_83 [] [(h2, .inr (5, [.ref h4, .ref h5, .int z9, .int x11, .long z10, .long z11, .int 1])), (h4, .inl (gB g, 400, .inl f12)), (h5, .inl (gJ g, 2400, .inr (.inl f13)))] [(h0, .inr (0, [.ref h1, .ref h2, .ref h6, .int x0, .int x1, .long y0, .int x2, .int x3, .int x4, .int x5, .ref h7, .ref h8, .ref h9, .int x6, .int x7])), (h1, .inr (6, [.ref h3, .ref h10, .int x8, .int x9])), (h3, .inl (gJ g, 48, .inr (.inl fm0)))] (fun sz => c246_X6_curveBy l g h2 h4 h5 r23 0 r25 z27 r28 0 z9 x11 z10 z11 1 f12 f13 ⟨p19, p20⟩ i_x11 (by decide) sz) gX0_flexAlongX_X6_curveBy rfl ⟨rfl, rfl⟩ 6 (by decide) ⟨Nat.le_of_ble_eq_true rfl, Nat.le_of_ble_eq_true rfl⟩ 1 rfl rfl [1, 2, 3] [0, 4, 5] rfl rfl (by decide) (by decide) (by decide) rfl rfl (Nat.le_of_ble_eq_true rfl) ⟨Nat.le_of_ble_eq_true rfl, Nat.le_of_ble_eq_true rfl⟩ (fun r35 u37 w36 => ?_)
    obtain ⟨z30, z31, z32, f33, f34⟩ := u37
    refine r_ws [(h0, .inr (0, [.ref h1, .ref h2, .ref h6, .int x0, .int x1, .long y0, .int x2, .int x3, .int x4, .int x5, .ref h7, .ref h8, .ref h9, .int x6, .int x7])), (h1, .inr (6, [.ref h3, .ref h10, .int x8, .int x9])), (h3, .inl (gJ g, 48, .inr (.inl fm0))), (h2, .inr (5, [.ref h4, .ref h5, .int z30, .int x11, .long z31, .long z32, .int 1])), (h4, .inl (gB g, 400, .inl f33)), (h5, .inl (gJ g, 2400, .inr (.inl f34)))] rfl ?_
    have gz31 := fb_rngL z31
    have gz32 := fb_rngL z32
    have p38 : 0 ≤ (Int32.toInt r35) := w36.1
    have p39 : (Int32.toInt r35) ≤ 6 := w36.2.1
    have p40 : 0 ≤ (Int32.toInt z30) := w36.2.2.1
    have p41 : (Int32.toInt z30) ≤ 400 := w36.2.2.2
    exact r_iret 86 Rt dX0_flexAlongX_86 (z30, z31, z32, f33, f34) (show 0 ≤ (Int32.toInt r35) ∧ (Int32.toInt r35) ≤ 6 ∧ 0 ≤ (Int32.toInt z30) ∧ (Int32.toInt z30) ≤ 400 from ⟨(show _ ∧ _ from ⟨p38, p39⟩).1, (show _ ∧ _ from ⟨p38, p39⟩).2, (show _ ∧ _ from ⟨p40, p41⟩).1, (show _ ∧ _ from ⟨p40, p41⟩).2⟩) [0, 1, 3, 2, 4, 5] (by decide) rfl (Nat.le_of_ble_eq_true rfl) (Nat.le_of_ble_eq_true rfl)
  · skip
    have k42 : ¬ ((Int32.toInt r14) = 0) := fun h_9 => c21 ((fa_eq r14 0).mpr h_9)
    refine r_iload_n 48 0 C dX0_flexAlongX_48 rfl ?_
    exact r_iret 49 Rt dX0_flexAlongX_49 (z9, z10, z11, f12, f13) (show 0 ≤ (Int32.toInt r14) ∧ (Int32.toInt r14) ≤ 6 ∧ 0 ≤ (Int32.toInt z9) ∧ (Int32.toInt z9) ≤ 400 from ⟨(show _ ∧ _ from ⟨p17, p18⟩).1, (show _ ∧ _ from ⟨p17, p18⟩).2, (show _ ∧ _ from ⟨p19, p20⟩).1, (show _ ∧ _ from ⟨p19, p20⟩).2⟩) [0, 1, 3, 2, 4, 5] (by decide) rfl (Nat.le_of_ble_eq_true rfl) (Nat.le_of_ble_eq_true rfl)
set_option maxHeartbeats 4000000 in
set_option maxRecDepth 100000 in
theorem c285_X0_flexBackToY (l : Launch) (g : GD) (h0 : Nat) (h1 : Nat) (h2 : Nat) (h3 : Nat) (h4 : Nat) (h5 : Nat) (h6 : Nat) (x0 : Int32) (x1 : Int32) (y0 : Int64) (x2 : Int32) (x3 : Int32) (x4 : Int32) (x5 : Int32) (h7 : Nat) (h8 : Nat) (h9 : Nat) (x6 : Int32) (x7 : Int32) (h10 : Nat) (x8 : Int32) (x9 : Int32) (x10 : Int32) (x11 : Int32) (y1 : Int64) (y2 : Int64) (x12 : Int32) (fm0 : Nat → Int64) (fn0 : Nat → Int32) (fm1 : Nat → Int64) (i_x5 : (0 ≤ (Int32.toInt x5) ∧ (Int32.toInt x5) ≤ 1)) (i_x6 : (0 ≤ (Int32.toInt x6) ∧ (Int32.toInt x6) ≤ 10)) (i_x7 : (0 ≤ (Int32.toInt x7) ∧ (Int32.toInt x7) ≤ 1)) (i_x8 : (0 ≤ (Int32.toInt x8) ∧ (Int32.toInt x8) ≤ 48)) (i_x9 : (0 ≤ (Int32.toInt x9) ∧ (Int32.toInt x9) ≤ 48)) (i_x10 : (0 ≤ (Int32.toInt x10) ∧ (Int32.toInt x10) ≤ 400)) (i_x11 : (0 ≤ (Int32.toInt x11) ∧ (Int32.toInt x11) ≤ 400)) (i_x12 : (0 ≤ (Int32.toInt x12) ∧ (Int32.toInt x12) ≤ 1)) (sz : Nat) : Met l yX0_flexBackToY wsX0_flexBackToY ({ frames := 2, cells := 0, slots := 0, locals := 55 }) (va_Pc [.ref h0] (PW g [(h0, .inr (0, [.ref h1, .ref h2, .ref h6, .int x0, .int x1, .long y0, .int x2, .int x3, .int x4, .int x5, .ref h7, .ref h8, .ref h9, .int x6, .int x7])), (h1, .inr (6, [.ref h3, .ref h10, .int x8, .int x9])), (h2, .inr (5, [.ref h4, .ref h5, .int x10, .int x11, .long y1, .long y2, .int x12])), (h3, .inl (gJ g, 48, .inr (.inl fm0))), (h4, .inl (gB g, 400, .inl fn0)), (h5, .inl (gJ g, 2400, .inr (.inl fm1)))] sz)) (va_Qi (fun (r : Int32) (u : (Int32) × (Int64) × (Int64) × (Nat → Int32) × (Nat → Int64)) => 0 ≤ (Int32.toInt r) ∧ (Int32.toInt r) ≤ 6 ∧ 0 ≤ (Int32.toInt (u.1)) ∧ (Int32.toInt (u.1)) ≤ 400) (BW g (va_A [(h0, .inr (0, [.ref h1, .ref h2, .ref h6, .int x0, .int x1, .long y0, .int x2, .int x3, .int x4, .int x5, .ref h7, .ref h8, .ref h9, .int x6, .int x7])), (h1, .inr (6, [.ref h3, .ref h10, .int x8, .int x9])), (h2, .inr (5, [.ref h4, .ref h5, .int x10, .int x11, .long y1, .long y2, .int x12])), (h3, .inl (gJ g, 48, .inr (.inl fm0))), (h4, .inl (gB g, 400, .inl fn0)), (h5, .inl (gJ g, 2400, .inr (.inl fm1)))] sz) (fun u : (Int32) × (Int64) × (Int64) × (Nat → Int32) × (Nat → Int64) => [(h0, .inr (0, [.ref h1, .ref h2, .ref h6, .int x0, .int x1, .long y0, .int x2, .int x3, .int x4, .int x5, .ref h7, .ref h8, .ref h9, .int x6, .int x7])), (h1, .inr (6, [.ref h3, .ref h10, .int x8, .int x9])), (h2, .inr (5, [.ref h4, .ref h5, .int u.1, .int x11, .long u.2.1, .long u.2.2.1, .int 1])), (h3, .inl (gJ g, 48, .inr (.inl fm0))), (h4, .inl (gB g, 400, .inl u.2.2.2.1)), (h5, .inl (gJ g, 2400, .inr (.inl u.2.2.2.2)))])) (va_A [(h0, .inr (0, [.ref h1, .ref h2, .ref h6, .int x0, .int x1, .long y0, .int x2, .int x3, .int x4, .int x5, .ref h7, .ref h8, .ref h9, .int x6, .int x7])), (h1, .inr (6, [.ref h3, .ref h10, .int x8, .int x9])), (h2, .inr (5, [.ref h4, .ref h5, .int x10, .int x11, .long y1, .long y2, .int x12])), (h3, .inl (gJ g, 48, .inr (.inl fm0))), (h4, .inl (gB g, 400, .inl fn0)), (h5, .inl (gJ g, 2400, .inr (.inl fm1)))] sz)) 0 0 (va_A [(h0, .inr (0, [.ref h1, .ref h2, .ref h6, .int x0, .int x1, .long y0, .int x2, .int x3, .int x4, .int x5, .ref h7, .ref h8, .ref h9, .int x6, .int x7])), (h1, .inr (6, [.ref h3, .ref h10, .int x8, .int x9])), (h2, .inr (5, [.ref h4, .ref h5, .int x10, .int x11, .long y1, .long y2, .int x12])), (h3, .inl (gJ g, 48, .inr (.inl fm0))), (h4, .inl (gB g, 400, .inl fn0)), (h5, .inl (gJ g, 2400, .inr (.inl fm1)))] sz) := by
  refine met_i RX0 (by decide) rfl rfl (Nat.le_of_ble_eq_true rfl) [(0, .ref h0)] rfl ?_
  intro p e s m args below meth c A Q C hnm Rt
  have hiX0 : ∀ w ∈ wsX00, w ∈ wsX0_flexBackToY := fun w h => List.mem_cons_of_mem _ (List.mem_append_left _ (List.mem_append_left _ (List.mem_append_left _ (List.mem_append_right _ (h)))))
  refine r_aload_n 0 0 C dX0_flexBackToY_0 rfl ?_
  refine r_get 1 C dX0_flexBackToY_1 (k := 0) 0 rfl rfl hiX0 (by decide) rfl (mg 1 rfl) (Or.inr (mg 2 rfl)) rfl ?_
  refine r_iconst 4 1 C dX0_flexBackToY_4 (by decide) ?_
  refine r_callVl 5 C dX0_flexBackToY_5 [] [(h1, .inr (6, [.ref h3, .ref h10, .int x8, .int x9])), (h3, .inl (gJ g, 48, .inr (.inl fm0)))] [(h0, .inr (0, [.ref h1, .ref h2, .ref h6, .int x0, .int x1, .long y0, .int x2, .int x3, .int x4, .int x5, .ref h7, .ref h8, .ref h9, .int x6, .int x7])), (h2, .inr (5, [.ref h4, .ref h5, .int x10, .int x11, .long y1, .long y2, .int x12])), (h4, .inl (gB g, 400, .inl fn0)), (h5, .inl (gJ g, 2400, .inr (.inl fm1)))] (fun sz => c232_X7_get l g h1 h3 1 h10 x8 x9 fm0 i_x8 i_x9 sz) gX0_flexBackToY_X7_get rfl ⟨rfl, rfl⟩ 1 (by decide) ⟨Nat.le_of_ble_eq_true rfl, Nat.le_of_ble_eq_true rfl⟩ 1 rfl rfl [1, 3] [0, 2, 4, 5] rfl rfl (by decide) (by decide) (by decide) rfl rfl (Nat.le_of_ble_eq_true rfl) ⟨Nat.le_of_ble_eq_true rfl, Nat.le_of_ble_eq_true rfl⟩ (fun r1 _ w2 => ?_)
  refine r_ws [(h0, .inr (0, [.ref h1, .ref h2, .ref h6, .int x0, .int x1, .long y0, .int x2, .int x3, .int x4, .int x5, .ref h7, .ref h8, .ref h9, .int x6, .int x7])), (h2, .inr (5, [.ref h4, .ref h5, .int x10, .int x11, .long y1, .long y2, .int x12])), (h4, .inl (gB g, 400, .inl fn0)), (h5, .inl (gJ g, 2400, .inr (.inl fm1))), (h1, .inr (6, [.ref h3, .ref h10, .int x8, .int x9])), (h3, .inl (gJ g, 48, .inr (.inl fm0)))] rfl ?_
  have gr1 := fb_rngL r1
  refine r_lstore_n 8 C dX0_flexBackToY_8 [(1, .long r1), (0, .ref h0)] (by decide) rfl ?_
  refine r_aload_n 9 1 C dX0_flexBackToY_9 rfl ?_
  refine r_get 10 C dX0_flexBackToY_10 (k := 0) 0 rfl rfl hiX0 (by decide) rfl (mg 1 rfl) (Or.inr (mg 2 rfl)) rfl ?_
  refine r_iconst 13 3 C dX0_flexBackToY_13 (by decide) ?_
  refine r_callVl 14 C dX0_flexBackToY_14 [] [(h1, .inr (6, [.ref h3, .ref h10, .int x8, .int x9])), (h3, .inl (gJ g, 48, .inr (.inl fm0)))] [(h0, .inr (0, [.ref h1, .ref h2, .ref h6, .int x0, .int x1, .long y0, .int x2, .int x3, .int x4, .int x5, .ref h7, .ref h8, .ref h9, .int x6, .int x7])), (h2, .inr (5, [.ref h4, .ref h5, .int x10, .int x11, .long y1, .long y2, .int x12])), (h4, .inl (gB g, 400, .inl fn0)), (h5, .inl (gJ g, 2400, .inr (.inl fm1)))] (fun sz => c232_X7_get l g h1 h3 3 h10 x8 x9 fm0 i_x8 i_x9 sz) gX0_flexBackToY_X7_get rfl ⟨rfl, rfl⟩ 1 (by decide) ⟨Nat.le_of_ble_eq_true rfl, Nat.le_of_ble_eq_true rfl⟩ 4 rfl rfl [4, 5] [0, 1, 2, 3] rfl rfl (by decide) (by decide) (by decide) rfl rfl (Nat.le_of_ble_eq_true rfl) ⟨Nat.le_of_ble_eq_true rfl, Nat.le_of_ble_eq_true rfl⟩ (fun r3 _ w4 => ?_)
  refine r_ws [(h0, .inr (0, [.ref h1, .ref h2, .ref h6, .int x0, .int x1, .long y0, .int x2, .int x3, .int x4, .int x5, .ref h7, .ref h8, .ref h9, .int x6, .int x7])), (h2, .inr (5, [.ref h4, .ref h5, .int x10, .int x11, .long y1, .long y2, .int x12])), (h4, .inl (gB g, 400, .inl fn0)), (h5, .inl (gJ g, 2400, .inr (.inl fm1))), (h1, .inr (6, [.ref h3, .ref h10, .int x8, .int x9])), (h3, .inl (gJ g, 48, .inr (.inl fm0)))] rfl ?_
  have gr3 := fb_rngL r3
  refine r_lstore_n 17 C dX0_flexBackToY_17 [(3, .long r3), (1, .long r1), (0, .ref h0)] (by decide) rfl ?_
  refine r_aload_n 18 2 C dX0_flexBackToY_18 rfl ?_
  refine r_get 19 C dX0_flexBackToY_19 (k := 0) 0 rfl rfl hiX0 (by decide) rfl (mg 1 rfl) (Or.inr (mg 2 rfl)) rfl ?_
  refine r_bipush 22 7 C dX0_flexBackToY_22 (by decide) ?_
  refine r_callVl 24 C dX0_flexBackToY_24 [] [(h1, .inr (6, [.ref h3, .ref h10, .int x8, .int x9])), (h3, .inl (gJ g, 48, .inr (.inl fm0)))] [(h0, .inr (0, [.ref h1, .ref h2, .ref h6, .int x0, .int x1, .long y0, .int x2, .int x3, .int x4, .int x5, .ref h7, .ref h8, .ref h9, .int x6, .int x7])), (h2, .inr (5, [.ref h4, .ref h5, .int x10, .int x11, .long y1, .long y2, .int x12])), (h4, .inl (gB g, 400, .inl fn0)), (h5, .inl (gJ g, 2400, .inr (.inl fm1)))] (fun sz => c232_X7_get l g h1 h3 7 h10 x8 x9 fm0 i_x8 i_x9 sz) gX0_flexBackToY_X7_get rfl ⟨rfl, rfl⟩ 1 (by decide) ⟨Nat.le_of_ble_eq_true rfl, Nat.le_of_ble_eq_true rfl⟩ 4 rfl rfl [4, 5] [0, 1, 2, 3] rfl rfl (by decide) (by decide) (by decide) rfl rfl (Nat.le_of_ble_eq_true rfl) ⟨Nat.le_of_ble_eq_true rfl, Nat.le_of_ble_eq_true rfl⟩ (fun r5 _ w6 => ?_)
  refine r_ws [(h0, .inr (0, [.ref h1, .ref h2, .ref h6, .int x0, .int x1, .long y0, .int x2, .int x3, .int x4, .int x5, .ref h7, .ref h8, .ref h9, .int x6, .int x7])), (h2, .inr (5, [.ref h4, .ref h5, .int x10, .int x11, .long y1, .long y2, .int x12])), (h4, .inl (gB g, 400, .inl fn0)), (h5, .inl (gJ g, 2400, .inr (.inl fm1))), (h1, .inr (6, [.ref h3, .ref h10, .int x8, .int x9])), (h3, .inl (gJ g, 48, .inr (.inl fm0)))] rfl ?_
  have gr5 := fb_rngL r5
  refine r_lstore 27 C dX0_flexBackToY_27 [(5, .long r5), (3, .long r3), (1, .long r1), (0, .ref h0)] (by decide) rfl ?_
  refine r_aload_n 29 3 C dX0_flexBackToY_29 rfl ?_
  refine r_get 30 C dX0_flexBackToY_30 (k := 1) 0 rfl rfl hiX0 (by decide) rfl (mg 3 rfl) (Or.inr (mg 4 rfl)) rfl ?_
  refine r_aload_n 33 3 C dX0_flexBackToY_33 rfl ?_
  refine r_get 34 C dX0_flexBackToY_34 (k := 0) 0 rfl rfl hiX0 (by decide) rfl (mg 1 rfl) (Or.inr (mg 2 rfl)) rfl ?_
  refine r_iconst 37 0 C dX0_flexBackToY_37 (by decide) ?_
  refine r_callVl 38 C dX0_flexBackToY_38 [.ref h2] [(h1, .inr (6, [.ref h3, .ref h10, .int x8, .int x9])), (h3, .inl (gJ g, 48, .inr (.inl fm0)))] [(h0, .inr (0, [.ref h1, .ref h2, .ref h6, .int x0, .int x1, .long y0, .int x2, .int x3, .int x4, .int x5, .ref h7, .ref h8, .ref h9, .int x6, .int x7])), (h2, .inr (5, [.ref h4, .ref h5, .int x10, .int x11, .long y1, .long y2, .int x12])), (h4, .inl (gB g, 400, .inl fn0)), (h5, .inl (gJ g, 2400, .inr (.inl fm1)))] (fun sz => c232_X7_get l g h1 h3 0 h10 x8 x9 fm0 i_x8 i_x9 sz) gX0_flexBackToY_X7_get rfl ⟨rfl, rfl⟩ 1 (by decide) ⟨Nat.le_of_ble_eq_true rfl, Nat.le_of_ble_eq_true rfl⟩ 4 rfl rfl [4, 5] [0, 1, 2, 3] rfl rfl (by decide) (by decide) (by decide) rfl rfl (Nat.le_of_ble_eq_true rfl) ⟨Nat.le_of_ble_eq_true rfl, Nat.le_of_ble_eq_true rfl⟩ (fun r7 _ w8 => ?_)
  refine r_ws [(h0, .inr (0, [.ref h1, .ref h2, .ref h6, .int x0, .int x1, .long y0, .int x2, .int x3, .int x4, .int x5, .ref h7, .ref h8, .ref h9, .int x6, .int x7])), (h2, .inr (5, [.ref h4, .ref h5, .int x10, .int x11, .long y1, .long y2, .int x12])), (h4, .inl (gB g, 400, .inl fn0)), (h5, .inl (gJ g, 2400, .inr (.inl fm1))), (h1, .inr (6, [.ref h3, .ref h10, .int x8, .int x9])), (h3, .inl (gJ g, 48, .inr (.inl fm0)))] rfl ?_
  have gr7 := fb_rngL r7
  refine r_lload_n 41 2 C dX0_flexBackToY_41 rfl ?_
  refine r_aload_n 42 3 C dX0_flexBackToY_42 rfl ?_
  refine r_get 43 C dX0_flexBackToY_43 (k := 0) 0 rfl rfl hiX0 (by decide) rfl (mg 1 rfl) (Or.inr (mg 2 rfl)) rfl ?_
  refine r_iconst 46 2 C dX0_flexBackToY_46 (by decide) ?_
  refine r_callVl 47 C dX0_flexBackToY_47 [.long r1, .long r7, .ref h2] [(h1, .inr (6, [.ref h3, .ref h10, .int x8, .int x9])), (h3, .inl (gJ g, 48, .inr (.inl fm0)))] [(h0, .inr (0, [.ref h1, .ref h2, .ref h6, .int x0, .int x1, .long y0, .int x2, .int x3, .int x4, .int x5, .ref h7, .ref h8, .ref h9, .int x6, .int x7])), (h2, .inr (5, [.ref h4, .ref h5, .int x10, .int x11, .long y1, .long y2, .int x12])), (h4, .inl (gB g, 400, .inl fn0)), (h5, .inl (gJ g, 2400, .inr (.inl fm1)))] (fun sz => c232_X7_get l g h1 h3 2 h10 x8 x9 fm0 i_x8 i_x9 sz) gX0_flexBackToY_X7_get rfl ⟨rfl, rfl⟩ 1 (by decide) ⟨Nat.le_of_ble_eq_true rfl, Nat.le_of_ble_eq_true rfl⟩ 4 rfl rfl [4, 5] [0, 1, 2, 3] rfl rfl (by decide) (by decide) (by decide) rfl rfl (Nat.le_of_ble_eq_true rfl) ⟨Nat.le_of_ble_eq_true rfl, Nat.le_of_ble_eq_true rfl⟩ (fun r9 _ w10 => ?_)
  refine r_ws [(h0, .inr (0, [.ref h1, .ref h2, .ref h6, .int x0, .int x1, .long y0, .int x2, .int x3, .int x4, .int x5, .ref h7, .ref h8, .ref h9, .int x6, .int x7])), (h2, .inr (5, [.ref h4, .ref h5, .int x10, .int x11, .long y1, .long y2, .int x12])), (h4, .inl (gB g, 400, .inl fn0)), (h5, .inl (gJ g, 2400, .inr (.inl fm1))), (h1, .inr (6, [.ref h3, .ref h10, .int x8, .int x9])), (h3, .inl (gJ g, 48, .inr (.inl fm0)))] rfl ?_
  have gr9 := fb_rngL r9
  refine r_lload_n 50 1 C dX0_flexBackToY_50 rfl ?_
  refine r_aload_n 51 3 C dX0_flexBackToY_51 rfl ?_
  refine r_get 52 C dX0_flexBackToY_52 (k := 0) 0 rfl rfl hiX0 (by decide) rfl (mg 1 rfl) (Or.inr (mg 2 rfl)) rfl ?_
  refine r_iconst 55 4 C dX0_flexBackToY_55 (by decide) ?_
  refine r_callVlX 56 C dX0_flexBackToY_56 [.long r3, .long r9, .long r1, .long r7, .ref h2] [(h1, .inr (6, [.ref h3, .ref h10, .int x8, .int x9])), (h3, .inl (gJ g, 48, .inr (.inl fm0)))] [(h0, .inr (0, [.ref h1, .ref h2, .ref h6, .int x0, .int x1, .long y0, .int x2, .int x3, .int x4, .int x5, .ref h7, .ref h8, .ref h9, .int x6, .int x7])), (h2, .inr (5, [.ref h4, .ref h5, .int x10, .int x11, .long y1, .long y2, .int x12])), (h4, .inl (gB g, 400, .inl fn0)), (h5, .inl (gJ g, 2400, .inr (.inl fm1)))] (fun sz => c232_X7_get l g h1 h3 4 h10 x8 x9 fm0 i_x8 i_x9 sz) gX0_flexBackToY_X7_get rfl ⟨rfl, rfl⟩ 1 (by decide) ⟨Nat.le_of_ble_eq_true rfl, Nat.le_of_ble_eq_true rfl⟩ 4 rfl rfl [4, 5] [0, 1, 2, 3] rfl rfl (by decide) (by decide) (by decide) rfl rfl (Nat.le_of_ble_eq_true rfl) ⟨Nat.le_of_ble_eq_true rfl, Nat.le_of_ble_eq_true rfl⟩ (fun r11 _ w12 => ?_)
  refine r_ws [(h0, .inr (0, [.ref h1, .ref h2, .ref h6, .int x0, .int x1, .long y0, .int x2, .int x3, .int x4, .int x5, .ref h7, .ref h8, .ref h9, .int x6, .int x7])), (h2, .inr (5, [.ref h4, .ref h5, .int x10, .int x11, .long y1, .long y2, .int x12])), (h4, .inl (gB g, 400, .inl fn0)), (h5, .inl (gJ g, 2400, .inr (.inl fm1))), (h1, .inr (6, [.ref h3, .ref h10, .int x8, .int x9])), (h3, .inl (gJ g, 48, .inr (.inl fm0)))] rfl ?_
  have gr11 := fb_rngL r11
  refine r_lconst 59 0 C dX0_flexBackToY_59 (by decide) ?_
  refine r_callVi 60 C dX0_flexBackToY_60 [] [(h2, .inr (5, [.ref h4, .ref h5, .int x10, .int x11, .long y1, .long y2, .int x12])), (h4, .inl (gB g, 400, .inl fn0)), (h5, .inl (gJ g, 2400, .inr (.inl fm1)))] [(h0, .inr (0, [.ref h1, .ref h2, .ref h6, .int x0, .int x1, .long y0, .int x2, .int x3, .int x4, .int x5, .ref h7, .ref h8, .ref h9, .int x6, .int x7])), (h1, .inr (6, [.ref h3, .ref h10, .int x8, .int x9])), (h3, .inl (gJ g, 48, .inr (.inl fm0)))] (fun sz => c246_X6_curveBy l g h2 h4 h5 r7 r1 r9 r3 r11 0 x10 x11 y1 y2 x12 fn0 fm1 i_x10 i_x11 i_x12 sz) gX0_flexBackToY_X6_curveBy rfl ⟨rfl, rfl⟩ 6 (by decide) ⟨Nat.le_of_ble_eq_true rfl, Nat.le_of_ble_eq_true rfl⟩ 1 rfl rfl [1, 2, 3] [0, 4, 5] rfl rfl (by decide) (by decide) (by decide) rfl rfl (Nat.le_of_ble_eq_true rfl) ⟨Nat.le_of_ble_eq_true rfl, Nat.le_of_ble_eq_true rfl⟩ (fun r18 u20 w19 => ?_)
  obtain ⟨z13, z14, z15, f16, f17⟩ := u20
  refine r_ws [(h0, .inr (0, [.ref h1, .ref h2, .ref h6, .int x0, .int x1, .long y0, .int x2, .int x3, .int x4, .int x5, .ref h7, .ref h8, .ref h9, .int x6, .int x7])), (h1, .inr (6, [.ref h3, .ref h10, .int x8, .int x9])), (h3, .inl (gJ g, 48, .inr (.inl fm0))), (h2, .inr (5, [.ref h4, .ref h5, .int z13, .int x11, .long z14, .long z15, .int 1])), (h4, .inl (gB g, 400, .inl f16)), (h5, .inl (gJ g, 2400, .inr (.inl f17)))] rfl ?_
  have gz14 := fb_rngL z14
  have gz15 := fb_rngL z15
  have p21 : 0 ≤ (Int32.toInt r18) := w19.1
  have p22 : (Int32.toInt r18) ≤ 6 := w19.2.1
  have p23 : 0 ≤ (Int32.toInt z13) := w19.2.2.1
  have p24 : (Int32.toInt z13) ≤ 400 := w19.2.2.2
  refine r_istore 63 C dX0_flexBackToY_63 [(7, .int r18), (5, .long r5), (3, .long r3), (1, .long r1), (0, .ref h0)] (by decide) rfl ?_
  refine r_iload 65 0 C dX0_flexBackToY_65 rfl ?_
  refine r_if_eq 67 73 C dX0_flexBackToY_67 (by decide) (fun c25 => ?_) (fun c25 => ?_)
  · skip
    have k26 : (Int32.toInt r18) = 0 := (fa_eq r18 0).mp c25
    refine r_aload_n 73 4 C dX0_flexBackToY_73 rfl ?_
    refine r_get 74 C dX0_flexBackToY_74 (k := 1) 0 rfl rfl hiX0 (by decide) rfl (mg 3 rfl) (Or.inr (mg 4 rfl)) rfl ?_
    refine r_aload_n 77 4 C dX0_flexBackToY_77 rfl ?_
    refine r_get 78 C dX0_flexBackToY_78 (k := 0) 0 rfl rfl hiX0 (by decide) rfl (mg 1 rfl) (Or.inr (mg 2 rfl)) rfl ?_
    refine r_iconst 81 5 C dX0_flexBackToY_81 (by decide) ?_
    refine r_callVl 82 C dX0_flexBackToY_82 [.ref h2] [(h1, .inr (6, [.ref h3, .ref h10, .int x8, .int x9])), (h3, .inl (gJ g, 48, .inr (.inl fm0)))] [(h0, .inr (0, [.ref h1, .ref h2, .ref h6, .int x0, .int x1, .long y0, .int x2, .int x3, .int x4, .int x5, .ref h7, .ref h8, .ref h9, .int x6, .int x7])), (h2, .inr (5, [.ref h4, .ref h5, .int z13, .int x11, .long z14, .long z15, .int 1])), (h4, .inl (gB g, 400, .inl f16)), (h5, .inl (gJ g, 2400, .inr (.inl f17)))] (fun sz => c232_X7_get l g h1 h3 5 h10 x8 x9 fm0 i_x8 i_x9 sz) gX0_flexBackToY_X7_get rfl ⟨rfl, rfl⟩ 1 (by decide) ⟨Nat.le_of_ble_eq_true rfl, Nat.le_of_ble_eq_true rfl⟩ 1 rfl rfl [1, 2] [0, 3, 4, 5] rfl rfl (by decide) (by decide) (by decide) rfl rfl (Nat.le_of_ble_eq_true rfl) ⟨Nat.le_of_ble_eq_true rfl, Nat.le_of_ble_eq_true rfl⟩ (fun r27 _ w28 => ?_)
    refine r_ws [(h0, .inr (0, [.ref h1, .ref h2, .ref h6, .int x0, .int x1, .long y0, .int x2, .int x3, .int x4, .int x5, .ref h7, .ref h8, .ref h9, .int x6, .int x7])), (h2, .inr (5, [.ref h4, .ref h5, .int z13, .int x11, .long z14, .long z15, .int 1])), (h4, .inl (gB g, 400, .inl f16)), (h5, .inl (gJ g, 2400, .inr (.inl f17))), (h1, .inr (6, [.ref h3, .ref h10, .int x8, .int x9])), (h3, .inl (gJ g, 48, .inr (.inl fm0)))] rfl ?_
    have gr27 := fb_rngL r27
    refine r_lconst 85 0 C dX0_flexBackToY_85 (by decide) ?_
    refine r_aload_n 86 4 C dX0_flexBackToY_86 rfl ?_
    refine r_get 87 C dX0_flexBackToY_87 (k := 0) 0 rfl rfl hiX0 (by decide) rfl (mg 1 rfl) (Or.inr (mg 2 rfl)) rfl ?_
    refine r_bipush 90 6 C dX0_flexBackToY_90 (by decide) ?_
    refine r_callVl 92 C dX0_flexBackToY_92 [.long 0, .long r27, .ref h2] [(h1, .inr (6, [.ref h3, .ref h10, .int x8, .int x9])), (h3, .inl (gJ g, 48, .inr (.inl fm0)))] [(h0, .inr (0, [.ref h1, .ref h2, .ref h6, .int x0, .int x1, .long y0, .int x2, .int x3, .int x4, .int x5, .ref h7, .ref h8, .ref h9, .int x6, .int x7])), (h2, .inr (5, [.ref h4, .ref h5, .int z13, .int x11, .long z14, .long z15, .int 1])), (h4, .inl (gB g, 400, .inl f16)), (h5, .inl (gJ g, 2400, .inr (.inl f17)))] (fun sz => c232_X7_get l g h1 h3 6 h10 x8 x9 fm0 i_x8 i_x9 sz) gX0_flexBackToY_X7_get rfl ⟨rfl, rfl⟩ 1 (by decide) ⟨Nat.le_of_ble_eq_true rfl, Nat.le_of_ble_eq_true rfl⟩ 4 rfl rfl [4, 5] [0, 1, 2, 3] rfl rfl (by decide) (by decide) (by decide) rfl rfl (Nat.le_of_ble_eq_true rfl) ⟨Nat.le_of_ble_eq_true rfl, Nat.le_of_ble_eq_true rfl⟩ (fun r29 _ w30 => ?_)
    refine r_ws [(h0, .inr (0, [.ref h1, .ref h2, .ref h6, .int x0, .int x1, .long y0, .int x2, .int x3, .int x4, .int x5, .ref h7, .ref h8, .ref h9, .int x6, .int x7])), (h2, .inr (5, [.ref h4, .ref h5, .int z13, .int x11, .long z14, .long z15, .int 1])), (h4, .inl (gB g, 400, .inl f16)), (h5, .inl (gJ g, 2400, .inr (.inl f17))), (h1, .inr (6, [.ref h3, .ref h10, .int x8, .int x9])), (h3, .inl (gJ g, 48, .inr (.inl fm0)))] rfl ?_
    have gr29 := fb_rngL r29
    refine r_lload 95 1 C dX0_flexBackToY_95 rfl ?_
    refine r_aload_n 97 4 C dX0_flexBackToY_97 rfl ?_
    refine r_get 98 C dX0_flexBackToY_98 (k := 0) 0 rfl rfl hiX0 (by decide) rfl (mg 1 rfl) (Or.inr (mg 2 rfl)) rfl ?_
    refine r_bipush 101 8 C dX0_flexBackToY_101 (by decide) ?_
    refine r_callVlX 103 C dX0_flexBackToY_103 [.long r5, .long r29, .long 0, .long r27, .ref h2] [(h1, .inr (6, [.ref h3, .ref h10, .int x8, .int x9])), (h3, .inl (gJ g, 48, .inr (.inl fm0)))] [(h0, .inr (0, [.ref h1, .ref h2, .ref h6, .int x0, .int x1, .long y0, .int x2, .int x3, .int x4, .int x5, .ref h7, .ref h8, .ref h9, .int x6, .int x7])), (h2, .inr (5, [.ref h4, .ref h5, .int z13, .int x11, .long z14, .long z15, .int 1])), (h4, .inl (gB g, 400, .inl f16)), (h5, .inl (gJ g, 2400, .inr (.inl f17)))] (fun sz => c232_X7_get l g h1 h3 8 h10 x8 x9 fm0 i_x8 i_x9 sz) gX0_flexBackToY_X7_get rfl ⟨rfl, rfl⟩ 1 (by decide) ⟨Nat.le_of_ble_eq_true rfl, Nat.le_of_ble_eq_true rfl⟩ 4 rfl rfl [4, 5] [0, 1, 2, 3] rfl rfl (by decide) (by decide) (by decide) rfl rfl (Nat.le_of_ble_eq_true rfl) ⟨Nat.le_of_ble_eq_true rfl, Nat.le_of_ble_eq_true rfl⟩ (fun r31 _ w32 => ?_)
    refine r_ws [(h0, .inr (0, [.ref h1, .ref h2, .ref h6, .int x0, .int x1, .long y0, .int x2, .int x3, .int x4, .int x5, .ref h7, .ref h8, .ref h9, .int x6, .int x7])), (h2, .inr (5, [.ref h4, .ref h5, .int z13, .int x11, .long z14, .long z15, .int 1])), (h4, .inl (gB g, 400, .inl f16)), (h5, .inl (gJ g, 2400, .inr (.inl f17))), (h1, .inr (6, [.ref h3, .ref h10, .int x8, .int x9])), (h3, .inl (gJ g, 48, .inr (.inl fm0)))] rfl ?_
    have gr31 := fb_rngL r31
    refine r_lload_n 106 3 C dX0_flexBackToY_106 rfl ?_
    refine r_lload_n 107 2 C dX0_flexBackToY_107 rfl ?_
    obtain ⟨z33, ez33⟩ : ∃ z_9, r1 + r3 = z_9 := ⟨_, rfl⟩
    have gz33 := fb_rngL z33
    refine r_ladd 108 z33 C dX0_flexBackToY_108 ez33 ?_
    refine r_lload 109 1 C dX0_flexBackToY_109 rfl ?_
    obtain ⟨z34, ez34⟩ : ∃ z_9, z33 + r5 = z_9 := ⟨_, rfl⟩
    have gz34 := fb_rngL z34
    refine r_ladd 111 z34 C dX0_flexBackToY_111 ez34 ?_
    obtain ⟨z35, ez35⟩ : ∃ z_9, -z34 = z_9 := ⟨_, rfl⟩
    have gz35 := fb_rngL z35
    refine r_lneg 112 z35 C dX0_flexBackToY_112 ez35 ?_
    refine r_callVi 113 C dX0_flexBackToY_113 [] [(h2, .inr (5, [.ref h4, .ref h5, .int z13, .int x11, .long z14, .long z15, .int 1])), (h4, .inl (gB g, 400, .inl f16)), (h5, .inl (gJ g, 2400, .inr (.inl f17)))] [(h0, .inr (0, [.ref h1, .ref h2, .ref h6, .int x0, .int x1, .long y0, .int x2, .int x3, .int x4, .int x5, .ref h7, .ref h8, .ref h9, .int x6, .int x7])), (h1, .inr (6, [.ref h3, .ref h10, .int x8, .int x9])), (h3, .inl (gJ g, 48, .inr (.inl fm0)))] (fun sz => c246_X6_curveBy l g h2 h4 h5 r27 0 r29 r5 r31 z35 z13 x11 z14 z15 1 f16 f17 ⟨p23, p24⟩ i_x11 (by decide) sz) gX0_flexBackToY_X6_curveBy rfl ⟨rfl, rfl⟩ 6 (by decide) ⟨Nat.le_of_ble_eq_true rfl, Nat.le_of_ble_eq_true rfl⟩ 1 rfl rfl [1, 2, 3] [0, 4, 5] rfl rfl (by decide) (by decide) (by decide) rfl rfl (Nat.le_of_ble_eq_true rfl) ⟨Nat.le_of_ble_eq_true rfl, Nat.le_of_ble_eq_true rfl⟩ (fun r41 u43 w42 => ?_)
    obtain ⟨z36, z37, z38, f39, f40⟩ := u43
    refine r_ws [(h0, .inr (0, [.ref h1, .ref h2, .ref h6, .int x0, .int x1, .long y0, .int x2, .int x3, .int x4, .int x5, .ref h7, .ref h8, .ref h9, .int x6, .int x7])), (h1, .inr (6, [.ref h3, .ref h10, .int x8, .int x9])), (h3, .inl (gJ g, 48, .inr (.inl fm0))), (h2, .inr (5, [.ref h4, .ref h5, .int z36, .int x11, .long z37, .long z38, .int 1])), (h4, .inl (gB g, 400, .inl f39)), (h5, .inl (gJ g, 2400, .inr (.inl f40)))] rfl ?_
    have gz37 := fb_rngL z37
    have gz38 := fb_rngL z38
    have p44 : 0 ≤ (Int32.toInt r41) := w42.1
    have p45 : (Int32.toInt r41) ≤ 6 := w42.2.1
    have p46 : 0 ≤ (Int32.toInt z36) := w42.2.2.1
    have p47 : (Int32.toInt z36) ≤ 400 := w42.2.2.2
    exact r_iret 116 Rt dX0_flexBackToY_116 (z36, z37, z38, f39, f40) (show 0 ≤ (Int32.toInt r41) ∧ (Int32.toInt r41) ≤ 6 ∧ 0 ≤ (Int32.toInt z36) ∧ (Int32.toInt z36) ≤ 400 from ⟨(show _ ∧ _ from ⟨p44, p45⟩).1, (show _ ∧ _ from ⟨p44, p45⟩).2, (show _ ∧ _ from ⟨p46, p47⟩).1, (show _ ∧ _ from ⟨p46, p47⟩).2⟩) [0, 1, 3, 2, 4, 5] (by decide) rfl (Nat.le_of_ble_eq_true rfl) (Nat.le_of_ble_eq_true rfl)
  · skip
    have k48 : ¬ ((Int32.toInt r18) = 0) := fun h_9 => c25 ((fa_eq r18 0).mpr h_9)
    refine r_iload 70 0 C dX0_flexBackToY_70 rfl ?_
    exact r_iret 72 Rt dX0_flexBackToY_72 (z13, z14, z15, f16, f17) (show 0 ≤ (Int32.toInt r18) ∧ (Int32.toInt r18) ≤ 6 ∧ 0 ≤ (Int32.toInt z13) ∧ (Int32.toInt z13) ≤ 400 from ⟨(show _ ∧ _ from ⟨p21, p22⟩).1, (show _ ∧ _ from ⟨p21, p22⟩).2, (show _ ∧ _ from ⟨p23, p24⟩).1, (show _ ∧ _ from ⟨p23, p24⟩).2⟩) [0, 1, 3, 2, 4, 5] (by decide) rfl (Nat.le_of_ble_eq_true rfl) (Nat.le_of_ble_eq_true rfl)
set_option maxHeartbeats 4000000 in
set_option maxRecDepth 100000 in
theorem c286_X0_flexBack (l : Launch) (g : GD) (h0 : Nat) (h1 : Nat) (h2 : Nat) (h3 : Nat) (h4 : Nat) (h5 : Nat) (h6 : Nat) (x0 : Int32) (x1 : Int32) (y0 : Int64) (x2 : Int32) (x3 : Int32) (x4 : Int32) (x5 : Int32) (h7 : Nat) (h8 : Nat) (h9 : Nat) (x6 : Int32) (x7 : Int32) (h10 : Nat) (x8 : Int32) (x9 : Int32) (x10 : Int32) (x11 : Int32) (y1 : Int64) (y2 : Int64) (x12 : Int32) (fm0 : Nat → Int64) (fn0 : Nat → Int32) (fm1 : Nat → Int64) (i_x5 : (0 ≤ (Int32.toInt x5) ∧ (Int32.toInt x5) ≤ 1)) (i_x6 : (0 ≤ (Int32.toInt x6) ∧ (Int32.toInt x6) ≤ 10)) (i_x7 : (0 ≤ (Int32.toInt x7) ∧ (Int32.toInt x7) ≤ 1)) (i_x8 : (0 ≤ (Int32.toInt x8) ∧ (Int32.toInt x8) ≤ 48)) (i_x9 : (0 ≤ (Int32.toInt x9) ∧ (Int32.toInt x9) ≤ 48)) (i_x10 : (0 ≤ (Int32.toInt x10) ∧ (Int32.toInt x10) ≤ 400)) (i_x11 : (0 ≤ (Int32.toInt x11) ∧ (Int32.toInt x11) ≤ 400)) (i_x12 : (0 ≤ (Int32.toInt x12) ∧ (Int32.toInt x12) ≤ 1)) (sz : Nat) : Met l yX0_flexBack wsX0_flexBack ({ frames := 3, cells := 0, slots := 0, locals := 79 }) (va_Pc [.ref h0] (PW g [(h0, .inr (0, [.ref h1, .ref h2, .ref h6, .int x0, .int x1, .long y0, .int x2, .int x3, .int x4, .int x5, .ref h7, .ref h8, .ref h9, .int x6, .int x7])), (h1, .inr (6, [.ref h3, .ref h10, .int x8, .int x9])), (h2, .inr (5, [.ref h4, .ref h5, .int x10, .int x11, .long y1, .long y2, .int x12])), (h3, .inl (gJ g, 48, .inr (.inl fm0))), (h4, .inl (gB g, 400, .inl fn0)), (h5, .inl (gJ g, 2400, .inr (.inl fm1)))] sz)) (va_Qi (fun (r : Int32) (u : (Int32) × (Int64) × (Int64) × (Int32) × (Nat → Int32) × (Nat → Int64)) => 0 ≤ (Int32.toInt r) ∧ (Int32.toInt r) ≤ 6 ∧ 0 ≤ (Int32.toInt (u.1)) ∧ (Int32.toInt (u.1)) ≤ 400 ∧ 0 ≤ (Int32.toInt (u.2.2.2.1)) ∧ (Int32.toInt (u.2.2.2.1)) ≤ 1) (BW g (va_A [(h0, .inr (0, [.ref h1, .ref h2, .ref h6, .int x0, .int x1, .long y0, .int x2, .int x3, .int x4, .int x5, .ref h7, .ref h8, .ref h9, .int x6, .int x7])), (h1, .inr (6, [.ref h3, .ref h10, .int x8, .int x9])), (h2, .inr (5, [.ref h4, .ref h5, .int x10, .int x11, .long y1, .long y2, .int x12])), (h3, .inl (gJ g, 48, .inr (.inl fm0))), (h4, .inl (gB g, 400, .inl fn0)), (h5, .inl (gJ g, 2400, .inr (.inl fm1)))] sz) (fun u : (Int32) × (Int64) × (Int64) × (Int32) × (Nat → Int32) × (Nat → Int64) => [(h0, .inr (0, [.ref h1, .ref h2, .ref h6, .int x0, .int x1, .long y0, .int x2, .int x3, .int x4, .int x5, .ref h7, .ref h8, .ref h9, .int x6, .int x7])), (h1, .inr (6, [.ref h3, .ref h10, .int x8, .int x9])), (h2, .inr (5, [.ref h4, .ref h5, .int u.1, .int x11, .long u.2.1, .long u.2.2.1, .int u.2.2.2.1])), (h3, .inl (gJ g, 48, .inr (.inl fm0))), (h4, .inl (gB g, 400, .inl u.2.2.2.2.1)), (h5, .inl (gJ g, 2400, .inr (.inl u.2.2.2.2.2)))])) (va_A [(h0, .inr (0, [.ref h1, .ref h2, .ref h6, .int x0, .int x1, .long y0, .int x2, .int x3, .int x4, .int x5, .ref h7, .ref h8, .ref h9, .int x6, .int x7])), (h1, .inr (6, [.ref h3, .ref h10, .int x8, .int x9])), (h2, .inr (5, [.ref h4, .ref h5, .int x10, .int x11, .long y1, .long y2, .int x12])), (h3, .inl (gJ g, 48, .inr (.inl fm0))), (h4, .inl (gB g, 400, .inl fn0)), (h5, .inl (gJ g, 2400, .inr (.inl fm1)))] sz)) 0 0 (va_A [(h0, .inr (0, [.ref h1, .ref h2, .ref h6, .int x0, .int x1, .long y0, .int x2, .int x3, .int x4, .int x5, .ref h7, .ref h8, .ref h9, .int x6, .int x7])), (h1, .inr (6, [.ref h3, .ref h10, .int x8, .int x9])), (h2, .inr (5, [.ref h4, .ref h5, .int x10, .int x11, .long y1, .long y2, .int x12])), (h3, .inl (gJ g, 48, .inr (.inl fm0))), (h4, .inl (gB g, 400, .inl fn0)), (h5, .inl (gJ g, 2400, .inr (.inl fm1)))] sz) := by
  refine met_i RX0 (by decide) rfl rfl (Nat.le_of_ble_eq_true rfl) [(0, .ref h0)] rfl ?_
  intro p e s m args below meth c A Q C hnm Rt
  have hiX0 : ∀ w ∈ wsX00, w ∈ wsX0_flexBack := fun w h => List.mem_cons_of_mem _ (List.mem_append_left _ (List.mem_append_left _ (List.mem_append_left _ (List.mem_append_right _ (h)))))
  refine r_lconst 0 0 C dX0_flexBack_0 (by decide) ?_
  refine r_lstore_n 1 C dX0_flexBack_1 [(1, .long 0), (0, .ref h0)] (by decide) rfl ?_
  refine r_lconst 2 0 C dX0_flexBack_2 (by decide) ?_
  refine r_lstore_n 3 C dX0_flexBack_3 [(3, .long 0), (1, .long 0), (0, .ref h0)] (by decide) rfl ?_
  refine r_iconst 4 0 C dX0_flexBack_4 (by decide) ?_
  refine r_istore 5 C dX0_flexBack_5 [(5, .int 0), (3, .long 0), (1, .long 0), (0, .ref h0)] (by decide) rfl ?_
  have lp5 : ∀ (n4 : Nat) (z1 : Int32) (z2 : Int64) (z3 : Int64), (0 ≤ (Int32.toInt z1) ∧ (Int32.toInt z1) ≤ 11) → Int.toNat (11 - (Int32.toInt z1)) < n4 → WW p l e ({ frames := 3, cells := 0, slots := 0, locals := 79 } : Room) s m args below meth c A Q g 9 0 0 [(h0, .inr (0, [.ref h1, .ref h2, .ref h6, .int x0, .int x1, .long y0, .int x2, .int x3, .int x4, .int x5, .ref h7, .ref h8, .ref h9, .int x6, .int x7])), (h1, .inr (6, [.ref h3, .ref h10, .int x8, .int x9])), (h2, .inr (5, [.ref h4, .ref h5, .int x10, .int x11, .long y1, .long y2, .int x12])), (h3, .inl (gJ g, 48, .inr (.inl fm0))), (h4, .inl (gB g, 400, .inl fn0)), (h5, .inl (gJ g, 2400, .inr (.inl fm1)))] 7 [(5, .int z1), (3, .long z2), (1, .long z3), (0, .ref h0)] [] := by
    intro n4
    induction n4 with
    | zero => intro z1 z2 z3 i8 hm7; exact absurd hm7 (Nat.not_lt_zero _)
    | succ n4 ih6 =>
      intro z1 z2 z3 i8 hm7
      obtain ⟨i8a, i8b⟩ := i8
      have gz2 := fb_rngL z2
      have gz3 := fb_rngL z3
      refine r_iload 7 0 C dX0_flexBack_7 rfl ?_
      refine r_bipush 9 10 C dX0_flexBack_9 (by decide) ?_
      refine r_icmp_ge 11 46 C dX0_flexBack_11 (by decide) (fun c9 => ?_) (fun c9 => ?_)
      · skip
        have k10 : 10 ≤ (Int32.toInt z1) := (fa_le 10 z1).mp c9
        refine r_lload_n 46 2 C dX0_flexBack_46 rfl ?_
        obtain ⟨z11, ez11⟩ : ∃ z_9 : Int64, (if 0 < z3 then z3 else -z3) = z_9 := ⟨_, rfl⟩
        have gz11 := fb_rngL z11
        refine r_labs 47 z11 C dX0_flexBack_47 (mg 3 rfl) (mg 4 rfl) (mg 5 rfl) (mg 6 rfl) (Nat.le_of_ble_eq_true rfl) (Nat.le_of_ble_eq_true rfl) (Nat.le_of_ble_eq_true rfl) (Nat.le_of_ble_eq_true rfl) ez11 ?_
        refine r_lload_n 50 1 C dX0_flexBack_50 rfl ?_
        obtain ⟨z12, ez12⟩ : ∃ z_9 : Int64, (if 0 < z2 then z2 else -z2) = z_9 := ⟨_, rfl⟩
        have gz12 := fb_rngL z12
        refine r_labs 51 z12 C dX0_flexBack_51 (mg 3 rfl) (mg 4 rfl) (mg 5 rfl) (mg 6 rfl) (Nat.le_of_ble_eq_true rfl) (Nat.le_of_ble_eq_true rfl) (Nat.le_of_ble_eq_true rfl) (Nat.le_of_ble_eq_true rfl) ez12 ?_
        obtain ⟨z13, ez13⟩ : ∃ z_9, lg_cmp z11 z12 = z_9 := ⟨_, rfl⟩
        have l1z13 : (Int32.toInt z13) < 0 ↔ (Int64.toInt z11) < (Int64.toInt z12) := by rw [← ez13]; exact lgI1 z11 z12
        have l2z13 : 0 < (Int32.toInt z13) ↔ (Int64.toInt z12) < (Int64.toInt z11) := by rw [← ez13]; exact lgI2 z11 z12
        refine r_lcmp 54 z13 C dX0_flexBack_54 ez13 ?_
        refine r_if_le 55 62 C dX0_flexBack_55 (by decide) (fun c14 => ?_) (fun c14 => ?_)
        · skip
          have k15 : (Int32.toInt z13) ≤ 0 := (fa_le z13 0).mp c14
          refine r_iconst 62 0 C dX0_flexBack_62 (by decide) ?_
          refine r_istore 63 C dX0_flexBack_63 [(5, .int 0), (3, .long z2), (1, .long z3), (0, .ref h0)] (by decide) rfl ?_
          refine r_aload_n 65 3 C dX0_flexBack_65 rfl ?_
          refine r_get 66 C dX0_flexBack_66 (k := 0) 0 rfl rfl hiX0 (by decide) rfl (mg 1 rfl) (Or.inr (mg 2 rfl)) rfl ?_
          refine r_bipush 69 10 C dX0_flexBack_69 (by decide) ?_
          refine r_callVl 71 C dX0_flexBack_71 [] [(h1, .inr (6, [.ref h3, .ref h10, .int x8, .int x9])), (h3, .inl (gJ g, 48, .inr (.inl fm0)))] [(h0, .inr (0, [.ref h1, .ref h2, .ref h6, .int x0, .int x1, .long y0, .int x2, .int x3, .int x4, .int x5, .ref h7, .ref h8, .ref h9, .int x6, .int x7])), (h2, .inr (5, [.ref h4, .ref h5, .int x10, .int x11, .long y1, .long y2, .int x12])), (h4, .inl (gB g, 400, .inl fn0)), (h5, .inl (gJ g, 2400, .inr (.inl fm1)))] (fun sz => c232_X7_get l g h1 h3 10 h10 x8 x9 fm0 i_x8 i_x9 sz) gX0_flexBack_X7_get rfl ⟨rfl, rfl⟩ 1 (by decide) ⟨Nat.le_of_ble_eq_true rfl, Nat.le_of_ble_eq_true rfl⟩ 1 rfl rfl [1, 3] [0, 2, 4, 5] rfl rfl (by decide) (by decide) (by decide) rfl rfl (Nat.le_of_ble_eq_true rfl) ⟨Nat.le_of_ble_eq_true rfl, Nat.le_of_ble_eq_true rfl⟩ (fun r16 _ w17 => ?_)
          refine r_ws [(h0, .inr (0, [.ref h1, .ref h2, .ref h6, .int x0, .int x1, .long y0, .int x2, .int x3, .int x4, .int x5, .ref h7, .ref h8, .ref h9, .int x6, .int x7])), (h2, .inr (5, [.ref h4, .ref h5, .int x10, .int x11, .long y1, .long y2, .int x12])), (h4, .inl (gB g, 400, .inl fn0)), (h5, .inl (gJ g, 2400, .inr (.inl fm1))), (h1, .inr (6, [.ref h3, .ref h10, .int x8, .int x9])), (h3, .inl (gJ g, 48, .inr (.inl fm0)))] rfl ?_
          have gr16 := fb_rngL r16
          refine r_lstore 74 C dX0_flexBack_74 [(6, .long r16), (5, .int 0), (3, .long z2), (1, .long z3), (0, .ref h0)] (by decide) rfl ?_
          refine r_aload_n 76 4 C dX0_flexBack_76 rfl ?_
          refine r_iconst 77 0 C dX0_flexBack_77 (by decide) ?_
          refine r_bipush 78 6 C dX0_flexBack_78 (by decide) ?_
          refine r_callUi 80 C dX0_flexBack_80 [] [(h0, .inr (0, [.ref h1, .ref h2, .ref h6, .int x0, .int x1, .long y0, .int x2, .int x3, .int x4, .int x5, .ref h7, .ref h8, .ref h9, .int x6, .int x7])), (h1, .inr (6, [.ref h3, .ref h10, .int x8, .int x9])), (h2, .inr (5, [.ref h4, .ref h5, .int x10, .int x11, .long y1, .long y2, .int x12])), (h3, .inl (gJ g, 48, .inr (.inl fm0))), (h4, .inl (gB g, 400, .inl fn0)), (h5, .inl (gJ g, 2400, .inr (.inl fm1)))] [] (fun sz => c276_X4_curves l g h0 h1 h2 h3 h4 h5 0 6 h6 x0 x1 y0 x2 x3 x4 x5 h7 h8 h9 x6 x7 h10 x8 x9 x10 x11 y1 y2 x12 fm0 fn0 fm1 (by decide) (by decide) i_x5 i_x6 i_x7 i_x8 i_x9 i_x10 i_x11 i_x12 sz) gX0_flexBack_X4_curves_u110X0 rfl ⟨rfl, rfl⟩ 2 rfl (by decide) ⟨Nat.le_of_ble_eq_true rfl, Nat.le_of_ble_eq_true rfl⟩ 0 rfl rfl [0, 4, 1, 5, 2, 3] [] rfl rfl (by decide) (by decide) (by decide) rfl rfl (Nat.le_of_ble_eq_true rfl) ⟨Nat.le_of_ble_eq_true rfl, Nat.le_of_ble_eq_true rfl⟩ (fun r24 u26 w25 => ?_)
          obtain ⟨z18, z19, z20, z21, f22, f23⟩ := u26
          refine r_ws [(h0, .inr (0, [.ref h1, .ref h2, .ref h6, .int x0, .int x1, .long y0, .int x2, .int x3, .int x4, .int x5, .ref h7, .ref h8, .ref h9, .int x6, .int x7])), (h1, .inr (6, [.ref h3, .ref h10, .int x8, .int x9])), (h2, .inr (5, [.ref h4, .ref h5, .int z18, .int x11, .long z19, .long z20, .int z21])), (h3, .inl (gJ g, 48, .inr (.inl fm0))), (h4, .inl (gB g, 400, .inl f22)), (h5, .inl (gJ g, 2400, .inr (.inl f23)))] rfl ?_
          have gz19 := fb_rngL z19
          have gz20 := fb_rngL z20
          have p27 : 0 ≤ (Int32.toInt r24) := w25.1
          have p28 : (Int32.toInt r24) ≤ 6 := w25.2.1
          have p29 : 0 ≤ (Int32.toInt z18) := w25.2.2.1
          have p30 : (Int32.toInt z18) ≤ 400 := w25.2.2.2.1
          have p31 : 0 ≤ (Int32.toInt z21) := w25.2.2.2.2.1
          have p32 : (Int32.toInt z21) ≤ 1 := w25.2.2.2.2.2
          refine r_istore 83 C dX0_flexBack_83 [(8, .int r24), (6, .long r16), (5, .int 0), (3, .long z2), (1, .long z3), (0, .ref h0)] (by decide) rfl ?_
          refine r_iload 85 0 C dX0_flexBack_85 rfl ?_
          refine r_if_eq 87 93 C dX0_flexBack_87 (by decide) (fun c33 => ?_) (fun c33 => ?_)
          · skip
            have k34 : (Int32.toInt r24) = 0 := (fa_eq r24 0).mp c33
            refine r_aload_n 93 5 C dX0_flexBack_93 rfl ?_
            refine r_get 94 C dX0_flexBack_94 (k := 1) 0 rfl rfl hiX0 (by decide) rfl (mg 7 rfl) (Or.inr (mg 8 rfl)) rfl ?_
            refine r_aload_n 97 5 C dX0_flexBack_97 rfl ?_
            refine r_get 98 C dX0_flexBack_98 (k := 0) 0 rfl rfl hiX0 (by decide) rfl (mg 1 rfl) (Or.inr (mg 2 rfl)) rfl ?_
            refine r_bipush 101 6 C dX0_flexBack_101 (by decide) ?_
            refine r_callVl 103 C dX0_flexBack_103 [.ref h2] [(h1, .inr (6, [.ref h3, .ref h10, .int x8, .int x9])), (h3, .inl (gJ g, 48, .inr (.inl fm0)))] [(h0, .inr (0, [.ref h1, .ref h2, .ref h6, .int x0, .int x1, .long y0, .int x2, .int x3, .int x4, .int x5, .ref h7, .ref h8, .ref h9, .int x6, .int x7])), (h2, .inr (5, [.ref h4, .ref h5, .int z18, .int x11, .long z19, .long z20, .int z21])), (h4, .inl (gB g, 400, .inl f22)), (h5, .inl (gJ g, 2400, .inr (.inl f23)))] (fun sz => c232_X7_get l g h1 h3 6 h10 x8 x9 fm0 i_x8 i_x9 sz) gX0_flexBack_X7_get rfl ⟨rfl, rfl⟩ 1 (by decide) ⟨Nat.le_of_ble_eq_true rfl, Nat.le_of_ble_eq_true rfl⟩ 1 rfl rfl [1, 3] [0, 2, 4, 5] rfl rfl (by decide) (by decide) (by decide) rfl rfl (Nat.le_of_ble_eq_true rfl) ⟨Nat.le_of_ble_eq_true rfl, Nat.le_of_ble_eq_true rfl⟩ (fun r35 _ w36 => ?_)
            refine r_ws [(h0, .inr (0, [.ref h1, .ref h2, .ref h6, .int x0, .int x1, .long y0, .int x2, .int x3, .int x4, .int x5, .ref h7, .ref h8, .ref h9, .int x6, .int x7])), (h2, .inr (5, [.ref h4, .ref h5, .int z18, .int x11, .long z19, .long z20, .int z21])), (h4, .inl (gB g, 400, .inl f22)), (h5, .inl (gJ g, 2400, .inr (.inl f23))), (h1, .inr (6, [.ref h3, .ref h10, .int x8, .int x9])), (h3, .inl (gJ g, 48, .inr (.inl fm0)))] rfl ?_
            have gr35 := fb_rngL r35
            refine r_aload_n 106 5 C dX0_flexBack_106 rfl ?_
            refine r_get 107 C dX0_flexBack_107 (k := 0) 0 rfl rfl hiX0 (by decide) rfl (mg 1 rfl) (Or.inr (mg 2 rfl)) rfl ?_
            refine r_bipush 110 7 C dX0_flexBack_110 (by decide) ?_
            refine r_callVl 112 C dX0_flexBack_112 [.long r35, .ref h2] [(h1, .inr (6, [.ref h3, .ref h10, .int x8, .int x9])), (h3, .inl (gJ g, 48, .inr (.inl fm0)))] [(h0, .inr (0, [.ref h1, .ref h2, .ref h6, .int x0, .int x1, .long y0, .int x2, .int x3, .int x4, .int x5, .ref h7, .ref h8, .ref h9, .int x6, .int x7])), (h2, .inr (5, [.ref h4, .ref h5, .int z18, .int x11, .long z19, .long z20, .int z21])), (h4, .inl (gB g, 400, .inl f22)), (h5, .inl (gJ g, 2400, .inr (.inl f23)))] (fun sz => c232_X7_get l g h1 h3 7 h10 x8 x9 fm0 i_x8 i_x9 sz) gX0_flexBack_X7_get rfl ⟨rfl, rfl⟩ 1 (by decide) ⟨Nat.le_of_ble_eq_true rfl, Nat.le_of_ble_eq_true rfl⟩ 4 rfl rfl [4, 5] [0, 1, 2, 3] rfl rfl (by decide) (by decide) (by decide) rfl rfl (Nat.le_of_ble_eq_true rfl) ⟨Nat.le_of_ble_eq_true rfl, Nat.le_of_ble_eq_true rfl⟩ (fun r37 _ w38 => ?_)
            refine r_ws [(h0, .inr (0, [.ref h1, .ref h2, .ref h6, .int x0, .int x1, .long y0, .int x2, .int x3, .int x4, .int x5, .ref h7, .ref h8, .ref h9, .int x6, .int x7])), (h2, .inr (5, [.ref h4, .ref h5, .int z18, .int x11, .long z19, .long z20, .int z21])), (h4, .inl (gB g, 400, .inl f22)), (h5, .inl (gJ g, 2400, .inr (.inl f23))), (h1, .inr (6, [.ref h3, .ref h10, .int x8, .int x9])), (h3, .inl (gJ g, 48, .inr (.inl fm0)))] rfl ?_
            have gr37 := fb_rngL r37
            refine r_aload_n 115 5 C dX0_flexBack_115 rfl ?_
            refine r_get 116 C dX0_flexBack_116 (k := 0) 0 rfl rfl hiX0 (by decide) rfl (mg 1 rfl) (Or.inr (mg 2 rfl)) rfl ?_
            refine r_bipush 119 8 C dX0_flexBack_119 (by decide) ?_
            refine r_callVl 121 C dX0_flexBack_121 [.long r37, .long r35, .ref h2] [(h1, .inr (6, [.ref h3, .ref h10, .int x8, .int x9])), (h3, .inl (gJ g, 48, .inr (.inl fm0)))] [(h0, .inr (0, [.ref h1, .ref h2, .ref h6, .int x0, .int x1, .long y0, .int x2, .int x3, .int x4, .int x5, .ref h7, .ref h8, .ref h9, .int x6, .int x7])), (h2, .inr (5, [.ref h4, .ref h5, .int z18, .int x11, .long z19, .long z20, .int z21])), (h4, .inl (gB g, 400, .inl f22)), (h5, .inl (gJ g, 2400, .inr (.inl f23)))] (fun sz => c232_X7_get l g h1 h3 8 h10 x8 x9 fm0 i_x8 i_x9 sz) gX0_flexBack_X7_get rfl ⟨rfl, rfl⟩ 1 (by decide) ⟨Nat.le_of_ble_eq_true rfl, Nat.le_of_ble_eq_true rfl⟩ 4 rfl rfl [4, 5] [0, 1, 2, 3] rfl rfl (by decide) (by decide) (by decide) rfl rfl (Nat.le_of_ble_eq_true rfl) ⟨Nat.le_of_ble_eq_true rfl, Nat.le_of_ble_eq_true rfl⟩ (fun r39 _ w40 => ?_)
            refine r_ws [(h0, .inr (0, [.ref h1, .ref h2, .ref h6, .int x0, .int x1, .long y0, .int x2, .int x3, .int x4, .int x5, .ref h7, .ref h8, .ref h9, .int x6, .int x7])), (h2, .inr (5, [.ref h4, .ref h5, .int z18, .int x11, .long z19, .long z20, .int z21])), (h4, .inl (gB g, 400, .inl f22)), (h5, .inl (gJ g, 2400, .inr (.inl f23))), (h1, .inr (6, [.ref h3, .ref h10, .int x8, .int x9])), (h3, .inl (gJ g, 48, .inr (.inl fm0)))] rfl ?_
            have gr39 := fb_rngL r39
            refine r_aload_n 124 5 C dX0_flexBack_124 rfl ?_
            refine r_get 125 C dX0_flexBack_125 (k := 0) 0 rfl rfl hiX0 (by decide) rfl (mg 1 rfl) (Or.inr (mg 2 rfl)) rfl ?_
            refine r_bipush 128 9 C dX0_flexBack_128 (by decide) ?_
            refine r_callVl 130 C dX0_flexBack_130 [.long r39, .long r37, .long r35, .ref h2] [(h1, .inr (6, [.ref h3, .ref h10, .int x8, .int x9])), (h3, .inl (gJ g, 48, .inr (.inl fm0)))] [(h0, .inr (0, [.ref h1, .ref h2, .ref h6, .int x0, .int x1, .long y0, .int x2, .int x3, .int x4, .int x5, .ref h7, .ref h8, .ref h9, .int x6, .int x7])), (h2, .inr (5, [.ref h4, .ref h5, .int z18, .int x11, .long z19, .long z20, .int z21])), (h4, .inl (gB g, 400, .inl f22)), (h5, .inl (gJ g, 2400, .inr (.inl f23)))] (fun sz => c232_X7_get l g h1 h3 9 h10 x8 x9 fm0 i_x8 i_x9 sz) gX0_flexBack_X7_get rfl ⟨rfl, rfl⟩ 1 (by decide) ⟨Nat.le_of_ble_eq_true rfl, Nat.le_of_ble_eq_true rfl⟩ 4 rfl rfl [4, 5] [0, 1, 2, 3] rfl rfl (by decide) (by decide) (by decide) rfl rfl (Nat.le_of_ble_eq_true rfl) ⟨Nat.le_of_ble_eq_true rfl, Nat.le_of_ble_eq_true rfl⟩ (fun r41 _ w42 => ?_)
            refine r_ws [(h0, .inr (0, [.ref h1, .ref h2, .ref h6, .int x0, .int x1, .long y0, .int x2, .int x3, .int x4, .int x5, .ref h7, .ref h8, .ref h9, .int x6, .int x7])), (h2, .inr (5, [.ref h4, .ref h5, .int z18, .int x11, .long z19, .long z20, .int z21])), (h4, .inl (gB g, 400, .inl f22)), (h5, .inl (gJ g, 2400, .inr (.inl f23))), (h1, .inr (6, [.ref h3, .ref h10, .int x8, .int x9])), (h3, .inl (gJ g, 48, .inr (.inl fm0)))] rfl ?_
            have gr41 := fb_rngL r41
            refine r_iload 133 2 C dX0_flexBack_133 rfl ?_
            refine r_if_eq_t 135 143 C dX0_flexBack_135 (by decide) (by decide) ?_
            refine r_lload_n 143 4 C dX0_flexBack_143 rfl ?_
            obtain ⟨z43, ez43⟩ : ∃ z_9, -z3 = z_9 := ⟨_, rfl⟩
            have gz43 := fb_rngL z43
            refine r_lneg 144 z43 C dX0_flexBack_144 ez43 ?_
            refine r_iload 145 2 C dX0_flexBack_145 rfl ?_
            refine r_if_eq_t 147 155 C dX0_flexBack_147 (by decide) (by decide) ?_
            refine r_lload 155 1 C dX0_flexBack_155 rfl ?_
            refine r_callVi 157 C dX0_flexBack_157 [] [(h2, .inr (5, [.ref h4, .ref h5, .int z18, .int x11, .long z19, .long z20, .int z21])), (h4, .inl (gB g, 400, .inl f22)), (h5, .inl (gJ g, 2400, .inr (.inl f23)))] [(h0, .inr (0, [.ref h1, .ref h2, .ref h6, .int x0, .int x1, .long y0, .int x2, .int x3, .int x4, .int x5, .ref h7, .ref h8, .ref h9, .int x6, .int x7])), (h1, .inr (6, [.ref h3, .ref h10, .int x8, .int x9])), (h3, .inl (gJ g, 48, .inr (.inl fm0)))] (fun sz => c246_X6_curveBy l g h2 h4 h5 r35 r37 r39 r41 z43 r16 z18 x11 z19 z20 z21 f22 f23 ⟨p29, p30⟩ i_x11 ⟨p31, p32⟩ sz) gX0_flexBack_X6_curveBy rfl ⟨rfl, rfl⟩ 6 (by decide) ⟨Nat.le_of_ble_eq_true rfl, Nat.le_of_ble_eq_true rfl⟩ 1 rfl rfl [1, 2, 3] [0, 4, 5] rfl rfl (by decide) (by decide) (by decide) rfl rfl (Nat.le_of_ble_eq_true rfl) ⟨Nat.le_of_ble_eq_true rfl, Nat.le_of_ble_eq_true rfl⟩ (fun r49 u51 w50 => ?_)
            obtain ⟨z44, z45, z46, f47, f48⟩ := u51
            refine r_ws [(h0, .inr (0, [.ref h1, .ref h2, .ref h6, .int x0, .int x1, .long y0, .int x2, .int x3, .int x4, .int x5, .ref h7, .ref h8, .ref h9, .int x6, .int x7])), (h1, .inr (6, [.ref h3, .ref h10, .int x8, .int x9])), (h3, .inl (gJ g, 48, .inr (.inl fm0))), (h2, .inr (5, [.ref h4, .ref h5, .int z44, .int x11, .long z45, .long z46, .int 1])), (h4, .inl (gB g, 400, .inl f47)), (h5, .inl (gJ g, 2400, .inr (.inl f48)))] rfl ?_
            have gz45 := fb_rngL z45
            have gz46 := fb_rngL z46
            have p52 : 0 ≤ (Int32.toInt r49) := w50.1
            have p53 : (Int32.toInt r49) ≤ 6 := w50.2.1
            have p54 : 0 ≤ (Int32.toInt z44) := w50.2.2.1
            have p55 : (Int32.toInt z44) ≤ 400 := w50.2.2.2
            exact r_iret 160 Rt dX0_flexBack_160 (z44, z45, z46, 1, f47, f48) (show 0 ≤ (Int32.toInt r49) ∧ (Int32.toInt r49) ≤ 6 ∧ 0 ≤ (Int32.toInt z44) ∧ (Int32.toInt z44) ≤ 400 ∧ 0 ≤ (Int32.toInt 1) ∧ (Int32.toInt 1) ≤ 1 from ⟨(show _ ∧ _ from ⟨p52, p53⟩).1, (show _ ∧ _ from ⟨p52, p53⟩).2, (show _ ∧ _ from ⟨p54, p55⟩).1, (show _ ∧ _ from ⟨p54, p55⟩).2, (by ((repeat' apply And.intro) <;> first | trivial | rfl | assumption | omega | decide | exact Or.inl rfl | exact Or.inr (Or.inl rfl) | exact Or.inr (Or.inr rfl))), (by ((repeat' apply And.intro) <;> first | trivial | rfl | assumption | omega | decide | exact Or.inl rfl | exact Or.inr (Or.inl rfl) | exact Or.inr (Or.inr rfl)))⟩) [0, 1, 3, 2, 4, 5] (by decide) rfl (Nat.le_of_ble_eq_true rfl) (Nat.le_of_ble_eq_true rfl)
          · skip
            have k56 : ¬ ((Int32.toInt r24) = 0) := fun h_9 => c33 ((fa_eq r24 0).mpr h_9)
            refine r_iload 90 0 C dX0_flexBack_90 rfl ?_
            exact r_iret 92 Rt dX0_flexBack_92 (z18, z19, z20, z21, f22, f23) (show 0 ≤ (Int32.toInt r24) ∧ (Int32.toInt r24) ≤ 6 ∧ 0 ≤ (Int32.toInt z18) ∧ (Int32.toInt z18) ≤ 400 ∧ 0 ≤ (Int32.toInt z21) ∧ (Int32.toInt z21) ≤ 1 from ⟨(show _ ∧ _ from ⟨p27, p28⟩).1, (show _ ∧ _ from ⟨p27, p28⟩).2, (show _ ∧ _ from ⟨p29, p30⟩).1, (show _ ∧ _ from ⟨p29, p30⟩).2, (show _ ∧ _ from ⟨p31, p32⟩).1, (show _ ∧ _ from ⟨p31, p32⟩).2⟩) [0, 1, 2, 3, 4, 5] (by decide) rfl (Nat.le_of_ble_eq_true rfl) (Nat.le_of_ble_eq_true rfl)
        · skip
          have k57 : ¬ ((Int32.toInt z13) ≤ 0) := fun h_9 => c14 ((fa_le z13 0).mpr h_9)
          refine r_iconst 58 1 C dX0_flexBack_58 (by decide) ?_
          refine r_goto 59 63 C dX0_flexBack_59 (by decide) ?_
          refine r_istore 63 C dX0_flexBack_63 [(5, .int 1), (3, .long z2), (1, .long z3), (0, .ref h0)] (by decide) rfl ?_
          refine r_aload_n 65 3 C dX0_flexBack_65 rfl ?_
          refine r_get 66 C dX0_flexBack_66 (k := 0) 0 rfl rfl hiX0 (by decide) rfl (mg 1 rfl) (Or.inr (mg 2 rfl)) rfl ?_
          refine r_bipush 69 10 C dX0_flexBack_69 (by decide) ?_
          refine r_callVl 71 C dX0_flexBack_71 [] [(h1, .inr (6, [.ref h3, .ref h10, .int x8, .int x9])), (h3, .inl (gJ g, 48, .inr (.inl fm0)))] [(h0, .inr (0, [.ref h1, .ref h2, .ref h6, .int x0, .int x1, .long y0, .int x2, .int x3, .int x4, .int x5, .ref h7, .ref h8, .ref h9, .int x6, .int x7])), (h2, .inr (5, [.ref h4, .ref h5, .int x10, .int x11, .long y1, .long y2, .int x12])), (h4, .inl (gB g, 400, .inl fn0)), (h5, .inl (gJ g, 2400, .inr (.inl fm1)))] (fun sz => c232_X7_get l g h1 h3 10 h10 x8 x9 fm0 i_x8 i_x9 sz) gX0_flexBack_X7_get rfl ⟨rfl, rfl⟩ 1 (by decide) ⟨Nat.le_of_ble_eq_true rfl, Nat.le_of_ble_eq_true rfl⟩ 1 rfl rfl [1, 3] [0, 2, 4, 5] rfl rfl (by decide) (by decide) (by decide) rfl rfl (Nat.le_of_ble_eq_true rfl) ⟨Nat.le_of_ble_eq_true rfl, Nat.le_of_ble_eq_true rfl⟩ (fun r58 _ w59 => ?_)
          refine r_ws [(h0, .inr (0, [.ref h1, .ref h2, .ref h6, .int x0, .int x1, .long y0, .int x2, .int x3, .int x4, .int x5, .ref h7, .ref h8, .ref h9, .int x6, .int x7])), (h2, .inr (5, [.ref h4, .ref h5, .int x10, .int x11, .long y1, .long y2, .int x12])), (h4, .inl (gB g, 400, .inl fn0)), (h5, .inl (gJ g, 2400, .inr (.inl fm1))), (h1, .inr (6, [.ref h3, .ref h10, .int x8, .int x9])), (h3, .inl (gJ g, 48, .inr (.inl fm0)))] rfl ?_
          have gr58 := fb_rngL r58
          refine r_lstore 74 C dX0_flexBack_74 [(6, .long r58), (5, .int 1), (3, .long z2), (1, .long z3), (0, .ref h0)] (by decide) rfl ?_
          refine r_aload_n 76 4 C dX0_flexBack_76 rfl ?_
          refine r_iconst 77 0 C dX0_flexBack_77 (by decide) ?_
          refine r_bipush 78 6 C dX0_flexBack_78 (by decide) ?_
          refine r_callUi 80 C dX0_flexBack_80 [] [(h0, .inr (0, [.ref h1, .ref h2, .ref h6, .int x0, .int x1, .long y0, .int x2, .int x3, .int x4, .int x5, .ref h7, .ref h8, .ref h9, .int x6, .int x7])), (h1, .inr (6, [.ref h3, .ref h10, .int x8, .int x9])), (h2, .inr (5, [.ref h4, .ref h5, .int x10, .int x11, .long y1, .long y2, .int x12])), (h3, .inl (gJ g, 48, .inr (.inl fm0))), (h4, .inl (gB g, 400, .inl fn0)), (h5, .inl (gJ g, 2400, .inr (.inl fm1)))] [] (fun sz => c276_X4_curves l g h0 h1 h2 h3 h4 h5 0 6 h6 x0 x1 y0 x2 x3 x4 x5 h7 h8 h9 x6 x7 h10 x8 x9 x10 x11 y1 y2 x12 fm0 fn0 fm1 (by decide) (by decide) i_x5 i_x6 i_x7 i_x8 i_x9 i_x10 i_x11 i_x12 sz) gX0_flexBack_X4_curves_u110X0 rfl ⟨rfl, rfl⟩ 2 rfl (by decide) ⟨Nat.le_of_ble_eq_true rfl, Nat.le_of_ble_eq_true rfl⟩ 0 rfl rfl [0, 4, 1, 5, 2, 3] [] rfl rfl (by decide) (by decide) (by decide) rfl rfl (Nat.le_of_ble_eq_true rfl) ⟨Nat.le_of_ble_eq_true rfl, Nat.le_of_ble_eq_true rfl⟩ (fun r66 u68 w67 => ?_)
          obtain ⟨z60, z61, z62, z63, f64, f65⟩ := u68
          refine r_ws [(h0, .inr (0, [.ref h1, .ref h2, .ref h6, .int x0, .int x1, .long y0, .int x2, .int x3, .int x4, .int x5, .ref h7, .ref h8, .ref h9, .int x6, .int x7])), (h1, .inr (6, [.ref h3, .ref h10, .int x8, .int x9])), (h2, .inr (5, [.ref h4, .ref h5, .int z60, .int x11, .long z61, .long z62, .int z63])), (h3, .inl (gJ g, 48, .inr (.inl fm0))), (h4, .inl (gB g, 400, .inl f64)), (h5, .inl (gJ g, 2400, .inr (.inl f65)))] rfl ?_
          have gz61 := fb_rngL z61
          have gz62 := fb_rngL z62
          have p69 : 0 ≤ (Int32.toInt r66) := w67.1
          have p70 : (Int32.toInt r66) ≤ 6 := w67.2.1
          have p71 : 0 ≤ (Int32.toInt z60) := w67.2.2.1
          have p72 : (Int32.toInt z60) ≤ 400 := w67.2.2.2.1
          have p73 : 0 ≤ (Int32.toInt z63) := w67.2.2.2.2.1
          have p74 : (Int32.toInt z63) ≤ 1 := w67.2.2.2.2.2
          refine r_istore 83 C dX0_flexBack_83 [(8, .int r66), (6, .long r58), (5, .int 1), (3, .long z2), (1, .long z3), (0, .ref h0)] (by decide) rfl ?_
          refine r_iload 85 0 C dX0_flexBack_85 rfl ?_
          refine r_if_eq 87 93 C dX0_flexBack_87 (by decide) (fun c75 => ?_) (fun c75 => ?_)
          · skip
            have k76 : (Int32.toInt r66) = 0 := (fa_eq r66 0).mp c75
            refine r_aload_n 93 5 C dX0_flexBack_93 rfl ?_
            refine r_get 94 C dX0_flexBack_94 (k := 1) 0 rfl rfl hiX0 (by decide) rfl (mg 7 rfl) (Or.inr (mg 8 rfl)) rfl ?_
            refine r_aload_n 97 5 C dX0_flexBack_97 rfl ?_
            refine r_get 98 C dX0_flexBack_98 (k := 0) 0 rfl rfl hiX0 (by decide) rfl (mg 1 rfl) (Or.inr (mg 2 rfl)) rfl ?_
            refine r_bipush 101 6 C dX0_flexBack_101 (by decide) ?_
            refine r_callVl 103 C dX0_flexBack_103 [.ref h2] [(h1, .inr (6, [.ref h3, .ref h10, .int x8, .int x9])), (h3, .inl (gJ g, 48, .inr (.inl fm0)))] [(h0, .inr (0, [.ref h1, .ref h2, .ref h6, .int x0, .int x1, .long y0, .int x2, .int x3, .int x4, .int x5, .ref h7, .ref h8, .ref h9, .int x6, .int x7])), (h2, .inr (5, [.ref h4, .ref h5, .int z60, .int x11, .long z61, .long z62, .int z63])), (h4, .inl (gB g, 400, .inl f64)), (h5, .inl (gJ g, 2400, .inr (.inl f65)))] (fun sz => c232_X7_get l g h1 h3 6 h10 x8 x9 fm0 i_x8 i_x9 sz) gX0_flexBack_X7_get rfl ⟨rfl, rfl⟩ 1 (by decide) ⟨Nat.le_of_ble_eq_true rfl, Nat.le_of_ble_eq_true rfl⟩ 1 rfl rfl [1, 3] [0, 2, 4, 5] rfl rfl (by decide) (by decide) (by decide) rfl rfl (Nat.le_of_ble_eq_true rfl) ⟨Nat.le_of_ble_eq_true rfl, Nat.le_of_ble_eq_true rfl⟩ (fun r77 _ w78 => ?_)
            refine r_ws [(h0, .inr (0, [.ref h1, .ref h2, .ref h6, .int x0, .int x1, .long y0, .int x2, .int x3, .int x4, .int x5, .ref h7, .ref h8, .ref h9, .int x6, .int x7])), (h2, .inr (5, [.ref h4, .ref h5, .int z60, .int x11, .long z61, .long z62, .int z63])), (h4, .inl (gB g, 400, .inl f64)), (h5, .inl (gJ g, 2400, .inr (.inl f65))), (h1, .inr (6, [.ref h3, .ref h10, .int x8, .int x9])), (h3, .inl (gJ g, 48, .inr (.inl fm0)))] rfl ?_
            have gr77 := fb_rngL r77
            refine r_aload_n 106 5 C dX0_flexBack_106 rfl ?_
            refine r_get 107 C dX0_flexBack_107 (k := 0) 0 rfl rfl hiX0 (by decide) rfl (mg 1 rfl) (Or.inr (mg 2 rfl)) rfl ?_
            refine r_bipush 110 7 C dX0_flexBack_110 (by decide) ?_
            refine r_callVl 112 C dX0_flexBack_112 [.long r77, .ref h2] [(h1, .inr (6, [.ref h3, .ref h10, .int x8, .int x9])), (h3, .inl (gJ g, 48, .inr (.inl fm0)))] [(h0, .inr (0, [.ref h1, .ref h2, .ref h6, .int x0, .int x1, .long y0, .int x2, .int x3, .int x4, .int x5, .ref h7, .ref h8, .ref h9, .int x6, .int x7])), (h2, .inr (5, [.ref h4, .ref h5, .int z60, .int x11, .long z61, .long z62, .int z63])), (h4, .inl (gB g, 400, .inl f64)), (h5, .inl (gJ g, 2400, .inr (.inl f65)))] (fun sz => c232_X7_get l g h1 h3 7 h10 x8 x9 fm0 i_x8 i_x9 sz) gX0_flexBack_X7_get rfl ⟨rfl, rfl⟩ 1 (by decide) ⟨Nat.le_of_ble_eq_true rfl, Nat.le_of_ble_eq_true rfl⟩ 4 rfl rfl [4, 5] [0, 1, 2, 3] rfl rfl (by decide) (by decide) (by decide) rfl rfl (Nat.le_of_ble_eq_true rfl) ⟨Nat.le_of_ble_eq_true rfl, Nat.le_of_ble_eq_true rfl⟩ (fun r79 _ w80 => ?_)
            refine r_ws [(h0, .inr (0, [.ref h1, .ref h2, .ref h6, .int x0, .int x1, .long y0, .int x2, .int x3, .int x4, .int x5, .ref h7, .ref h8, .ref h9, .int x6, .int x7])), (h2, .inr (5, [.ref h4, .ref h5, .int z60, .int x11, .long z61, .long z62, .int z63])), (h4, .inl (gB g, 400, .inl f64)), (h5, .inl (gJ g, 2400, .inr (.inl f65))), (h1, .inr (6, [.ref h3, .ref h10, .int x8, .int x9])), (h3, .inl (gJ g, 48, .inr (.inl fm0)))] rfl ?_
            have gr79 := fb_rngL r79
            refine r_aload_n 115 5 C dX0_flexBack_115 rfl ?_
            refine r_get 116 C dX0_flexBack_116 (k := 0) 0 rfl rfl hiX0 (by decide) rfl (mg 1 rfl) (Or.inr (mg 2 rfl)) rfl ?_
            refine r_bipush 119 8 C dX0_flexBack_119 (by decide) ?_
            refine r_callVl 121 C dX0_flexBack_121 [.long r79, .long r77, .ref h2] [(h1, .inr (6, [.ref h3, .ref h10, .int x8, .int x9])), (h3, .inl (gJ g, 48, .inr (.inl fm0)))] [(h0, .inr (0, [.ref h1, .ref h2, .ref h6, .int x0, .int x1, .long y0, .int x2, .int x3, .int x4, .int x5, .ref h7, .ref h8, .ref h9, .int x6, .int x7])), (h2, .inr (5, [.ref h4, .ref h5, .int z60, .int x11, .long z61, .long z62, .int z63])), (h4, .inl (gB g, 400, .inl f64)), (h5, .inl (gJ g, 2400, .inr (.inl f65)))] (fun sz => c232_X7_get l g h1 h3 8 h10 x8 x9 fm0 i_x8 i_x9 sz) gX0_flexBack_X7_get rfl ⟨rfl, rfl⟩ 1 (by decide) ⟨Nat.le_of_ble_eq_true rfl, Nat.le_of_ble_eq_true rfl⟩ 4 rfl rfl [4, 5] [0, 1, 2, 3] rfl rfl (by decide) (by decide) (by decide) rfl rfl (Nat.le_of_ble_eq_true rfl) ⟨Nat.le_of_ble_eq_true rfl, Nat.le_of_ble_eq_true rfl⟩ (fun r81 _ w82 => ?_)
            refine r_ws [(h0, .inr (0, [.ref h1, .ref h2, .ref h6, .int x0, .int x1, .long y0, .int x2, .int x3, .int x4, .int x5, .ref h7, .ref h8, .ref h9, .int x6, .int x7])), (h2, .inr (5, [.ref h4, .ref h5, .int z60, .int x11, .long z61, .long z62, .int z63])), (h4, .inl (gB g, 400, .inl f64)), (h5, .inl (gJ g, 2400, .inr (.inl f65))), (h1, .inr (6, [.ref h3, .ref h10, .int x8, .int x9])), (h3, .inl (gJ g, 48, .inr (.inl fm0)))] rfl ?_
            have gr81 := fb_rngL r81
            refine r_aload_n 124 5 C dX0_flexBack_124 rfl ?_
            refine r_get 125 C dX0_flexBack_125 (k := 0) 0 rfl rfl hiX0 (by decide) rfl (mg 1 rfl) (Or.inr (mg 2 rfl)) rfl ?_
            refine r_bipush 128 9 C dX0_flexBack_128 (by decide) ?_
            refine r_callVl 130 C dX0_flexBack_130 [.long r81, .long r79, .long r77, .ref h2] [(h1, .inr (6, [.ref h3, .ref h10, .int x8, .int x9])), (h3, .inl (gJ g, 48, .inr (.inl fm0)))] [(h0, .inr (0, [.ref h1, .ref h2, .ref h6, .int x0, .int x1, .long y0, .int x2, .int x3, .int x4, .int x5, .ref h7, .ref h8, .ref h9, .int x6, .int x7])), (h2, .inr (5, [.ref h4, .ref h5, .int z60, .int x11, .long z61, .long z62, .int z63])), (h4, .inl (gB g, 400, .inl f64)), (h5, .inl (gJ g, 2400, .inr (.inl f65)))] (fun sz => c232_X7_get l g h1 h3 9 h10 x8 x9 fm0 i_x8 i_x9 sz) gX0_flexBack_X7_get rfl ⟨rfl, rfl⟩ 1 (by decide) ⟨Nat.le_of_ble_eq_true rfl, Nat.le_of_ble_eq_true rfl⟩ 4 rfl rfl [4, 5] [0, 1, 2, 3] rfl rfl (by decide) (by decide) (by decide) rfl rfl (Nat.le_of_ble_eq_true rfl) ⟨Nat.le_of_ble_eq_true rfl, Nat.le_of_ble_eq_true rfl⟩ (fun r83 _ w84 => ?_)
            refine r_ws [(h0, .inr (0, [.ref h1, .ref h2, .ref h6, .int x0, .int x1, .long y0, .int x2, .int x3, .int x4, .int x5, .ref h7, .ref h8, .ref h9, .int x6, .int x7])), (h2, .inr (5, [.ref h4, .ref h5, .int z60, .int x11, .long z61, .long z62, .int z63])), (h4, .inl (gB g, 400, .inl f64)), (h5, .inl (gJ g, 2400, .inr (.inl f65))), (h1, .inr (6, [.ref h3, .ref h10, .int x8, .int x9])), (h3, .inl (gJ g, 48, .inr (.inl fm0)))] rfl ?_
            have gr83 := fb_rngL r83
            refine r_iload 133 2 C dX0_flexBack_133 rfl ?_
            refine r_if_eq_f 135 143 C dX0_flexBack_135 (by decide) (by decide) ?_
            refine r_lload 138 1 C dX0_flexBack_138 rfl ?_
            refine r_goto 140 145 C dX0_flexBack_140 (by decide) ?_
            refine r_iload 145 2 C dX0_flexBack_145 rfl ?_
            refine r_if_eq_f 147 155 C dX0_flexBack_147 (by decide) (by decide) ?_
            refine r_lload_n 150 3 C dX0_flexBack_150 rfl ?_
            obtain ⟨z85, ez85⟩ : ∃ z_9, -z2 = z_9 := ⟨_, rfl⟩
            have gz85 := fb_rngL z85
            refine r_lneg 151 z85 C dX0_flexBack_151 ez85 ?_
            refine r_goto 152 157 C dX0_flexBack_152 (by decide) ?_
            refine r_callVi 157 C dX0_flexBack_157 [] [(h2, .inr (5, [.ref h4, .ref h5, .int z60, .int x11, .long z61, .long z62, .int z63])), (h4, .inl (gB g, 400, .inl f64)), (h5, .inl (gJ g, 2400, .inr (.inl f65)))] [(h0, .inr (0, [.ref h1, .ref h2, .ref h6, .int x0, .int x1, .long y0, .int x2, .int x3, .int x4, .int x5, .ref h7, .ref h8, .ref h9, .int x6, .int x7])), (h1, .inr (6, [.ref h3, .ref h10, .int x8, .int x9])), (h3, .inl (gJ g, 48, .inr (.inl fm0)))] (fun sz => c246_X6_curveBy l g h2 h4 h5 r77 r79 r81 r83 r58 z85 z60 x11 z61 z62 z63 f64 f65 ⟨p71, p72⟩ i_x11 ⟨p73, p74⟩ sz) gX0_flexBack_X6_curveBy rfl ⟨rfl, rfl⟩ 6 (by decide) ⟨Nat.le_of_ble_eq_true rfl, Nat.le_of_ble_eq_true rfl⟩ 1 rfl rfl [1, 2, 3] [0, 4, 5] rfl rfl (by decide) (by decide) (by decide) rfl rfl (Nat.le_of_ble_eq_true rfl) ⟨Nat.le_of_ble_eq_true rfl, Nat.le_of_ble_eq_true rfl⟩ (fun r91 u93 w92 => ?_)
            obtain ⟨z86, z87, z88, f89, f90⟩ := u93
            refine r_ws [(h0, .inr (0, [.ref h1, .ref h2, .ref h6, .int x0, .int x1, .long y0, .int x2, .int x3, .int x4, .int x5, .ref h7, .ref h8, .ref h9, .int x6, .int x7])), (h1, .inr (6, [.ref h3, .ref h10, .int x8, .int x9])), (h3, .inl (gJ g, 48, .inr (.inl fm0))), (h2, .inr (5, [.ref h4, .ref h5, .int z86, .int x11, .long z87, .long z88, .int 1])), (h4, .inl (gB g, 400, .inl f89)), (h5, .inl (gJ g, 2400, .inr (.inl f90)))] rfl ?_
            have gz87 := fb_rngL z87
            have gz88 := fb_rngL z88
            have p94 : 0 ≤ (Int32.toInt r91) := w92.1
            have p95 : (Int32.toInt r91) ≤ 6 := w92.2.1
            have p96 : 0 ≤ (Int32.toInt z86) := w92.2.2.1
            have p97 : (Int32.toInt z86) ≤ 400 := w92.2.2.2
            exact r_iret 160 Rt dX0_flexBack_160 (z86, z87, z88, 1, f89, f90) (show 0 ≤ (Int32.toInt r91) ∧ (Int32.toInt r91) ≤ 6 ∧ 0 ≤ (Int32.toInt z86) ∧ (Int32.toInt z86) ≤ 400 ∧ 0 ≤ (Int32.toInt 1) ∧ (Int32.toInt 1) ≤ 1 from ⟨(show _ ∧ _ from ⟨p94, p95⟩).1, (show _ ∧ _ from ⟨p94, p95⟩).2, (show _ ∧ _ from ⟨p96, p97⟩).1, (show _ ∧ _ from ⟨p96, p97⟩).2, (by ((repeat' apply And.intro) <;> first | trivial | rfl | assumption | omega | decide | exact Or.inl rfl | exact Or.inr (Or.inl rfl) | exact Or.inr (Or.inr rfl))), (by ((repeat' apply And.intro) <;> first | trivial | rfl | assumption | omega | decide | exact Or.inl rfl | exact Or.inr (Or.inl rfl) | exact Or.inr (Or.inr rfl)))⟩) [0, 1, 3, 2, 4, 5] (by decide) rfl (Nat.le_of_ble_eq_true rfl) (Nat.le_of_ble_eq_true rfl)
          · skip
            have k98 : ¬ ((Int32.toInt r66) = 0) := fun h_9 => c75 ((fa_eq r66 0).mpr h_9)
            refine r_iload 90 0 C dX0_flexBack_90 rfl ?_
            exact r_iret 92 Rt dX0_flexBack_92 (z60, z61, z62, z63, f64, f65) (show 0 ≤ (Int32.toInt r66) ∧ (Int32.toInt r66) ≤ 6 ∧ 0 ≤ (Int32.toInt z60) ∧ (Int32.toInt z60) ≤ 400 ∧ 0 ≤ (Int32.toInt z63) ∧ (Int32.toInt z63) ≤ 1 from ⟨(show _ ∧ _ from ⟨p69, p70⟩).1, (show _ ∧ _ from ⟨p69, p70⟩).2, (show _ ∧ _ from ⟨p71, p72⟩).1, (show _ ∧ _ from ⟨p71, p72⟩).2, (show _ ∧ _ from ⟨p73, p74⟩).1, (show _ ∧ _ from ⟨p73, p74⟩).2⟩) [0, 1, 2, 3, 4, 5] (by decide) rfl (Nat.le_of_ble_eq_true rfl) (Nat.le_of_ble_eq_true rfl)
      · skip
        have k99 : ¬ (10 ≤ (Int32.toInt z1)) := fun h_9 => c9 ((fa_le 10 z1).mpr h_9)
        refine r_lload_n 14 2 C dX0_flexBack_14 rfl ?_
        refine r_aload_n 15 3 C dX0_flexBack_15 rfl ?_
        refine r_get 16 C dX0_flexBack_16 (k := 0) 0 rfl rfl hiX0 (by decide) rfl (mg 1 rfl) (Or.inr (mg 2 rfl)) rfl ?_
        refine r_iload 19 0 C dX0_flexBack_19 rfl ?_
        refine r_callVl 21 C dX0_flexBack_21 [.long z3] [(h1, .inr (6, [.ref h3, .ref h10, .int x8, .int x9])), (h3, .inl (gJ g, 48, .inr (.inl fm0)))] [(h0, .inr (0, [.ref h1, .ref h2, .ref h6, .int x0, .int x1, .long y0, .int x2, .int x3, .int x4, .int x5, .ref h7, .ref h8, .ref h9, .int x6, .int x7])), (h2, .inr (5, [.ref h4, .ref h5, .int x10, .int x11, .long y1, .long y2, .int x12])), (h4, .inl (gB g, 400, .inl fn0)), (h5, .inl (gJ g, 2400, .inr (.inl fm1)))] (fun sz => c232_X7_get l g h1 h3 z1 h10 x8 x9 fm0 i_x8 i_x9 sz) gX0_flexBack_X7_get rfl ⟨rfl, rfl⟩ 1 (by decide) ⟨Nat.le_of_ble_eq_true rfl, Nat.le_of_ble_eq_true rfl⟩ 1 rfl rfl [1, 3] [0, 2, 4, 5] rfl rfl (by decide) (by decide) (by decide) rfl rfl (Nat.le_of_ble_eq_true rfl) ⟨Nat.le_of_ble_eq_true rfl, Nat.le_of_ble_eq_true rfl⟩ (fun r100 _ w101 => ?_)
        refine r_ws [(h0, .inr (0, [.ref h1, .ref h2, .ref h6, .int x0, .int x1, .long y0, .int x2, .int x3, .int x4, .int x5, .ref h7, .ref h8, .ref h9, .int x6, .int x7])), (h2, .inr (5, [.ref h4, .ref h5, .int x10, .int x11, .long y1, .long y2, .int x12])), (h4, .inl (gB g, 400, .inl fn0)), (h5, .inl (gJ g, 2400, .inr (.inl fm1))), (h1, .inr (6, [.ref h3, .ref h10, .int x8, .int x9])), (h3, .inl (gJ g, 48, .inr (.inl fm0)))] rfl ?_
        have gr100 := fb_rngL r100
        obtain ⟨z102, ez102⟩ : ∃ z_9, z3 + r100 = z_9 := ⟨_, rfl⟩
        have gz102 := fb_rngL z102
        refine r_ladd 24 z102 C dX0_flexBack_24 ez102 ?_
        refine r_lstore_n 25 C dX0_flexBack_25 [(1, .long z102), (5, .int z1), (3, .long z2), (0, .ref h0)] (by decide) rfl ?_
        refine r_lload_n 26 2 C dX0_flexBack_26 rfl ?_
        refine r_aload_n 27 3 C dX0_flexBack_27 rfl ?_
        refine r_get 28 C dX0_flexBack_28 (k := 0) 0 rfl rfl hiX0 (by decide) rfl (mg 1 rfl) (Or.inr (mg 2 rfl)) rfl ?_
        refine r_iload 31 1 C dX0_flexBack_31 rfl ?_
        refine r_iconst 33 1 C dX0_flexBack_33 (by decide) ?_
        obtain ⟨z103, ez103⟩ : ∃ z_9, z1 + 1 = z_9 := ⟨_, rfl⟩
        have tz103 : (Int32.toInt z103) = (Int32.toInt z1) + 1 := by rw [← ez103]; exact fb_addIv (a := 0) (b := 11) (c := 1) (d := 1) ⟨i8a, i8b⟩ ⟨by decide, by decide⟩ (by decide) (by decide)
        refine r_iadd 34 z103 C dX0_flexBack_34 ez103 ?_
        refine r_callVl 35 C dX0_flexBack_35 [.long z2] [(h1, .inr (6, [.ref h3, .ref h10, .int x8, .int x9])), (h3, .inl (gJ g, 48, .inr (.inl fm0)))] [(h0, .inr (0, [.ref h1, .ref h2, .ref h6, .int x0, .int x1, .long y0, .int x2, .int x3, .int x4, .int x5, .ref h7, .ref h8, .ref h9, .int x6, .int x7])), (h2, .inr (5, [.ref h4, .ref h5, .int x10, .int x11, .long y1, .long y2, .int x12])), (h4, .inl (gB g, 400, .inl fn0)), (h5, .inl (gJ g, 2400, .inr (.inl fm1)))] (fun sz => c232_X7_get l g h1 h3 z103 h10 x8 x9 fm0 i_x8 i_x9 sz) gX0_flexBack_X7_get rfl ⟨rfl, rfl⟩ 1 (by decide) ⟨Nat.le_of_ble_eq_true rfl, Nat.le_of_ble_eq_true rfl⟩ 4 rfl rfl [4, 5] [0, 1, 2, 3] rfl rfl (by decide) (by decide) (by decide) rfl rfl (Nat.le_of_ble_eq_true rfl) ⟨Nat.le_of_ble_eq_true rfl, Nat.le_of_ble_eq_true rfl⟩ (fun r104 _ w105 => ?_)
        refine r_ws [(h0, .inr (0, [.ref h1, .ref h2, .ref h6, .int x0, .int x1, .long y0, .int x2, .int x3, .int x4, .int x5, .ref h7, .ref h8, .ref h9, .int x6, .int x7])), (h2, .inr (5, [.ref h4, .ref h5, .int x10, .int x11, .long y1, .long y2, .int x12])), (h4, .inl (gB g, 400, .inl fn0)), (h5, .inl (gJ g, 2400, .inr (.inl fm1))), (h1, .inr (6, [.ref h3, .ref h10, .int x8, .int x9])), (h3, .inl (gJ g, 48, .inr (.inl fm0)))] rfl ?_
        have gr104 := fb_rngL r104
        obtain ⟨z106, ez106⟩ : ∃ z_9, z2 + r104 = z_9 := ⟨_, rfl⟩
        have gz106 := fb_rngL z106
        refine r_ladd 38 z106 C dX0_flexBack_38 ez106 ?_
        refine r_lstore_n 39 C dX0_flexBack_39 [(3, .long z106), (1, .long z102), (5, .int z1), (0, .ref h0)] (by decide) rfl ?_
        obtain ⟨z107, ez107⟩ : ∃ z_9, z1 + Int32.ofInt 2 = z_9 := ⟨_, rfl⟩
        have tz107 : (Int32.toInt z107) = (Int32.toInt z1) + 2 := by rw [← ez107]; exact fb_addIv (a := 0) (b := 11) (c := 2) (d := 2) ⟨i8a, i8b⟩ ⟨by decide, by decide⟩ (by decide) (by decide)
        refine r_iinc 40 2 z107 C dX0_flexBack_40 rfl ez107 [(5, .int z107), (3, .long z106), (1, .long z102), (0, .ref h0)] (by decide) rfl ?_
        refine r_goto 43 7 C dX0_flexBack_43 (by decide) ?_
        refine r_pick [(h0, .inr (0, [.ref h1, .ref h2, .ref h6, .int x0, .int x1, .long y0, .int x2, .int x3, .int x4, .int x5, .ref h7, .ref h8, .ref h9, .int x6, .int x7])), (h1, .inr (6, [.ref h3, .ref h10, .int x8, .int x9])), (h2, .inr (5, [.ref h4, .ref h5, .int x10, .int x11, .long y1, .long y2, .int x12])), (h3, .inl (gJ g, 48, .inr (.inl fm0))), (h4, .inl (gB g, 400, .inl fn0)), (h5, .inl (gJ g, 2400, .inr (.inl fm1)))] [0, 4, 1, 5, 2, 3] (by decide) rfl ?_
        exact ih6 z107 z106 z102 ⟨by omega, by omega⟩ (by omega)
  exact lp5 _ 0 0 0 (by decide) (Nat.lt_succ_self _)
set_option maxHeartbeats 4000000 in
set_option maxRecDepth 100000 in
theorem c287_X0_linesAndCurves (l : Launch) (g : GD) (h0 : Nat) (h1 : Nat) (h2 : Nat) (h3 : Nat) (h4 : Nat) (h5 : Nat) (x0 : Int32) (h6 : Nat) (x1 : Int32) (x2 : Int32) (y0 : Int64) (x3 : Int32) (x4 : Int32) (x5 : Int32) (x6 : Int32) (h7 : Nat) (h8 : Nat) (h9 : Nat) (x7 : Int32) (x8 : Int32) (h10 : Nat) (x9 : Int32) (x10 : Int32) (x11 : Int32) (x12 : Int32) (y1 : Int64) (y2 : Int64) (x13 : Int32) (fm0 : Nat → Int64) (fn0 : Nat → Int32) (fm1 : Nat → Int64) (i_x6 : (0 ≤ (Int32.toInt x6) ∧ (Int32.toInt x6) ≤ 1)) (i_x7 : (0 ≤ (Int32.toInt x7) ∧ (Int32.toInt x7) ≤ 10)) (i_x8 : (0 ≤ (Int32.toInt x8) ∧ (Int32.toInt x8) ≤ 1)) (i_x9 : (0 ≤ (Int32.toInt x9) ∧ (Int32.toInt x9) ≤ 48)) (i_x10 : (0 ≤ (Int32.toInt x10) ∧ (Int32.toInt x10) ≤ 48)) (i_x11 : (0 ≤ (Int32.toInt x11) ∧ (Int32.toInt x11) ≤ 400)) (i_x12 : (0 ≤ (Int32.toInt x12) ∧ (Int32.toInt x12) ≤ 400)) (i_x13 : (0 ≤ (Int32.toInt x13) ∧ (Int32.toInt x13) ≤ 1)) (sz : Nat) : Met l yX0_linesAndCurves wsX0_linesAndCurves ({ frames := 4, cells := 0, slots := 0, locals := 107 }) (va_Pc [.ref h0, .int x0] (PW g [(h0, .inr (0, [.ref h1, .ref h2, .ref h6, .int x1, .int x2, .long y0, .int x3, .int x4, .int x5, .int x6, .ref h7, .ref h8, .ref h9, .int x7, .int x8])), (h1, .inr (6, [.ref h3, .ref h10, .int x9, .int x10])), (h2, .inr (5, [.ref h4, .ref h5, .int x11, .int x12, .long y1, .long y2, .int x13])), (h3, .inl (gJ g, 48, .inr (.inl fm0))), (h4, .inl (gB g, 400, .inl fn0)), (h5, .inl (gJ g, 2400, .inr (.inl fm1)))] sz)) (va_Qi (fun (r : Int32) (u : (Int32) × (Int64) × (Int64) × (Int32) × (Nat → Int32) × (Nat → Int64)) => 0 ≤ (Int32.toInt r) ∧ (Int32.toInt r) ≤ 6 ∧ 0 ≤ (Int32.toInt (u.1)) ∧ (Int32.toInt (u.1)) ≤ 400 ∧ 0 ≤ (Int32.toInt (u.2.2.2.1)) ∧ (Int32.toInt (u.2.2.2.1)) ≤ 1) (BW g (va_A [(h0, .inr (0, [.ref h1, .ref h2, .ref h6, .int x1, .int x2, .long y0, .int x3, .int x4, .int x5, .int x6, .ref h7, .ref h8, .ref h9, .int x7, .int x8])), (h1, .inr (6, [.ref h3, .ref h10, .int x9, .int x10])), (h2, .inr (5, [.ref h4, .ref h5, .int x11, .int x12, .long y1, .long y2, .int x13])), (h3, .inl (gJ g, 48, .inr (.inl fm0))), (h4, .inl (gB g, 400, .inl fn0)), (h5, .inl (gJ g, 2400, .inr (.inl fm1)))] sz) (fun u : (Int32) × (Int64) × (Int64) × (Int32) × (Nat → Int32) × (Nat → Int64) => [(h0, .inr (0, [.ref h1, .ref h2, .ref h6, .int x1, .int x2, .long y0, .int x3, .int x4, .int x5, .int x6, .ref h7, .ref h8, .ref h9, .int x7, .int x8])), (h1, .inr (6, [.ref h3, .ref h10, .int x9, .int x10])), (h2, .inr (5, [.ref h4, .ref h5, .int u.1, .int x12, .long u.2.1, .long u.2.2.1, .int u.2.2.2.1])), (h3, .inl (gJ g, 48, .inr (.inl fm0))), (h4, .inl (gB g, 400, .inl u.2.2.2.2.1)), (h5, .inl (gJ g, 2400, .inr (.inl u.2.2.2.2.2)))])) (va_A [(h0, .inr (0, [.ref h1, .ref h2, .ref h6, .int x1, .int x2, .long y0, .int x3, .int x4, .int x5, .int x6, .ref h7, .ref h8, .ref h9, .int x7, .int x8])), (h1, .inr (6, [.ref h3, .ref h10, .int x9, .int x10])), (h2, .inr (5, [.ref h4, .ref h5, .int x11, .int x12, .long y1, .long y2, .int x13])), (h3, .inl (gJ g, 48, .inr (.inl fm0))), (h4, .inl (gB g, 400, .inl fn0)), (h5, .inl (gJ g, 2400, .inr (.inl fm1)))] sz)) 0 0 (va_A [(h0, .inr (0, [.ref h1, .ref h2, .ref h6, .int x1, .int x2, .long y0, .int x3, .int x4, .int x5, .int x6, .ref h7, .ref h8, .ref h9, .int x7, .int x8])), (h1, .inr (6, [.ref h3, .ref h10, .int x9, .int x10])), (h2, .inr (5, [.ref h4, .ref h5, .int x11, .int x12, .long y1, .long y2, .int x13])), (h3, .inl (gJ g, 48, .inr (.inl fm0))), (h4, .inl (gB g, 400, .inl fn0)), (h5, .inl (gJ g, 2400, .inr (.inl fm1)))] sz) := by
  refine met_i RX0 (by decide) rfl rfl (Nat.le_of_ble_eq_true rfl) [(0, .ref h0), (1, .int x0)] rfl ?_
  intro p e s m args below meth c A Q C hnm Rt
  have gx0 := fb_rng x0
  have hiX0 : ∀ w ∈ wsX00, w ∈ wsX0_linesAndCurves := fun w h => List.mem_cons_of_mem _ (List.mem_append_left _ (List.mem_append_left _ (List.mem_append_left _ (List.mem_append_right _ (h)))))
  refine r_iload_n 0 1 C dX0_linesAndCurves_0 rfl ?_
  by_cases c1 : x0 = 5
  · skip
    have k2 : (Int32.toInt x0) = 5 := (fa_eq x0 5).mp c1
    refine r_lookup 1 124 (off := 123) C dX0_linesAndCurves_1 (by decide) (by rw [c1]; decide) (by decide) ?_
    refine r_aload_n 124 0 C dX0_linesAndCurves_124 rfl ?_
    refine r_iconst 125 0 C dX0_linesAndCurves_125 (by decide) ?_
    refine r_callVi 126 C dX0_linesAndCurves_126 [] [(h0, .inr (0, [.ref h1, .ref h2, .ref h6, .int x1, .int x2, .long y0, .int x3, .int x4, .int x5, .int x6, .ref h7, .ref h8, .ref h9, .int x7, .int x8])), (h1, .inr (6, [.ref h3, .ref h10, .int x9, .int x10])), (h2, .inr (5, [.ref h4, .ref h5, .int x11, .int x12, .long y1, .long y2, .int x13])), (h3, .inl (gJ g, 48, .inr (.inl fm0))), (h4, .inl (gB g, 400, .inl fn0)), (h5, .inl (gJ g, 2400, .inr (.inl fm1)))] [] (fun sz => c277_X0_pairsThenSixes l g h0 h1 h2 h3 h4 h5 h6 x1 x2 y0 x3 x4 x5 x6 h7 h8 h9 x7 x8 h10 x9 x10 x11 x12 y1 y2 x13 fm0 fn0 fm1 i_x6 i_x7 i_x8 i_x9 i_x10 i_x11 i_x12 i_x13 sz) gX0_linesAndCurves_X0_pairsThenSixes rfl ⟨rfl, rfl⟩ 1 (by decide) ⟨Nat.le_of_ble_eq_true rfl, Nat.le_of_ble_eq_true rfl⟩ 0 rfl rfl [0, 1, 2, 3, 4, 5] [] rfl rfl (by decide) (by decide) (by decide) rfl rfl (Nat.le_of_ble_eq_true rfl) ⟨Nat.le_of_ble_eq_true rfl, Nat.le_of_ble_eq_true rfl⟩ (fun r9 u11 w10 => ?_)
    obtain ⟨z3, z4, z5, z6, f7, f8⟩ := u11
    refine r_ws [(h0, .inr (0, [.ref h1, .ref h2, .ref h6, .int x1, .int x2, .long y0, .int x3, .int x4, .int x5, .int x6, .ref h7, .ref h8, .ref h9, .int x7, .int x8])), (h1, .inr (6, [.ref h3, .ref h10, .int x9, .int x10])), (h2, .inr (5, [.ref h4, .ref h5, .int z3, .int x12, .long z4, .long z5, .int z6])), (h3, .inl (gJ g, 48, .inr (.inl fm0))), (h4, .inl (gB g, 400, .inl f7)), (h5, .inl (gJ g, 2400, .inr (.inl f8)))] rfl ?_
    have gz4 := fb_rngL z4
    have gz5 := fb_rngL z5
    have p12 : 0 ≤ (Int32.toInt r9) := w10.1
    have p13 : (Int32.toInt r9) ≤ 6 := w10.2.1
    have p14 : 0 ≤ (Int32.toInt z3) := w10.2.2.1
    have p15 : (Int32.toInt z3) ≤ 400 := w10.2.2.2.1
    have p16 : 0 ≤ (Int32.toInt z6) := w10.2.2.2.2.1
    have p17 : (Int32.toInt z6) ≤ 1 := w10.2.2.2.2.2
    exact r_iret 129 Rt dX0_linesAndCurves_129 (z3, z4, z5, z6, f7, f8) (show 0 ≤ (Int32.toInt r9) ∧ (Int32.toInt r9) ≤ 6 ∧ 0 ≤ (Int32.toInt z3) ∧ (Int32.toInt z3) ≤ 400 ∧ 0 ≤ (Int32.toInt z6) ∧ (Int32.toInt z6) ≤ 1 from ⟨(show _ ∧ _ from ⟨p12, p13⟩).1, (show _ ∧ _ from ⟨p12, p13⟩).2, (show _ ∧ _ from ⟨p14, p15⟩).1, (show _ ∧ _ from ⟨p14, p15⟩).2, (show _ ∧ _ from ⟨p16, p17⟩).1, (show _ ∧ _ from ⟨p16, p17⟩).2⟩) [0, 1, 2, 3, 4, 5] (by decide) rfl (Nat.le_of_ble_eq_true rfl) (Nat.le_of_ble_eq_true rfl)
  · skip
    have k18 : ¬ ((Int32.toInt x0) = 5) := fun h_9 => c1 ((fa_eq x0 5).mpr h_9)
    by_cases c19 : x0 = 6
    · skip
      have k20 : (Int32.toInt x0) = 6 := (fa_eq x0 6).mp c19
      refine r_lookup 1 130 (off := 129) C dX0_linesAndCurves_1 (by decide) (by rw [c19]; decide) (by decide) ?_
      refine r_aload_n 130 0 C dX0_linesAndCurves_130 rfl ?_
      refine r_iconst 131 1 C dX0_linesAndCurves_131 (by decide) ?_
      refine r_callVi 132 C dX0_linesAndCurves_132 [] [(h0, .inr (0, [.ref h1, .ref h2, .ref h6, .int x1, .int x2, .long y0, .int x3, .int x4, .int x5, .int x6, .ref h7, .ref h8, .ref h9, .int x7, .int x8])), (h1, .inr (6, [.ref h3, .ref h10, .int x9, .int x10])), (h2, .inr (5, [.ref h4, .ref h5, .int x11, .int x12, .long y1, .long y2, .int x13])), (h3, .inl (gJ g, 48, .inr (.inl fm0))), (h4, .inl (gB g, 400, .inl fn0)), (h5, .inl (gJ g, 2400, .inr (.inl fm1)))] [] (fun sz => c278_X0_turningLines l g h0 h1 h2 h3 h4 h5 1 h6 x1 x2 y0 x3 x4 x5 x6 h7 h8 h9 x7 x8 h10 x9 x10 x11 x12 y1 y2 x13 fm0 fn0 fm1 (by decide) i_x6 i_x7 i_x8 i_x9 i_x10 i_x11 i_x12 i_x13 sz) gX0_linesAndCurves_X0_turningLines rfl ⟨rfl, rfl⟩ 1 (by decide) ⟨Nat.le_of_ble_eq_true rfl, Nat.le_of_ble_eq_true rfl⟩ 0 rfl rfl [0, 1, 2, 3, 4, 5] [] rfl rfl (by decide) (by decide) (by decide) rfl rfl (Nat.le_of_ble_eq_true rfl) ⟨Nat.le_of_ble_eq_true rfl, Nat.le_of_ble_eq_true rfl⟩ (fun r27 u29 w28 => ?_)
      obtain ⟨z21, z22, z23, z24, f25, f26⟩ := u29
      refine r_ws [(h0, .inr (0, [.ref h1, .ref h2, .ref h6, .int x1, .int x2, .long y0, .int x3, .int x4, .int x5, .int x6, .ref h7, .ref h8, .ref h9, .int x7, .int x8])), (h1, .inr (6, [.ref h3, .ref h10, .int x9, .int x10])), (h2, .inr (5, [.ref h4, .ref h5, .int z21, .int x12, .long z22, .long z23, .int z24])), (h3, .inl (gJ g, 48, .inr (.inl fm0))), (h4, .inl (gB g, 400, .inl f25)), (h5, .inl (gJ g, 2400, .inr (.inl f26)))] rfl ?_
      have gz22 := fb_rngL z22
      have gz23 := fb_rngL z23
      have p30 : 0 ≤ (Int32.toInt r27) := w28.1
      have p31 : (Int32.toInt r27) ≤ 6 := w28.2.1
      have p32 : 0 ≤ (Int32.toInt z21) := w28.2.2.1
      have p33 : (Int32.toInt z21) ≤ 400 := w28.2.2.2.1
      have p34 : 0 ≤ (Int32.toInt z24) := w28.2.2.2.2.1
      have p35 : (Int32.toInt z24) ≤ 1 := w28.2.2.2.2.2
      exact r_iret 135 Rt dX0_linesAndCurves_135 (z21, z22, z23, z24, f25, f26) (show 0 ≤ (Int32.toInt r27) ∧ (Int32.toInt r27) ≤ 6 ∧ 0 ≤ (Int32.toInt z21) ∧ (Int32.toInt z21) ≤ 400 ∧ 0 ≤ (Int32.toInt z24) ∧ (Int32.toInt z24) ≤ 1 from ⟨(show _ ∧ _ from ⟨p30, p31⟩).1, (show _ ∧ _ from ⟨p30, p31⟩).2, (show _ ∧ _ from ⟨p32, p33⟩).1, (show _ ∧ _ from ⟨p32, p33⟩).2, (show _ ∧ _ from ⟨p34, p35⟩).1, (show _ ∧ _ from ⟨p34, p35⟩).2⟩) [0, 1, 2, 3, 4, 5] (by decide) rfl (Nat.le_of_ble_eq_true rfl) (Nat.le_of_ble_eq_true rfl)
    · skip
      have k36 : ¬ ((Int32.toInt x0) = 6) := fun h_9 => c19 ((fa_eq x0 6).mpr h_9)
      by_cases c37 : x0 = 7
      · skip
        have k38 : (Int32.toInt x0) = 7 := (fa_eq x0 7).mp c37
        refine r_lookup 1 136 (off := 135) C dX0_linesAndCurves_1 (by decide) (by rw [c37]; decide) (by decide) ?_
        refine r_aload_n 136 0 C dX0_linesAndCurves_136 rfl ?_
        refine r_iconst 137 0 C dX0_linesAndCurves_137 (by decide) ?_
        refine r_callVi 138 C dX0_linesAndCurves_138 [] [(h0, .inr (0, [.ref h1, .ref h2, .ref h6, .int x1, .int x2, .long y0, .int x3, .int x4, .int x5, .int x6, .ref h7, .ref h8, .ref h9, .int x7, .int x8])), (h1, .inr (6, [.ref h3, .ref h10, .int x9, .int x10])), (h2, .inr (5, [.ref h4, .ref h5, .int x11, .int x12, .long y1, .long y2, .int x13])), (h3, .inl (gJ g, 48, .inr (.inl fm0))), (h4, .inl (gB g, 400, .inl fn0)), (h5, .inl (gJ g, 2400, .inr (.inl fm1)))] [] (fun sz => c278_X0_turningLines l g h0 h1 h2 h3 h4 h5 0 h6 x1 x2 y0 x3 x4 x5 x6 h7 h8 h9 x7 x8 h10 x9 x10 x11 x12 y1 y2 x13 fm0 fn0 fm1 (by decide) i_x6 i_x7 i_x8 i_x9 i_x10 i_x11 i_x12 i_x13 sz) gX0_linesAndCurves_X0_turningLines rfl ⟨rfl, rfl⟩ 1 (by decide) ⟨Nat.le_of_ble_eq_true rfl, Nat.le_of_ble_eq_true rfl⟩ 0 rfl rfl [0, 1, 2, 3, 4, 5] [] rfl rfl (by decide) (by decide) (by decide) rfl rfl (Nat.le_of_ble_eq_true rfl) ⟨Nat.le_of_ble_eq_true rfl, Nat.le_of_ble_eq_true rfl⟩ (fun r45 u47 w46 => ?_)
        obtain ⟨z39, z40, z41, z42, f43, f44⟩ := u47
        refine r_ws [(h0, .inr (0, [.ref h1, .ref h2, .ref h6, .int x1, .int x2, .long y0, .int x3, .int x4, .int x5, .int x6, .ref h7, .ref h8, .ref h9, .int x7, .int x8])), (h1, .inr (6, [.ref h3, .ref h10, .int x9, .int x10])), (h2, .inr (5, [.ref h4, .ref h5, .int z39, .int x12, .long z40, .long z41, .int z42])), (h3, .inl (gJ g, 48, .inr (.inl fm0))), (h4, .inl (gB g, 400, .inl f43)), (h5, .inl (gJ g, 2400, .inr (.inl f44)))] rfl ?_
        have gz40 := fb_rngL z40
        have gz41 := fb_rngL z41
        have p48 : 0 ≤ (Int32.toInt r45) := w46.1
        have p49 : (Int32.toInt r45) ≤ 6 := w46.2.1
        have p50 : 0 ≤ (Int32.toInt z39) := w46.2.2.1
        have p51 : (Int32.toInt z39) ≤ 400 := w46.2.2.2.1
        have p52 : 0 ≤ (Int32.toInt z42) := w46.2.2.2.2.1
        have p53 : (Int32.toInt z42) ≤ 1 := w46.2.2.2.2.2
        exact r_iret 141 Rt dX0_linesAndCurves_141 (z39, z40, z41, z42, f43, f44) (show 0 ≤ (Int32.toInt r45) ∧ (Int32.toInt r45) ≤ 6 ∧ 0 ≤ (Int32.toInt z39) ∧ (Int32.toInt z39) ≤ 400 ∧ 0 ≤ (Int32.toInt z42) ∧ (Int32.toInt z42) ≤ 1 from ⟨(show _ ∧ _ from ⟨p48, p49⟩).1, (show _ ∧ _ from ⟨p48, p49⟩).2, (show _ ∧ _ from ⟨p50, p51⟩).1, (show _ ∧ _ from ⟨p50, p51⟩).2, (show _ ∧ _ from ⟨p52, p53⟩).1, (show _ ∧ _ from ⟨p52, p53⟩).2⟩) [0, 1, 2, 3, 4, 5] (by decide) rfl (Nat.le_of_ble_eq_true rfl) (Nat.le_of_ble_eq_true rfl)
      · skip
        have k54 : ¬ ((Int32.toInt x0) = 7) := fun h_9 => c37 ((fa_eq x0 7).mpr h_9)
        by_cases c55 : x0 = 8
        · skip
          have k56 : (Int32.toInt x0) = 8 := (fa_eq x0 8).mp c55
          refine r_lookup 1 142 (off := 141) C dX0_linesAndCurves_1 (by decide) (by rw [c55]; decide) (by decide) ?_
          refine r_aload_n 142 0 C dX0_linesAndCurves_142 rfl ?_
          refine r_iconst 143 0 C dX0_linesAndCurves_143 (by decide) ?_
          refine r_callVi 144 C dX0_linesAndCurves_144 [] [(h0, .inr (0, [.ref h1, .ref h2, .ref h6, .int x1, .int x2, .long y0, .int x3, .int x4, .int x5, .int x6, .ref h7, .ref h8, .ref h9, .int x7, .int x8])), (h1, .inr (6, [.ref h3, .ref h10, .int x9, .int x10])), (h2, .inr (5, [.ref h4, .ref h5, .int x11, .int x12, .long y1, .long y2, .int x13])), (h3, .inl (gJ g, 48, .inr (.inl fm0))), (h4, .inl (gB g, 400, .inl fn0)), (h5, .inl (gJ g, 2400, .inr (.inl fm1)))] [] (fun sz => c279_X0_sixesThenPair l g h0 h1 h2 h3 h4 h5 h6 x1 x2 y0 x3 x4 x5 x6 h7 h8 h9 x7 x8 h10 x9 x10 x11 x12 y1 y2 x13 fm0 fn0 fm1 i_x6 i_x7 i_x8 i_x9 i_x10 i_x11 i_x12 i_x13 sz) gX0_linesAndCurves_X0_sixesThenPair rfl ⟨rfl, rfl⟩ 1 (by decide) ⟨Nat.le_of_ble_eq_true rfl, Nat.le_of_ble_eq_true rfl⟩ 0 rfl rfl [0, 1, 2, 3, 4, 5] [] rfl rfl (by decide) (by decide) (by decide) rfl rfl (Nat.le_of_ble_eq_true rfl) ⟨Nat.le_of_ble_eq_true rfl, Nat.le_of_ble_eq_true rfl⟩ (fun r63 u65 w64 => ?_)
          obtain ⟨z57, z58, z59, z60, f61, f62⟩ := u65
          refine r_ws [(h0, .inr (0, [.ref h1, .ref h2, .ref h6, .int x1, .int x2, .long y0, .int x3, .int x4, .int x5, .int x6, .ref h7, .ref h8, .ref h9, .int x7, .int x8])), (h1, .inr (6, [.ref h3, .ref h10, .int x9, .int x10])), (h2, .inr (5, [.ref h4, .ref h5, .int z57, .int x12, .long z58, .long z59, .int z60])), (h3, .inl (gJ g, 48, .inr (.inl fm0))), (h4, .inl (gB g, 400, .inl f61)), (h5, .inl (gJ g, 2400, .inr (.inl f62)))] rfl ?_
          have gz58 := fb_rngL z58
          have gz59 := fb_rngL z59
          have p66 : 0 ≤ (Int32.toInt r63) := w64.1
          have p67 : (Int32.toInt r63) ≤ 6 := w64.2.1
          have p68 : 0 ≤ (Int32.toInt z57) := w64.2.2.1
          have p69 : (Int32.toInt z57) ≤ 400 := w64.2.2.2.1
          have p70 : 0 ≤ (Int32.toInt z60) := w64.2.2.2.2.1
          have p71 : (Int32.toInt z60) ≤ 1 := w64.2.2.2.2.2
          exact r_iret 147 Rt dX0_linesAndCurves_147 (z57, z58, z59, z60, f61, f62) (show 0 ≤ (Int32.toInt r63) ∧ (Int32.toInt r63) ≤ 6 ∧ 0 ≤ (Int32.toInt z57) ∧ (Int32.toInt z57) ≤ 400 ∧ 0 ≤ (Int32.toInt z60) ∧ (Int32.toInt z60) ≤ 1 from ⟨(show _ ∧ _ from ⟨p66, p67⟩).1, (show _ ∧ _ from ⟨p66, p67⟩).2, (show _ ∧ _ from ⟨p68, p69⟩).1, (show _ ∧ _ from ⟨p68, p69⟩).2, (show _ ∧ _ from ⟨p70, p71⟩).1, (show _ ∧ _ from ⟨p70, p71⟩).2⟩) [0, 1, 2, 3, 4, 5] (by decide) rfl (Nat.le_of_ble_eq_true rfl) (Nat.le_of_ble_eq_true rfl)
        · skip
          have k72 : ¬ ((Int32.toInt x0) = 8) := fun h_9 => c55 ((fa_eq x0 8).mpr h_9)
          by_cases c73 : x0 = 24
          · skip
            have k74 : (Int32.toInt x0) = 24 := (fa_eq x0 24).mp c73
            refine r_lookup 1 148 (off := 147) C dX0_linesAndCurves_1 (by decide) (by rw [c73]; decide) (by decide) ?_
            refine r_aload_n 148 0 C dX0_linesAndCurves_148 rfl ?_
            refine r_iconst 149 2 C dX0_linesAndCurves_149 (by decide) ?_
            refine r_callVi 150 C dX0_linesAndCurves_150 [] [(h0, .inr (0, [.ref h1, .ref h2, .ref h6, .int x1, .int x2, .long y0, .int x3, .int x4, .int x5, .int x6, .ref h7, .ref h8, .ref h9, .int x7, .int x8])), (h1, .inr (6, [.ref h3, .ref h10, .int x9, .int x10])), (h2, .inr (5, [.ref h4, .ref h5, .int x11, .int x12, .long y1, .long y2, .int x13])), (h3, .inl (gJ g, 48, .inr (.inl fm0))), (h4, .inl (gB g, 400, .inl fn0)), (h5, .inl (gJ g, 2400, .inr (.inl fm1)))] [] (fun sz => c280_X0_sixesThenPair l g h0 h1 h2 h3 h4 h5 h6 x1 x2 y0 x3 x4 x5 x6 h7 h8 h9 x7 x8 h10 x9 x10 x11 x12 y1 y2 x13 fm0 fn0 fm1 i_x6 i_x7 i_x8 i_x9 i_x10 i_x11 i_x12 i_x13 sz) gX0_linesAndCurves_X0_sixesThenPair rfl ⟨rfl, rfl⟩ 1 (by decide) ⟨Nat.le_of_ble_eq_true rfl, Nat.le_of_ble_eq_true rfl⟩ 0 rfl rfl [0, 1, 2, 3, 4, 5] [] rfl rfl (by decide) (by decide) (by decide) rfl rfl (Nat.le_of_ble_eq_true rfl) ⟨Nat.le_of_ble_eq_true rfl, Nat.le_of_ble_eq_true rfl⟩ (fun r81 u83 w82 => ?_)
            obtain ⟨z75, z76, z77, z78, f79, f80⟩ := u83
            refine r_ws [(h0, .inr (0, [.ref h1, .ref h2, .ref h6, .int x1, .int x2, .long y0, .int x3, .int x4, .int x5, .int x6, .ref h7, .ref h8, .ref h9, .int x7, .int x8])), (h1, .inr (6, [.ref h3, .ref h10, .int x9, .int x10])), (h2, .inr (5, [.ref h4, .ref h5, .int z75, .int x12, .long z76, .long z77, .int z78])), (h3, .inl (gJ g, 48, .inr (.inl fm0))), (h4, .inl (gB g, 400, .inl f79)), (h5, .inl (gJ g, 2400, .inr (.inl f80)))] rfl ?_
            have gz76 := fb_rngL z76
            have gz77 := fb_rngL z77
            have p84 : 0 ≤ (Int32.toInt r81) := w82.1
            have p85 : (Int32.toInt r81) ≤ 6 := w82.2.1
            have p86 : 0 ≤ (Int32.toInt z75) := w82.2.2.1
            have p87 : (Int32.toInt z75) ≤ 400 := w82.2.2.2.1
            have p88 : 0 ≤ (Int32.toInt z78) := w82.2.2.2.2.1
            have p89 : (Int32.toInt z78) ≤ 1 := w82.2.2.2.2.2
            exact r_iret 153 Rt dX0_linesAndCurves_153 (z75, z76, z77, z78, f79, f80) (show 0 ≤ (Int32.toInt r81) ∧ (Int32.toInt r81) ≤ 6 ∧ 0 ≤ (Int32.toInt z75) ∧ (Int32.toInt z75) ≤ 400 ∧ 0 ≤ (Int32.toInt z78) ∧ (Int32.toInt z78) ≤ 1 from ⟨(show _ ∧ _ from ⟨p84, p85⟩).1, (show _ ∧ _ from ⟨p84, p85⟩).2, (show _ ∧ _ from ⟨p86, p87⟩).1, (show _ ∧ _ from ⟨p86, p87⟩).2, (show _ ∧ _ from ⟨p88, p89⟩).1, (show _ ∧ _ from ⟨p88, p89⟩).2⟩) [0, 1, 2, 3, 4, 5] (by decide) rfl (Nat.le_of_ble_eq_true rfl) (Nat.le_of_ble_eq_true rfl)
          · skip
            have k90 : ¬ ((Int32.toInt x0) = 24) := fun h_9 => c73 ((fa_eq x0 24).mpr h_9)
            by_cases c91 : x0 = 25
            · skip
              have k92 : (Int32.toInt x0) = 25 := (fa_eq x0 25).mp c91
              refine r_lookup 1 154 (off := 153) C dX0_linesAndCurves_1 (by decide) (by rw [c91]; decide) (by decide) ?_
              refine r_aload_n 154 0 C dX0_linesAndCurves_154 rfl ?_
              refine r_bipush 155 6 C dX0_linesAndCurves_155 (by decide) ?_
              refine r_callVi 157 C dX0_linesAndCurves_157 [] [(h0, .inr (0, [.ref h1, .ref h2, .ref h6, .int x1, .int x2, .long y0, .int x3, .int x4, .int x5, .int x6, .ref h7, .ref h8, .ref h9, .int x7, .int x8])), (h1, .inr (6, [.ref h3, .ref h10, .int x9, .int x10])), (h2, .inr (5, [.ref h4, .ref h5, .int x11, .int x12, .long y1, .long y2, .int x13])), (h3, .inl (gJ g, 48, .inr (.inl fm0))), (h4, .inl (gB g, 400, .inl fn0)), (h5, .inl (gJ g, 2400, .inr (.inl fm1)))] [] (fun sz => c281_X0_pairsThenSixes l g h0 h1 h2 h3 h4 h5 h6 x1 x2 y0 x3 x4 x5 x6 h7 h8 h9 x7 x8 h10 x9 x10 x11 x12 y1 y2 x13 fm0 fn0 fm1 i_x6 i_x7 i_x8 i_x9 i_x10 i_x11 i_x12 i_x13 sz) gX0_linesAndCurves_X0_pairsThenSixes rfl ⟨rfl, rfl⟩ 1 (by decide) ⟨Nat.le_of_ble_eq_true rfl, Nat.le_of_ble_eq_true rfl⟩ 0 rfl rfl [0, 1, 2, 3, 4, 5] [] rfl rfl (by decide) (by decide) (by decide) rfl rfl (Nat.le_of_ble_eq_true rfl) ⟨Nat.le_of_ble_eq_true rfl, Nat.le_of_ble_eq_true rfl⟩ (fun r99 u101 w100 => ?_)
              obtain ⟨z93, z94, z95, z96, f97, f98⟩ := u101
              refine r_ws [(h0, .inr (0, [.ref h1, .ref h2, .ref h6, .int x1, .int x2, .long y0, .int x3, .int x4, .int x5, .int x6, .ref h7, .ref h8, .ref h9, .int x7, .int x8])), (h1, .inr (6, [.ref h3, .ref h10, .int x9, .int x10])), (h2, .inr (5, [.ref h4, .ref h5, .int z93, .int x12, .long z94, .long z95, .int z96])), (h3, .inl (gJ g, 48, .inr (.inl fm0))), (h4, .inl (gB g, 400, .inl f97)), (h5, .inl (gJ g, 2400, .inr (.inl f98)))] rfl ?_
              have gz94 := fb_rngL z94
              have gz95 := fb_rngL z95
              have p102 : 0 ≤ (Int32.toInt r99) := w100.1
              have p103 : (Int32.toInt r99) ≤ 6 := w100.2.1
              have p104 : 0 ≤ (Int32.toInt z93) := w100.2.2.1
              have p105 : (Int32.toInt z93) ≤ 400 := w100.2.2.2.1
              have p106 : 0 ≤ (Int32.toInt z96) := w100.2.2.2.2.1
              have p107 : (Int32.toInt z96) ≤ 1 := w100.2.2.2.2.2
              exact r_iret 160 Rt dX0_linesAndCurves_160 (z93, z94, z95, z96, f97, f98) (show 0 ≤ (Int32.toInt r99) ∧ (Int32.toInt r99) ≤ 6 ∧ 0 ≤ (Int32.toInt z93) ∧ (Int32.toInt z93) ≤ 400 ∧ 0 ≤ (Int32.toInt z96) ∧ (Int32.toInt z96) ≤ 1 from ⟨(show _ ∧ _ from ⟨p102, p103⟩).1, (show _ ∧ _ from ⟨p102, p103⟩).2, (show _ ∧ _ from ⟨p104, p105⟩).1, (show _ ∧ _ from ⟨p104, p105⟩).2, (show _ ∧ _ from ⟨p106, p107⟩).1, (show _ ∧ _ from ⟨p106, p107⟩).2⟩) [0, 1, 2, 3, 4, 5] (by decide) rfl (Nat.le_of_ble_eq_true rfl) (Nat.le_of_ble_eq_true rfl)
            · skip
              have k108 : ¬ ((Int32.toInt x0) = 25) := fun h_9 => c91 ((fa_eq x0 25).mpr h_9)
              by_cases c109 : x0 = 26
              · skip
                have k110 : (Int32.toInt x0) = 26 := (fa_eq x0 26).mp c109
                refine r_lookup 1 161 (off := 160) C dX0_linesAndCurves_1 (by decide) (by rw [c109]; decide) (by decide) ?_
                refine r_aload_n 161 0 C dX0_linesAndCurves_161 rfl ?_
                refine r_iconst 162 0 C dX0_linesAndCurves_162 (by decide) ?_
                refine r_callVi 163 C dX0_linesAndCurves_163 [] [(h0, .inr (0, [.ref h1, .ref h2, .ref h6, .int x1, .int x2, .long y0, .int x3, .int x4, .int x5, .int x6, .ref h7, .ref h8, .ref h9, .int x7, .int x8])), (h1, .inr (6, [.ref h3, .ref h10, .int x9, .int x10])), (h2, .inr (5, [.ref h4, .ref h5, .int x11, .int x12, .long y1, .long y2, .int x13])), (h3, .inl (gJ g, 48, .inr (.inl fm0))), (h4, .inl (gB g, 400, .inl fn0)), (h5, .inl (gJ g, 2400, .inr (.inl fm1)))] [] (fun sz => c282_X0_straightCurves l g h0 h1 h2 h3 h4 h5 0 h6 x1 x2 y0 x3 x4 x5 x6 h7 h8 h9 x7 x8 h10 x9 x10 x11 x12 y1 y2 x13 fm0 fn0 fm1 (by decide) i_x6 i_x7 i_x8 i_x9 i_x10 i_x11 i_x12 i_x13 sz) gX0_linesAndCurves_X0_straightCurves rfl ⟨rfl, rfl⟩ 1 (by decide) ⟨Nat.le_of_ble_eq_true rfl, Nat.le_of_ble_eq_true rfl⟩ 0 rfl rfl [0, 1, 2, 3, 4, 5] [] rfl rfl (by decide) (by decide) (by decide) rfl rfl (Nat.le_of_ble_eq_true rfl) ⟨Nat.le_of_ble_eq_true rfl, Nat.le_of_ble_eq_true rfl⟩ (fun r117 u119 w118 => ?_)
                obtain ⟨z111, z112, z113, z114, f115, f116⟩ := u119
                refine r_ws [(h0, .inr (0, [.ref h1, .ref h2, .ref h6, .int x1, .int x2, .long y0, .int x3, .int x4, .int x5, .int x6, .ref h7, .ref h8, .ref h9, .int x7, .int x8])), (h1, .inr (6, [.ref h3, .ref h10, .int x9, .int x10])), (h2, .inr (5, [.ref h4, .ref h5, .int z111, .int x12, .long z112, .long z113, .int z114])), (h3, .inl (gJ g, 48, .inr (.inl fm0))), (h4, .inl (gB g, 400, .inl f115)), (h5, .inl (gJ g, 2400, .inr (.inl f116)))] rfl ?_
                have gz112 := fb_rngL z112
                have gz113 := fb_rngL z113
                have p120 : 0 ≤ (Int32.toInt r117) := w118.1
                have p121 : (Int32.toInt r117) ≤ 6 := w118.2.1
                have p122 : 0 ≤ (Int32.toInt z111) := w118.2.2.1
                have p123 : (Int32.toInt z111) ≤ 400 := w118.2.2.2.1
                have p124 : 0 ≤ (Int32.toInt z114) := w118.2.2.2.2.1
                have p125 : (Int32.toInt z114) ≤ 1 := w118.2.2.2.2.2
                exact r_iret 166 Rt dX0_linesAndCurves_166 (z111, z112, z113, z114, f115, f116) (show 0 ≤ (Int32.toInt r117) ∧ (Int32.toInt r117) ≤ 6 ∧ 0 ≤ (Int32.toInt z111) ∧ (Int32.toInt z111) ≤ 400 ∧ 0 ≤ (Int32.toInt z114) ∧ (Int32.toInt z114) ≤ 1 from ⟨(show _ ∧ _ from ⟨p120, p121⟩).1, (show _ ∧ _ from ⟨p120, p121⟩).2, (show _ ∧ _ from ⟨p122, p123⟩).1, (show _ ∧ _ from ⟨p122, p123⟩).2, (show _ ∧ _ from ⟨p124, p125⟩).1, (show _ ∧ _ from ⟨p124, p125⟩).2⟩) [0, 1, 2, 3, 4, 5] (by decide) rfl (Nat.le_of_ble_eq_true rfl) (Nat.le_of_ble_eq_true rfl)
              · skip
                have k126 : ¬ ((Int32.toInt x0) = 26) := fun h_9 => c109 ((fa_eq x0 26).mpr h_9)
                by_cases c127 : x0 = 27
                · skip
                  have k128 : (Int32.toInt x0) = 27 := (fa_eq x0 27).mp c127
                  refine r_lookup 1 167 (off := 166) C dX0_linesAndCurves_1 (by decide) (by rw [c127]; decide) (by decide) ?_
                  refine r_aload_n 167 0 C dX0_linesAndCurves_167 rfl ?_
                  refine r_iconst 168 1 C dX0_linesAndCurves_168 (by decide) ?_
                  refine r_callVi 169 C dX0_linesAndCurves_169 [] [(h0, .inr (0, [.ref h1, .ref h2, .ref h6, .int x1, .int x2, .long y0, .int x3, .int x4, .int x5, .int x6, .ref h7, .ref h8, .ref h9, .int x7, .int x8])), (h1, .inr (6, [.ref h3, .ref h10, .int x9, .int x10])), (h2, .inr (5, [.ref h4, .ref h5, .int x11, .int x12, .long y1, .long y2, .int x13])), (h3, .inl (gJ g, 48, .inr (.inl fm0))), (h4, .inl (gB g, 400, .inl fn0)), (h5, .inl (gJ g, 2400, .inr (.inl fm1)))] [] (fun sz => c282_X0_straightCurves l g h0 h1 h2 h3 h4 h5 1 h6 x1 x2 y0 x3 x4 x5 x6 h7 h8 h9 x7 x8 h10 x9 x10 x11 x12 y1 y2 x13 fm0 fn0 fm1 (by decide) i_x6 i_x7 i_x8 i_x9 i_x10 i_x11 i_x12 i_x13 sz) gX0_linesAndCurves_X0_straightCurves rfl ⟨rfl, rfl⟩ 1 (by decide) ⟨Nat.le_of_ble_eq_true rfl, Nat.le_of_ble_eq_true rfl⟩ 0 rfl rfl [0, 1, 2, 3, 4, 5] [] rfl rfl (by decide) (by decide) (by decide) rfl rfl (Nat.le_of_ble_eq_true rfl) ⟨Nat.le_of_ble_eq_true rfl, Nat.le_of_ble_eq_true rfl⟩ (fun r135 u137 w136 => ?_)
                  obtain ⟨z129, z130, z131, z132, f133, f134⟩ := u137
                  refine r_ws [(h0, .inr (0, [.ref h1, .ref h2, .ref h6, .int x1, .int x2, .long y0, .int x3, .int x4, .int x5, .int x6, .ref h7, .ref h8, .ref h9, .int x7, .int x8])), (h1, .inr (6, [.ref h3, .ref h10, .int x9, .int x10])), (h2, .inr (5, [.ref h4, .ref h5, .int z129, .int x12, .long z130, .long z131, .int z132])), (h3, .inl (gJ g, 48, .inr (.inl fm0))), (h4, .inl (gB g, 400, .inl f133)), (h5, .inl (gJ g, 2400, .inr (.inl f134)))] rfl ?_
                  have gz130 := fb_rngL z130
                  have gz131 := fb_rngL z131
                  have p138 : 0 ≤ (Int32.toInt r135) := w136.1
                  have p139 : (Int32.toInt r135) ≤ 6 := w136.2.1
                  have p140 : 0 ≤ (Int32.toInt z129) := w136.2.2.1
                  have p141 : (Int32.toInt z129) ≤ 400 := w136.2.2.2.1
                  have p142 : 0 ≤ (Int32.toInt z132) := w136.2.2.2.2.1
                  have p143 : (Int32.toInt z132) ≤ 1 := w136.2.2.2.2.2
                  exact r_iret 172 Rt dX0_linesAndCurves_172 (z129, z130, z131, z132, f133, f134) (show 0 ≤ (Int32.toInt r135) ∧ (Int32.toInt r135) ≤ 6 ∧ 0 ≤ (Int32.toInt z129) ∧ (Int32.toInt z129) ≤ 400 ∧ 0 ≤ (Int32.toInt z132) ∧ (Int32.toInt z132) ≤ 1 from ⟨(show _ ∧ _ from ⟨p138, p139⟩).1, (show _ ∧ _ from ⟨p138, p139⟩).2, (show _ ∧ _ from ⟨p140, p141⟩).1, (show _ ∧ _ from ⟨p140, p141⟩).2, (show _ ∧ _ from ⟨p142, p143⟩).1, (show _ ∧ _ from ⟨p142, p143⟩).2⟩) [0, 1, 2, 3, 4, 5] (by decide) rfl (Nat.le_of_ble_eq_true rfl) (Nat.le_of_ble_eq_true rfl)
                · skip
                  have k144 : ¬ ((Int32.toInt x0) = 27) := fun h_9 => c127 ((fa_eq x0 27).mpr h_9)
                  by_cases c145 : x0 = 30
                  · skip
                    have k146 : (Int32.toInt x0) = 30 := (fa_eq x0 30).mp c145
                    refine r_lookup 1 173 (off := 172) C dX0_linesAndCurves_1 (by decide) (by rw [c145]; decide) (by decide) ?_
                    refine r_aload_n 173 0 C dX0_linesAndCurves_173 rfl ?_
                    refine r_iconst 174 0 C dX0_linesAndCurves_174 (by decide) ?_
                    refine r_callUi 175 C dX0_linesAndCurves_175 [] [(h0, .inr (0, [.ref h1, .ref h2, .ref h6, .int x1, .int x2, .long y0, .int x3, .int x4, .int x5, .int x6, .ref h7, .ref h8, .ref h9, .int x7, .int x8])), (h1, .inr (6, [.ref h3, .ref h10, .int x9, .int x10])), (h2, .inr (5, [.ref h4, .ref h5, .int x11, .int x12, .long y1, .long y2, .int x13])), (h3, .inl (gJ g, 48, .inr (.inl fm0))), (h4, .inl (gB g, 400, .inl fn0)), (h5, .inl (gJ g, 2400, .inr (.inl fm1)))] [] (fun sz => c283_X4_turningCurves l g h0 h1 h2 h3 h4 h5 0 h6 x1 x2 y0 x3 x4 x5 x6 h7 h8 h9 x7 x8 h10 x9 x10 x11 x12 y1 y2 x13 fm0 fn0 fm1 (by decide) i_x6 i_x7 i_x8 i_x9 i_x10 i_x11 i_x12 i_x13 sz) gX0_linesAndCurves_X4_turningCurves_u103X0 rfl ⟨rfl, rfl⟩ 1 rfl (by decide) ⟨Nat.le_of_ble_eq_true rfl, Nat.le_of_ble_eq_true rfl⟩ 0 rfl rfl [0, 1, 2, 3, 4, 5] [] rfl rfl (by decide) (by decide) (by decide) rfl rfl (Nat.le_of_ble_eq_true rfl) ⟨Nat.le_of_ble_eq_true rfl, Nat.le_of_ble_eq_true rfl⟩ (fun r153 u155 w154 => ?_)
                    obtain ⟨z147, z148, z149, z150, f151, f152⟩ := u155
                    refine r_ws [(h0, .inr (0, [.ref h1, .ref h2, .ref h6, .int x1, .int x2, .long y0, .int x3, .int x4, .int x5, .int x6, .ref h7, .ref h8, .ref h9, .int x7, .int x8])), (h1, .inr (6, [.ref h3, .ref h10, .int x9, .int x10])), (h2, .inr (5, [.ref h4, .ref h5, .int z147, .int x12, .long z148, .long z149, .int z150])), (h3, .inl (gJ g, 48, .inr (.inl fm0))), (h4, .inl (gB g, 400, .inl f151)), (h5, .inl (gJ g, 2400, .inr (.inl f152)))] rfl ?_
                    have gz148 := fb_rngL z148
                    have gz149 := fb_rngL z149
                    have p156 : 0 ≤ (Int32.toInt r153) := w154.1
                    have p157 : (Int32.toInt r153) ≤ 6 := w154.2.1
                    have p158 : 0 ≤ (Int32.toInt z147) := w154.2.2.1
                    have p159 : (Int32.toInt z147) ≤ 400 := w154.2.2.2.1
                    have p160 : 0 ≤ (Int32.toInt z150) := w154.2.2.2.2.1
                    have p161 : (Int32.toInt z150) ≤ 1 := w154.2.2.2.2.2
                    exact r_iret 178 Rt dX0_linesAndCurves_178 (z147, z148, z149, z150, f151, f152) (show 0 ≤ (Int32.toInt r153) ∧ (Int32.toInt r153) ≤ 6 ∧ 0 ≤ (Int32.toInt z147) ∧ (Int32.toInt z147) ≤ 400 ∧ 0 ≤ (Int32.toInt z150) ∧ (Int32.toInt z150) ≤ 1 from ⟨(show _ ∧ _ from ⟨p156, p157⟩).1, (show _ ∧ _ from ⟨p156, p157⟩).2, (show _ ∧ _ from ⟨p158, p159⟩).1, (show _ ∧ _ from ⟨p158, p159⟩).2, (show _ ∧ _ from ⟨p160, p161⟩).1, (show _ ∧ _ from ⟨p160, p161⟩).2⟩) [0, 1, 2, 3, 4, 5] (by decide) rfl (Nat.le_of_ble_eq_true rfl) (Nat.le_of_ble_eq_true rfl)
                  · skip
                    have k162 : ¬ ((Int32.toInt x0) = 30) := fun h_9 => c145 ((fa_eq x0 30).mpr h_9)
                    by_cases c163 : x0 = 31
                    · skip
                      have k164 : (Int32.toInt x0) = 31 := (fa_eq x0 31).mp c163
                      refine r_lookup 1 179 (off := 178) C dX0_linesAndCurves_1 (by decide) (by rw [c163]; decide) (by decide) ?_
                      refine r_aload_n 179 0 C dX0_linesAndCurves_179 rfl ?_
                      refine r_iconst 180 1 C dX0_linesAndCurves_180 (by decide) ?_
                      refine r_callUi 181 C dX0_linesAndCurves_181 [] [(h0, .inr (0, [.ref h1, .ref h2, .ref h6, .int x1, .int x2, .long y0, .int x3, .int x4, .int x5, .int x6, .ref h7, .ref h8, .ref h9, .int x7, .int x8])), (h1, .inr (6, [.ref h3, .ref h10, .int x9, .int x10])), (h2, .inr (5, [.ref h4, .ref h5, .int x11, .int x12, .long y1, .long y2, .int x13])), (h3, .inl (gJ g, 48, .inr (.inl fm0))), (h4, .inl (gB g, 400, .inl fn0)), (h5, .inl (gJ g, 2400, .inr (.inl fm1)))] [] (fun sz => c283_X4_turningCurves l g h0 h1 h2 h3 h4 h5 1 h6 x1 x2 y0 x3 x4 x5 x6 h7 h8 h9 x7 x8 h10 x9 x10 x11 x12 y1 y2 x13 fm0 fn0 fm1 (by decide) i_x6 i_x7 i_x8 i_x9 i_x10 i_x11 i_x12 i_x13 sz) gX0_linesAndCurves_X4_turningCurves_u103X0 rfl ⟨rfl, rfl⟩ 1 rfl (by decide) ⟨Nat.le_of_ble_eq_true rfl, Nat.le_of_ble_eq_true rfl⟩ 0 rfl rfl [0, 1, 2, 3, 4, 5] [] rfl rfl (by decide) (by decide) (by decide) rfl rfl (Nat.le_of_ble_eq_true rfl) ⟨Nat.le_of_ble_eq_true rfl, Nat.le_of_ble_eq_true rfl⟩ (fun r171 u173 w172 => ?_)
                      obtain ⟨z165, z166, z167, z168, f169, f170⟩ := u173
                      refine r_ws [(h0, .inr (0, [.ref h1, .ref h2, .ref h6, .int x1, .int x2, .long y0, .int x3, .int x4, .int x5, .int x6, .ref h7, .ref h8, .ref h9, .int x7, .int x8])), (h1, .inr (6, [.ref h3, .ref h10, .int x9, .int x10])), (h2, .inr (5, [.ref h4, .ref h5, .int z165, .int x12, .long z166, .long z167, .int z168])), (h3, .inl (gJ g, 48, .inr (.inl fm0))), (h4, .inl (gB g, 400, .inl f169)), (h5, .inl (gJ g, 2400, .inr (.inl f170)))] rfl ?_
                      have gz166 := fb_rngL z166
                      have gz167 := fb_rngL z167
                      have p174 : 0 ≤ (Int32.toInt r171) := w172.1
                      have p175 : (Int32.toInt r171) ≤ 6 := w172.2.1
                      have p176 : 0 ≤ (Int32.toInt z165) := w172.2.2.1
                      have p177 : (Int32.toInt z165) ≤ 400 := w172.2.2.2.1
                      have p178 : 0 ≤ (Int32.toInt z168) := w172.2.2.2.2.1
                      have p179 : (Int32.toInt z168) ≤ 1 := w172.2.2.2.2.2
                      exact r_iret 184 Rt dX0_linesAndCurves_184 (z165, z166, z167, z168, f169, f170) (show 0 ≤ (Int32.toInt r171) ∧ (Int32.toInt r171) ≤ 6 ∧ 0 ≤ (Int32.toInt z165) ∧ (Int32.toInt z165) ≤ 400 ∧ 0 ≤ (Int32.toInt z168) ∧ (Int32.toInt z168) ≤ 1 from ⟨(show _ ∧ _ from ⟨p174, p175⟩).1, (show _ ∧ _ from ⟨p174, p175⟩).2, (show _ ∧ _ from ⟨p176, p177⟩).1, (show _ ∧ _ from ⟨p176, p177⟩).2, (show _ ∧ _ from ⟨p178, p179⟩).1, (show _ ∧ _ from ⟨p178, p179⟩).2⟩) [0, 1, 2, 3, 4, 5] (by decide) rfl (Nat.le_of_ble_eq_true rfl) (Nat.le_of_ble_eq_true rfl)
                    · skip
                      have k180 : ¬ ((Int32.toInt x0) = 31) := fun h_9 => c163 ((fa_eq x0 31).mpr h_9)
                      by_cases c181 : x0 = 290
                      · skip
                        have k182 : (Int32.toInt x0) = 290 := (fa_eq x0 290).mp c181
                        refine r_lookup 1 185 (off := 184) C dX0_linesAndCurves_1 (by decide) (by rw [c181]; decide) (by decide) ?_
                        refine r_aload_n 185 0 C dX0_linesAndCurves_185 rfl ?_
                        refine r_get 186 C dX0_linesAndCurves_186 (k := 0) 0 rfl rfl hiX0 (by decide) rfl (mg 1 rfl) (Or.inr (mg 2 rfl)) rfl ?_
                        refine r_callVi 189 C dX0_linesAndCurves_189 [] [(h1, .inr (6, [.ref h3, .ref h10, .int x9, .int x10]))] [(h0, .inr (0, [.ref h1, .ref h2, .ref h6, .int x1, .int x2, .long y0, .int x3, .int x4, .int x5, .int x6, .ref h7, .ref h8, .ref h9, .int x7, .int x8])), (h2, .inr (5, [.ref h4, .ref h5, .int x11, .int x12, .long y1, .long y2, .int x13])), (h3, .inl (gJ g, 48, .inr (.inl fm0))), (h4, .inl (gB g, 400, .inl fn0)), (h5, .inl (gJ g, 2400, .inr (.inl fm1)))] (fun sz => c231_X7_size l g h1 h3 h10 x9 x10 i_x9 i_x10 sz) gX0_linesAndCurves_X7_size rfl ⟨rfl, rfl⟩ 0 (by decide) ⟨Nat.le_of_ble_eq_true rfl, Nat.le_of_ble_eq_true rfl⟩ 1 rfl rfl [1] [0, 2, 3, 4, 5] rfl rfl (by decide) (by decide) (by decide) rfl rfl (Nat.le_of_ble_eq_true rfl) ⟨Nat.le_of_ble_eq_true rfl, Nat.le_of_ble_eq_true rfl⟩ (fun r183 _ w184 => ?_)
                        refine r_ws [(h0, .inr (0, [.ref h1, .ref h2, .ref h6, .int x1, .int x2, .long y0, .int x3, .int x4, .int x5, .int x6, .ref h7, .ref h8, .ref h9, .int x7, .int x8])), (h2, .inr (5, [.ref h4, .ref h5, .int x11, .int x12, .long y1, .long y2, .int x13])), (h3, .inl (gJ g, 48, .inr (.inl fm0))), (h4, .inl (gB g, 400, .inl fn0)), (h5, .inl (gJ g, 2400, .inr (.inl fm1))), (h1, .inr (6, [.ref h3, .ref h10, .int x9, .int x10]))] rfl ?_
                        have p185 : x9 = r183 := (w184).symm
                        subst p185
                        refine r_bipush 192 7 C dX0_linesAndCurves_192 (by decide) ?_
                        refine r_icmp_ne 194 204 C dX0_linesAndCurves_194 (by decide) (fun c186 => ?_) (fun c186 => ?_)
                        · skip
                          have k187 : ¬ ((Int32.toInt x9) = 7) := fun h_9 => c186 ((fa_eq x9 7).mpr h_9)
                          refine r_iconst 204 2 C dX0_linesAndCurves_204 (by decide) ?_
                          exact r_iret 205 Rt dX0_linesAndCurves_205 (x11, y1, y2, x13, fn0, fm1) (show 0 ≤ (Int32.toInt 2) ∧ (Int32.toInt 2) ≤ 6 ∧ 0 ≤ (Int32.toInt x11) ∧ (Int32.toInt x11) ≤ 400 ∧ 0 ≤ (Int32.toInt x13) ∧ (Int32.toInt x13) ≤ 1 from ⟨(by ((repeat' apply And.intro) <;> first | trivial | rfl | assumption | omega | decide | exact Or.inl rfl | exact Or.inr (Or.inl rfl) | exact Or.inr (Or.inr rfl))), (by ((repeat' apply And.intro) <;> first | trivial | rfl | assumption | omega | decide | exact Or.inl rfl | exact Or.inr (Or.inl rfl) | exact Or.inr (Or.inr rfl))), i_x11.1, i_x11.2, i_x13.1, i_x13.2⟩) [0, 5, 1, 2, 3, 4] (by decide) rfl (Nat.le_of_ble_eq_true rfl) (Nat.le_of_ble_eq_true rfl)
                        · skip
                          have k188 : (Int32.toInt x9) = 7 := (fa_eq x9 7).mp c186
                          refine r_aload_n 197 0 C dX0_linesAndCurves_197 rfl ?_
                          refine r_callVi 198 C dX0_linesAndCurves_198 [] [(h0, .inr (0, [.ref h1, .ref h2, .ref h6, .int x1, .int x2, .long y0, .int x3, .int x4, .int x5, .int x6, .ref h7, .ref h8, .ref h9, .int x7, .int x8])), (h1, .inr (6, [.ref h3, .ref h10, .int x9, .int x10])), (h2, .inr (5, [.ref h4, .ref h5, .int x11, .int x12, .long y1, .long y2, .int x13])), (h3, .inl (gJ g, 48, .inr (.inl fm0))), (h4, .inl (gB g, 400, .inl fn0)), (h5, .inl (gJ g, 2400, .inr (.inl fm1)))] [] (fun sz => c284_X0_flexAlongX l g h0 h1 h2 h3 h4 h5 h6 x1 x2 y0 x3 x4 x5 x6 h7 h8 h9 x7 x8 h10 x9 x10 x11 x12 y1 y2 x13 fm0 fn0 fm1 i_x6 i_x7 i_x8 i_x9 i_x10 i_x11 i_x12 i_x13 sz) gX0_linesAndCurves_X0_flexAlongX rfl ⟨rfl, rfl⟩ 0 (by decide) ⟨Nat.le_of_ble_eq_true rfl, Nat.le_of_ble_eq_true rfl⟩ 0 rfl rfl [0, 5, 1, 2, 3, 4] [] rfl rfl (by decide) (by decide) (by decide) rfl rfl (Nat.le_of_ble_eq_true rfl) ⟨Nat.le_of_ble_eq_true rfl, Nat.le_of_ble_eq_true rfl⟩ (fun r194 u196 w195 => ?_)
                          obtain ⟨z189, z190, z191, f192, f193⟩ := u196
                          refine r_ws [(h0, .inr (0, [.ref h1, .ref h2, .ref h6, .int x1, .int x2, .long y0, .int x3, .int x4, .int x5, .int x6, .ref h7, .ref h8, .ref h9, .int x7, .int x8])), (h1, .inr (6, [.ref h3, .ref h10, .int x9, .int x10])), (h2, .inr (5, [.ref h4, .ref h5, .int z189, .int x12, .long z190, .long z191, .int 1])), (h3, .inl (gJ g, 48, .inr (.inl fm0))), (h4, .inl (gB g, 400, .inl f192)), (h5, .inl (gJ g, 2400, .inr (.inl f193)))] rfl ?_
                          have gz190 := fb_rngL z190
                          have gz191 := fb_rngL z191
                          have p197 : 0 ≤ (Int32.toInt r194) := w195.1
                          have p198 : (Int32.toInt r194) ≤ 6 := w195.2.1
                          have p199 : 0 ≤ (Int32.toInt z189) := w195.2.2.1
                          have p200 : (Int32.toInt z189) ≤ 400 := w195.2.2.2
                          refine r_goto 201 205 C dX0_linesAndCurves_201 (by decide) ?_
                          exact r_iret 205 Rt dX0_linesAndCurves_205 (z189, z190, z191, 1, f192, f193) (show 0 ≤ (Int32.toInt r194) ∧ (Int32.toInt r194) ≤ 6 ∧ 0 ≤ (Int32.toInt z189) ∧ (Int32.toInt z189) ≤ 400 ∧ 0 ≤ (Int32.toInt 1) ∧ (Int32.toInt 1) ≤ 1 from ⟨(show _ ∧ _ from ⟨p197, p198⟩).1, (show _ ∧ _ from ⟨p197, p198⟩).2, (show _ ∧ _ from ⟨p199, p200⟩).1, (show _ ∧ _ from ⟨p199, p200⟩).2, (by ((repeat' apply And.intro) <;> first | trivial | rfl | assumption | omega | decide | exact Or.inl rfl | exact Or.inr (Or.inl rfl) | exact Or.inr (Or.inr rfl))), (by ((repeat' apply And.intro) <;> first | trivial | rfl | assumption | omega | decide | exact Or.inl rfl | exact Or.inr (Or.inl rfl) | exact Or.inr (Or.inr rfl)))⟩) [0, 1, 2, 3, 4, 5] (by decide) rfl (Nat.le_of_ble_eq_true rfl) (Nat.le_of_ble_eq_true rfl)
                      · skip
                        have k201 : ¬ ((Int32.toInt x0) = 290) := fun h_9 => c181 ((fa_eq x0 290).mpr h_9)
                        by_cases c202 : x0 = 291
                        · skip
                          have k203 : (Int32.toInt x0) = 291 := (fa_eq x0 291).mp c202
                          refine r_lookup 1 206 (off := 205) C dX0_linesAndCurves_1 (by decide) (by rw [c202]; decide) (by decide) ?_
                          refine r_aload_n 206 0 C dX0_linesAndCurves_206 rfl ?_
                          refine r_get 207 C dX0_linesAndCurves_207 (k := 0) 0 rfl rfl hiX0 (by decide) rfl (mg 1 rfl) (Or.inr (mg 2 rfl)) rfl ?_
                          refine r_callVi 210 C dX0_linesAndCurves_210 [] [(h1, .inr (6, [.ref h3, .ref h10, .int x9, .int x10]))] [(h0, .inr (0, [.ref h1, .ref h2, .ref h6, .int x1, .int x2, .long y0, .int x3, .int x4, .int x5, .int x6, .ref h7, .ref h8, .ref h9, .int x7, .int x8])), (h2, .inr (5, [.ref h4, .ref h5, .int x11, .int x12, .long y1, .long y2, .int x13])), (h3, .inl (gJ g, 48, .inr (.inl fm0))), (h4, .inl (gB g, 400, .inl fn0)), (h5, .inl (gJ g, 2400, .inr (.inl fm1)))] (fun sz => c231_X7_size l g h1 h3 h10 x9 x10 i_x9 i_x10 sz) gX0_linesAndCurves_X7_size rfl ⟨rfl, rfl⟩ 0 (by decide) ⟨Nat.le_of_ble_eq_true rfl, Nat.le_of_ble_eq_true rfl⟩ 1 rfl rfl [1] [0, 2, 3, 4, 5] rfl rfl (by decide) (by decide) (by decide) rfl rfl (Nat.le_of_ble_eq_true rfl) ⟨Nat.le_of_ble_eq_true rfl, Nat.le_of_ble_eq_true rfl⟩ (fun r204 _ w205 => ?_)
                          refine r_ws [(h0, .inr (0, [.ref h1, .ref h2, .ref h6, .int x1, .int x2, .long y0, .int x3, .int x4, .int x5, .int x6, .ref h7, .ref h8, .ref h9, .int x7, .int x8])), (h2, .inr (5, [.ref h4, .ref h5, .int x11, .int x12, .long y1, .long y2, .int x13])), (h3, .inl (gJ g, 48, .inr (.inl fm0))), (h4, .inl (gB g, 400, .inl fn0)), (h5, .inl (gJ g, 2400, .inr (.inl fm1))), (h1, .inr (6, [.ref h3, .ref h10, .int x9, .int x10]))] rfl ?_
                          have p206 : x9 = r204 := (w205).symm
                          subst p206
                          refine r_bipush 213 13 C dX0_linesAndCurves_213 (by decide) ?_
                          refine r_icmp_ne 215 228 C dX0_linesAndCurves_215 (by decide) (fun c207 => ?_) (fun c207 => ?_)
                          · skip
                            have k208 : ¬ ((Int32.toInt x9) = 13) := fun h_9 => c207 ((fa_eq x9 13).mpr h_9)
                            refine r_iconst 228 2 C dX0_linesAndCurves_228 (by decide) ?_
                            exact r_iret 229 Rt dX0_linesAndCurves_229 (x11, y1, y2, x13, fn0, fm1) (show 0 ≤ (Int32.toInt 2) ∧ (Int32.toInt 2) ≤ 6 ∧ 0 ≤ (Int32.toInt x11) ∧ (Int32.toInt x11) ≤ 400 ∧ 0 ≤ (Int32.toInt x13) ∧ (Int32.toInt x13) ≤ 1 from ⟨(by ((repeat' apply And.intro) <;> first | trivial | rfl | assumption | omega | decide | exact Or.inl rfl | exact Or.inr (Or.inl rfl) | exact Or.inr (Or.inr rfl))), (by ((repeat' apply And.intro) <;> first | trivial | rfl | assumption | omega | decide | exact Or.inl rfl | exact Or.inr (Or.inl rfl) | exact Or.inr (Or.inr rfl))), i_x11.1, i_x11.2, i_x13.1, i_x13.2⟩) [0, 5, 1, 2, 3, 4] (by decide) rfl (Nat.le_of_ble_eq_true rfl) (Nat.le_of_ble_eq_true rfl)
                          · skip
                            have k209 : (Int32.toInt x9) = 13 := (fa_eq x9 13).mp c207
                            refine r_aload_n 218 0 C dX0_linesAndCurves_218 rfl ?_
                            refine r_iconst 219 0 C dX0_linesAndCurves_219 (by decide) ?_
                            refine r_bipush 220 12 C dX0_linesAndCurves_220 (by decide) ?_
                            refine r_callUi 222 C dX0_linesAndCurves_222 [] [(h0, .inr (0, [.ref h1, .ref h2, .ref h6, .int x1, .int x2, .long y0, .int x3, .int x4, .int x5, .int x6, .ref h7, .ref h8, .ref h9, .int x7, .int x8])), (h1, .inr (6, [.ref h3, .ref h10, .int x9, .int x10])), (h2, .inr (5, [.ref h4, .ref h5, .int x11, .int x12, .long y1, .long y2, .int x13])), (h3, .inl (gJ g, 48, .inr (.inl fm0))), (h4, .inl (gB g, 400, .inl fn0)), (h5, .inl (gJ g, 2400, .inr (.inl fm1)))] [] (fun sz => c276_X4_curves l g h0 h1 h2 h3 h4 h5 0 12 h6 x1 x2 y0 x3 x4 x5 x6 h7 h8 h9 x7 x8 h10 x9 x10 x11 x12 y1 y2 x13 fm0 fn0 fm1 (by decide) (by decide) i_x6 i_x7 i_x8 i_x9 i_x10 i_x11 i_x12 i_x13 sz) gX0_linesAndCurves_X4_curves_u110X0 rfl ⟨rfl, rfl⟩ 2 rfl (by decide) ⟨Nat.le_of_ble_eq_true rfl, Nat.le_of_ble_eq_true rfl⟩ 0 rfl rfl [0, 5, 1, 2, 3, 4] [] rfl rfl (by decide) (by decide) (by decide) rfl rfl (Nat.le_of_ble_eq_true rfl) ⟨Nat.le_of_ble_eq_true rfl, Nat.le_of_ble_eq_true rfl⟩ (fun r216 u218 w217 => ?_)
                            obtain ⟨z210, z211, z212, z213, f214, f215⟩ := u218
                            refine r_ws [(h0, .inr (0, [.ref h1, .ref h2, .ref h6, .int x1, .int x2, .long y0, .int x3, .int x4, .int x5, .int x6, .ref h7, .ref h8, .ref h9, .int x7, .int x8])), (h1, .inr (6, [.ref h3, .ref h10, .int x9, .int x10])), (h2, .inr (5, [.ref h4, .ref h5, .int z210, .int x12, .long z211, .long z212, .int z213])), (h3, .inl (gJ g, 48, .inr (.inl fm0))), (h4, .inl (gB g, 400, .inl f214)), (h5, .inl (gJ g, 2400, .inr (.inl f215)))] rfl ?_
                            have gz211 := fb_rngL z211
                            have gz212 := fb_rngL z212
                            have p219 : 0 ≤ (Int32.toInt r216) := w217.1
                            have p220 : (Int32.toInt r216) ≤ 6 := w217.2.1
                            have p221 : 0 ≤ (Int32.toInt z210) := w217.2.2.1
                            have p222 : (Int32.toInt z210) ≤ 400 := w217.2.2.2.1
                            have p223 : 0 ≤ (Int32.toInt z213) := w217.2.2.2.2.1
                            have p224 : (Int32.toInt z213) ≤ 1 := w217.2.2.2.2.2
                            refine r_goto 225 229 C dX0_linesAndCurves_225 (by decide) ?_
                            exact r_iret 229 Rt dX0_linesAndCurves_229 (z210, z211, z212, z213, f214, f215) (show 0 ≤ (Int32.toInt r216) ∧ (Int32.toInt r216) ≤ 6 ∧ 0 ≤ (Int32.toInt z210) ∧ (Int32.toInt z210) ≤ 400 ∧ 0 ≤ (Int32.toInt z213) ∧ (Int32.toInt z213) ≤ 1 from ⟨(show _ ∧ _ from ⟨p219, p220⟩).1, (show _ ∧ _ from ⟨p219, p220⟩).2, (show _ ∧ _ from ⟨p221, p222⟩).1, (show _ ∧ _ from ⟨p221, p222⟩).2, (show _ ∧ _ from ⟨p223, p224⟩).1, (show _ ∧ _ from ⟨p223, p224⟩).2⟩) [0, 1, 2, 3, 4, 5] (by decide) rfl (Nat.le_of_ble_eq_true rfl) (Nat.le_of_ble_eq_true rfl)
                        · skip
                          have k225 : ¬ ((Int32.toInt x0) = 291) := fun h_9 => c202 ((fa_eq x0 291).mpr h_9)
                          by_cases c226 : x0 = 292
                          · skip
                            have k227 : (Int32.toInt x0) = 292 := (fa_eq x0 292).mp c226
                            refine r_lookup 1 230 (off := 229) C dX0_linesAndCurves_1 (by decide) (by rw [c226]; decide) (by decide) ?_
                            refine r_aload_n 230 0 C dX0_linesAndCurves_230 rfl ?_
                            refine r_get 231 C dX0_linesAndCurves_231 (k := 0) 0 rfl rfl hiX0 (by decide) rfl (mg 1 rfl) (Or.inr (mg 2 rfl)) rfl ?_
                            refine r_callVi 234 C dX0_linesAndCurves_234 [] [(h1, .inr (6, [.ref h3, .ref h10, .int x9, .int x10]))] [(h0, .inr (0, [.ref h1, .ref h2, .ref h6, .int x1, .int x2, .long y0, .int x3, .int x4, .int x5, .int x6, .ref h7, .ref h8, .ref h9, .int x7, .int x8])), (h2, .inr (5, [.ref h4, .ref h5, .int x11, .int x12, .long y1, .long y2, .int x13])), (h3, .inl (gJ g, 48, .inr (.inl fm0))), (h4, .inl (gB g, 400, .inl fn0)), (h5, .inl (gJ g, 2400, .inr (.inl fm1)))] (fun sz => c231_X7_size l g h1 h3 h10 x9 x10 i_x9 i_x10 sz) gX0_linesAndCurves_X7_size rfl ⟨rfl, rfl⟩ 0 (by decide) ⟨Nat.le_of_ble_eq_true rfl, Nat.le_of_ble_eq_true rfl⟩ 1 rfl rfl [1] [0, 2, 3, 4, 5] rfl rfl (by decide) (by decide) (by decide) rfl rfl (Nat.le_of_ble_eq_true rfl) ⟨Nat.le_of_ble_eq_true rfl, Nat.le_of_ble_eq_true rfl⟩ (fun r228 _ w229 => ?_)
                            refine r_ws [(h0, .inr (0, [.ref h1, .ref h2, .ref h6, .int x1, .int x2, .long y0, .int x3, .int x4, .int x5, .int x6, .ref h7, .ref h8, .ref h9, .int x7, .int x8])), (h2, .inr (5, [.ref h4, .ref h5, .int x11, .int x12, .long y1, .long y2, .int x13])), (h3, .inl (gJ g, 48, .inr (.inl fm0))), (h4, .inl (gB g, 400, .inl fn0)), (h5, .inl (gJ g, 2400, .inr (.inl fm1))), (h1, .inr (6, [.ref h3, .ref h10, .int x9, .int x10]))] rfl ?_
                            have p230 : x9 = r228 := (w229).symm
                            subst p230
                            refine r_bipush 237 9 C dX0_linesAndCurves_237 (by decide) ?_
                            refine r_icmp_ne 239 249 C dX0_linesAndCurves_239 (by decide) (fun c231 => ?_) (fun c231 => ?_)
                            · skip
                              have k232 : ¬ ((Int32.toInt x9) = 9) := fun h_9 => c231 ((fa_eq x9 9).mpr h_9)
                              refine r_iconst 249 2 C dX0_linesAndCurves_249 (by decide) ?_
                              exact r_iret 250 Rt dX0_linesAndCurves_250 (x11, y1, y2, x13, fn0, fm1) (show 0 ≤ (Int32.toInt 2) ∧ (Int32.toInt 2) ≤ 6 ∧ 0 ≤ (Int32.toInt x11) ∧ (Int32.toInt x11) ≤ 400 ∧ 0 ≤ (Int32.toInt x13) ∧ (Int32.toInt x13) ≤ 1 from ⟨(by ((repeat' apply And.intro) <;> first | trivial | rfl | assumption | omega | decide | exact Or.inl rfl | exact Or.inr (Or.inl rfl) | exact Or.inr (Or.inr rfl))), (by ((repeat' apply And.intro) <;> first | trivial | rfl | assumption | omega | decide | exact Or.inl rfl | exact Or.inr (Or.inl rfl) | exact Or.inr (Or.inr rfl))), i_x11.1, i_x11.2, i_x13.1, i_x13.2⟩) [0, 5, 1, 2, 3, 4] (by decide) rfl (Nat.le_of_ble_eq_true rfl) (Nat.le_of_ble_eq_true rfl)
                            · skip
                              have k233 : (Int32.toInt x9) = 9 := (fa_eq x9 9).mp c231
                              refine r_aload_n 242 0 C dX0_linesAndCurves_242 rfl ?_
                              refine r_callVi 243 C dX0_linesAndCurves_243 [] [(h0, .inr (0, [.ref h1, .ref h2, .ref h6, .int x1, .int x2, .long y0, .int x3, .int x4, .int x5, .int x6, .ref h7, .ref h8, .ref h9, .int x7, .int x8])), (h1, .inr (6, [.ref h3, .ref h10, .int x9, .int x10])), (h2, .inr (5, [.ref h4, .ref h5, .int x11, .int x12, .long y1, .long y2, .int x13])), (h3, .inl (gJ g, 48, .inr (.inl fm0))), (h4, .inl (gB g, 400, .inl fn0)), (h5, .inl (gJ g, 2400, .inr (.inl fm1)))] [] (fun sz => c285_X0_flexBackToY l g h0 h1 h2 h3 h4 h5 h6 x1 x2 y0 x3 x4 x5 x6 h7 h8 h9 x7 x8 h10 x9 x10 x11 x12 y1 y2 x13 fm0 fn0 fm1 i_x6 i_x7 i_x8 i_x9 i_x10 i_x11 i_x12 i_x13 sz) gX0_linesAndCurves_X0_flexBackToY rfl ⟨rfl, rfl⟩ 0 (by decide) ⟨Nat.le_of_ble_eq_true rfl, Nat.le_of_ble_eq_true rfl⟩ 0 rfl rfl [0, 5, 1, 2, 3, 4] [] rfl rfl (by decide) (by decide) (by decide) rfl rfl (Nat.le_of_ble_eq_true rfl) ⟨Nat.le_of_ble_eq_true rfl, Nat.le_of_ble_eq_true rfl⟩ (fun r239 u241 w240 => ?_)
                              obtain ⟨z234, z235, z236, f237, f238⟩ := u241
                              refine r_ws [(h0, .inr (0, [.ref h1, .ref h2, .ref h6, .int x1, .int x2, .long y0, .int x3, .int x4, .int x5, .int x6, .ref h7, .ref h8, .ref h9, .int x7, .int x8])), (h1, .inr (6, [.ref h3, .ref h10, .int x9, .int x10])), (h2, .inr (5, [.ref h4, .ref h5, .int z234, .int x12, .long z235, .long z236, .int 1])), (h3, .inl (gJ g, 48, .inr (.inl fm0))), (h4, .inl (gB g, 400, .inl f237)), (h5, .inl (gJ g, 2400, .inr (.inl f238)))] rfl ?_
                              have gz235 := fb_rngL z235
                              have gz236 := fb_rngL z236
                              have p242 : 0 ≤ (Int32.toInt r239) := w240.1
                              have p243 : (Int32.toInt r239) ≤ 6 := w240.2.1
                              have p244 : 0 ≤ (Int32.toInt z234) := w240.2.2.1
                              have p245 : (Int32.toInt z234) ≤ 400 := w240.2.2.2
                              refine r_goto 246 250 C dX0_linesAndCurves_246 (by decide) ?_
                              exact r_iret 250 Rt dX0_linesAndCurves_250 (z234, z235, z236, 1, f237, f238) (show 0 ≤ (Int32.toInt r239) ∧ (Int32.toInt r239) ≤ 6 ∧ 0 ≤ (Int32.toInt z234) ∧ (Int32.toInt z234) ≤ 400 ∧ 0 ≤ (Int32.toInt 1) ∧ (Int32.toInt 1) ≤ 1 from ⟨(show _ ∧ _ from ⟨p242, p243⟩).1, (show _ ∧ _ from ⟨p242, p243⟩).2, (show _ ∧ _ from ⟨p244, p245⟩).1, (show _ ∧ _ from ⟨p244, p245⟩).2, (by ((repeat' apply And.intro) <;> first | trivial | rfl | assumption | omega | decide | exact Or.inl rfl | exact Or.inr (Or.inl rfl) | exact Or.inr (Or.inr rfl))), (by ((repeat' apply And.intro) <;> first | trivial | rfl | assumption | omega | decide | exact Or.inl rfl | exact Or.inr (Or.inl rfl) | exact Or.inr (Or.inr rfl)))⟩) [0, 1, 2, 3, 4, 5] (by decide) rfl (Nat.le_of_ble_eq_true rfl) (Nat.le_of_ble_eq_true rfl)
                          · skip
                            have k246 : ¬ ((Int32.toInt x0) = 292) := fun h_9 => c226 ((fa_eq x0 292).mpr h_9)
                            by_cases c247 : x0 = 293
                            · skip
                              have k248 : (Int32.toInt x0) = 293 := (fa_eq x0 293).mp c247
                              refine r_lookup 1 251 (off := 250) C dX0_linesAndCurves_1 (by decide) (by rw [c247]; decide) (by decide) ?_
                              refine r_aload_n 251 0 C dX0_linesAndCurves_251 rfl ?_
                              refine r_get 252 C dX0_linesAndCurves_252 (k := 0) 0 rfl rfl hiX0 (by decide) rfl (mg 1 rfl) (Or.inr (mg 2 rfl)) rfl ?_
                              refine r_callVi 255 C dX0_linesAndCurves_255 [] [(h1, .inr (6, [.ref h3, .ref h10, .int x9, .int x10]))] [(h0, .inr (0, [.ref h1, .ref h2, .ref h6, .int x1, .int x2, .long y0, .int x3, .int x4, .int x5, .int x6, .ref h7, .ref h8, .ref h9, .int x7, .int x8])), (h2, .inr (5, [.ref h4, .ref h5, .int x11, .int x12, .long y1, .long y2, .int x13])), (h3, .inl (gJ g, 48, .inr (.inl fm0))), (h4, .inl (gB g, 400, .inl fn0)), (h5, .inl (gJ g, 2400, .inr (.inl fm1)))] (fun sz => c231_X7_size l g h1 h3 h10 x9 x10 i_x9 i_x10 sz) gX0_linesAndCurves_X7_size rfl ⟨rfl, rfl⟩ 0 (by decide) ⟨Nat.le_of_ble_eq_true rfl, Nat.le_of_ble_eq_true rfl⟩ 1 rfl rfl [1] [0, 2, 3, 4, 5] rfl rfl (by decide) (by decide) (by decide) rfl rfl (Nat.le_of_ble_eq_true rfl) ⟨Nat.le_of_ble_eq_true rfl, Nat.le_of_ble_eq_true rfl⟩ (fun r249 _ w250 => ?_)
                              refine r_ws [(h0, .inr (0, [.ref h1, .ref h2, .ref h6, .int x1, .int x2, .long y0, .int x3, .int x4, .int x5, .int x6, .ref h7, .ref h8, .ref h9, .int x7, .int x8])), (h2, .inr (5, [.ref h4, .ref h5, .int x11, .int x12, .long y1, .long y2, .int x13])), (h3, .inl (gJ g, 48, .inr (.inl fm0))), (h4, .inl (gB g, 400, .inl fn0)), (h5, .inl (gJ g, 2400, .inr (.inl fm1))), (h1, .inr (6, [.ref h3, .ref h10, .int x9, .int x10]))] rfl ?_
                              have p251 : x9 = r249 := (w250).symm
                              subst p251
                              refine r_bipush 258 11 C dX0_linesAndCurves_258 (by decide) ?_
                              refine r_icmp_ne 260 270 C dX0_linesAndCurves_260 (by decide) (fun c252 => ?_) (fun c252 => ?_)
                              · skip
                                have k253 : ¬ ((Int32.toInt x9) = 11) := fun h_9 => c252 ((fa_eq x9 11).mpr h_9)
                                refine r_iconst 270 2 C dX0_linesAndCurves_270 (by decide) ?_
                                exact r_iret 271 Rt dX0_linesAndCurves_271 (x11, y1, y2, x13, fn0, fm1) (show 0 ≤ (Int32.toInt 2) ∧ (Int32.toInt 2) ≤ 6 ∧ 0 ≤ (Int32.toInt x11) ∧ (Int32.toInt x11) ≤ 400 ∧ 0 ≤ (Int32.toInt x13) ∧ (Int32.toInt x13) ≤ 1 from ⟨(by ((repeat' apply And.intro) <;> first | trivial | rfl | assumption | omega | decide | exact Or.inl rfl | exact Or.inr (Or.inl rfl) | exact Or.inr (Or.inr rfl))), (by ((repeat' apply And.intro) <;> first | trivial | rfl | assumption | omega | decide | exact Or.inl rfl | exact Or.inr (Or.inl rfl) | exact Or.inr (Or.inr rfl))), i_x11.1, i_x11.2, i_x13.1, i_x13.2⟩) [0, 5, 1, 2, 3, 4] (by decide) rfl (Nat.le_of_ble_eq_true rfl) (Nat.le_of_ble_eq_true rfl)
                              · skip
                                have k254 : (Int32.toInt x9) = 11 := (fa_eq x9 11).mp c252
                                refine r_aload_n 263 0 C dX0_linesAndCurves_263 rfl ?_
                                refine r_callVi 264 C dX0_linesAndCurves_264 [] [(h0, .inr (0, [.ref h1, .ref h2, .ref h6, .int x1, .int x2, .long y0, .int x3, .int x4, .int x5, .int x6, .ref h7, .ref h8, .ref h9, .int x7, .int x8])), (h1, .inr (6, [.ref h3, .ref h10, .int x9, .int x10])), (h2, .inr (5, [.ref h4, .ref h5, .int x11, .int x12, .long y1, .long y2, .int x13])), (h3, .inl (gJ g, 48, .inr (.inl fm0))), (h4, .inl (gB g, 400, .inl fn0)), (h5, .inl (gJ g, 2400, .inr (.inl fm1)))] [] (fun sz => c286_X0_flexBack l g h0 h1 h2 h3 h4 h5 h6 x1 x2 y0 x3 x4 x5 x6 h7 h8 h9 x7 x8 h10 x9 x10 x11 x12 y1 y2 x13 fm0 fn0 fm1 i_x6 i_x7 i_x8 i_x9 i_x10 i_x11 i_x12 i_x13 sz) gX0_linesAndCurves_X0_flexBack rfl ⟨rfl, rfl⟩ 0 (by decide) ⟨Nat.le_of_ble_eq_true rfl, Nat.le_of_ble_eq_true rfl⟩ 0 rfl rfl [0, 5, 1, 2, 3, 4] [] rfl rfl (by decide) (by decide) (by decide) rfl rfl (Nat.le_of_ble_eq_true rfl) ⟨Nat.le_of_ble_eq_true rfl, Nat.le_of_ble_eq_true rfl⟩ (fun r261 u263 w262 => ?_)
                                obtain ⟨z255, z256, z257, z258, f259, f260⟩ := u263
                                refine r_ws [(h0, .inr (0, [.ref h1, .ref h2, .ref h6, .int x1, .int x2, .long y0, .int x3, .int x4, .int x5, .int x6, .ref h7, .ref h8, .ref h9, .int x7, .int x8])), (h1, .inr (6, [.ref h3, .ref h10, .int x9, .int x10])), (h2, .inr (5, [.ref h4, .ref h5, .int z255, .int x12, .long z256, .long z257, .int z258])), (h3, .inl (gJ g, 48, .inr (.inl fm0))), (h4, .inl (gB g, 400, .inl f259)), (h5, .inl (gJ g, 2400, .inr (.inl f260)))] rfl ?_
                                have gz256 := fb_rngL z256
                                have gz257 := fb_rngL z257
                                have p264 : 0 ≤ (Int32.toInt r261) := w262.1
                                have p265 : (Int32.toInt r261) ≤ 6 := w262.2.1
                                have p266 : 0 ≤ (Int32.toInt z255) := w262.2.2.1
                                have p267 : (Int32.toInt z255) ≤ 400 := w262.2.2.2.1
                                have p268 : 0 ≤ (Int32.toInt z258) := w262.2.2.2.2.1
                                have p269 : (Int32.toInt z258) ≤ 1 := w262.2.2.2.2.2
                                refine r_goto 267 271 C dX0_linesAndCurves_267 (by decide) ?_
                                exact r_iret 271 Rt dX0_linesAndCurves_271 (z255, z256, z257, z258, f259, f260) (show 0 ≤ (Int32.toInt r261) ∧ (Int32.toInt r261) ≤ 6 ∧ 0 ≤ (Int32.toInt z255) ∧ (Int32.toInt z255) ≤ 400 ∧ 0 ≤ (Int32.toInt z258) ∧ (Int32.toInt z258) ≤ 1 from ⟨(show _ ∧ _ from ⟨p264, p265⟩).1, (show _ ∧ _ from ⟨p264, p265⟩).2, (show _ ∧ _ from ⟨p266, p267⟩).1, (show _ ∧ _ from ⟨p266, p267⟩).2, (show _ ∧ _ from ⟨p268, p269⟩).1, (show _ ∧ _ from ⟨p268, p269⟩).2⟩) [0, 1, 2, 3, 4, 5] (by decide) rfl (Nat.le_of_ble_eq_true rfl) (Nat.le_of_ble_eq_true rfl)
                            · skip
                              have k270 : ¬ ((Int32.toInt x0) = 293) := fun h_9 => c247 ((fa_eq x0 293).mpr h_9)
                              refine r_lookup 1 272 (off := 271) C dX0_linesAndCurves_1 (by decide) ((lv_osw c1 rfl).trans ((lv_osw c19 rfl).trans ((lv_osw c37 rfl).trans ((lv_osw c55 rfl).trans ((lv_osw c73 rfl).trans ((lv_osw c91 rfl).trans ((lv_osw c109 rfl).trans ((lv_osw c127 rfl).trans ((lv_osw c145 rfl).trans ((lv_osw c163 rfl).trans ((lv_osw c181 rfl).trans ((lv_osw c202 rfl).trans ((lv_osw c226 rfl).trans ((lv_osw c247 rfl).trans rfl)))))))))))))) (by decide) ?_
                              refine r_iconst 272 1 C dX0_linesAndCurves_272 (by decide) ?_
                              exact r_iret 273 Rt dX0_linesAndCurves_273 (x11, y1, y2, x13, fn0, fm1) (show 0 ≤ (Int32.toInt 1) ∧ (Int32.toInt 1) ≤ 6 ∧ 0 ≤ (Int32.toInt x11) ∧ (Int32.toInt x11) ≤ 400 ∧ 0 ≤ (Int32.toInt x13) ∧ (Int32.toInt x13) ≤ 1 from ⟨(by ((repeat' apply And.intro) <;> first | trivial | rfl | assumption | omega | decide | exact Or.inl rfl | exact Or.inr (Or.inl rfl) | exact Or.inr (Or.inr rfl))), (by ((repeat' apply And.intro) <;> first | trivial | rfl | assumption | omega | decide | exact Or.inl rfl | exact Or.inr (Or.inl rfl) | exact Or.inr (Or.inr rfl))), i_x11.1, i_x11.2, i_x13.1, i_x13.2⟩) [0, 1, 2, 3, 4, 5] (by decide) rfl (Nat.le_of_ble_eq_true rfl) (Nat.le_of_ble_eq_true rfl)
set_option maxHeartbeats 4000000 in
set_option maxRecDepth 100000 in
theorem c288_X0_widthsShare (l : Launch) (g : GD) (h0 : Nat) (x0 : Int32) (h1 : Nat) (h2 : Nat) (h3 : Nat) (x1 : Int32) (x2 : Int32) (y0 : Int64) (x3 : Int32) (x4 : Int32) (x5 : Int32) (x6 : Int32) (h4 : Nat) (h5 : Nat) (h6 : Nat) (x7 : Int32) (x8 : Int32) (i_x0 : (0 ≤ (Int32.toInt x0) ∧ (Int32.toInt x0) ≤ 1)) (i_x6 : (0 ≤ (Int32.toInt x6) ∧ (Int32.toInt x6) ≤ 1)) (i_x7 : (0 ≤ (Int32.toInt x7) ∧ (Int32.toInt x7) ≤ 10)) (i_x8 : (0 ≤ (Int32.toInt x8) ∧ (Int32.toInt x8) ≤ 1)) (sz : Nat) : Met l yX0_widthsShare wsX0_widthsShare ({ frames := 0, cells := 0, slots := 0, locals := 0 }) (va_Pc [.ref h0, .int x0] (PW g [(h0, .inr (0, [.ref h1, .ref h2, .ref h3, .int x1, .int x2, .long y0, .int x3, .int x4, .int x5, .int x6, .ref h4, .ref h5, .ref h6, .int x7, .int x8]))] sz)) (va_Qi (fun (r : Int32) (_ : Unit) => 0 ≤ (Int32.toInt r) ∧ (Int32.toInt r) ≤ 1) (BW g (va_A [(h0, .inr (0, [.ref h1, .ref h2, .ref h3, .int x1, .int x2, .long y0, .int x3, .int x4, .int x5, .int x6, .ref h4, .ref h5, .ref h6, .int x7, .int x8]))] sz) (fun _ : Unit => [(h0, .inr (0, [.ref h1, .ref h2, .ref h3, .int x1, .int x2, .long y0, .int x3, .int x4, .int x5, .int x6, .ref h4, .ref h5, .ref h6, .int x7, .int x8]))])) (va_A [(h0, .inr (0, [.ref h1, .ref h2, .ref h3, .int x1, .int x2, .long y0, .int x3, .int x4, .int x5, .int x6, .ref h4, .ref h5, .ref h6, .int x7, .int x8]))] sz)) 0 0 (va_A [(h0, .inr (0, [.ref h1, .ref h2, .ref h3, .int x1, .int x2, .long y0, .int x3, .int x4, .int x5, .int x6, .ref h4, .ref h5, .ref h6, .int x7, .int x8]))] sz) := by
  refine met_i RX0 (by decide) rfl rfl (Nat.le_of_ble_eq_true rfl) [(0, .ref h0), (1, .int x0)] rfl ?_
  intro p e s m args below meth c A Q C hnm Rt
  have hiX0 : ∀ w ∈ wsX00, w ∈ wsX0_widthsShare := fun w h => List.mem_cons_of_mem _ (List.mem_append_right _ (h))
  refine r_iload_n 0 1 C dX0_widthsShare_0 rfl ?_
  refine r_if_eq 1 15 C dX0_widthsShare_1 (by decide) (fun c1 => ?_) (fun c1 => ?_)
  · skip
    have k2 : (Int32.toInt x0) = 0 := (fa_eq x0 0).mp c1
    refine r_iconst 15 0 C dX0_widthsShare_15 (by decide) ?_
    exact r_iret 16 Rt dX0_widthsShare_16 () (show 0 ≤ (Int32.toInt 0) ∧ (Int32.toInt 0) ≤ 1 from ⟨(by ((repeat' apply And.intro) <;> first | trivial | rfl | assumption | omega | decide | exact Or.inl rfl | exact Or.inr (Or.inl rfl) | exact Or.inr (Or.inr rfl))), (by ((repeat' apply And.intro) <;> first | trivial | rfl | assumption | omega | decide | exact Or.inl rfl | exact Or.inr (Or.inl rfl) | exact Or.inr (Or.inr rfl)))⟩) [0] (by decide) rfl (Nat.le_of_ble_eq_true rfl) (Nat.le_of_ble_eq_true rfl)
  · skip
    have k3 : ¬ ((Int32.toInt x0) = 0) := fun h_9 => c1 ((fa_eq x0 0).mpr h_9)
    refine r_aload_n 4 0 C dX0_widthsShare_4 rfl ?_
    refine r_get 5 C dX0_widthsShare_5 (k := 14) 0 rfl rfl hiX0 (by decide) rfl (mg 1 rfl) (Or.inl rfl) rfl ?_
    refine r_if_ne 8 15 C dX0_widthsShare_8 (by decide) (fun c4 => ?_) (fun c4 => ?_)
    · skip
      have k5 : ¬ ((Int32.toInt x8) = 0) := fun h_9 => c4 ((fa_eq x8 0).mpr h_9)
      refine r_iconst 15 0 C dX0_widthsShare_15 (by decide) ?_
      exact r_iret 16 Rt dX0_widthsShare_16 () (show 0 ≤ (Int32.toInt 0) ∧ (Int32.toInt 0) ≤ 1 from ⟨(by ((repeat' apply And.intro) <;> first | trivial | rfl | assumption | omega | decide | exact Or.inl rfl | exact Or.inr (Or.inl rfl) | exact Or.inr (Or.inr rfl))), (by ((repeat' apply And.intro) <;> first | trivial | rfl | assumption | omega | decide | exact Or.inl rfl | exact Or.inr (Or.inl rfl) | exact Or.inr (Or.inr rfl)))⟩) [0] (by decide) rfl (Nat.le_of_ble_eq_true rfl) (Nat.le_of_ble_eq_true rfl)
    · skip
      have k6 : (Int32.toInt x8) = 0 := (fa_eq x8 0).mp c4
      refine r_iconst 11 1 C dX0_widthsShare_11 (by decide) ?_
      refine r_goto 12 16 C dX0_widthsShare_12 (by decide) ?_
      exact r_iret 16 Rt dX0_widthsShare_16 () (show 0 ≤ (Int32.toInt 1) ∧ (Int32.toInt 1) ≤ 1 from ⟨(by ((repeat' apply And.intro) <;> first | trivial | rfl | assumption | omega | decide | exact Or.inl rfl | exact Or.inr (Or.inl rfl) | exact Or.inr (Or.inr rfl))), (by ((repeat' apply And.intro) <;> first | trivial | rfl | assumption | omega | decide | exact Or.inl rfl | exact Or.inr (Or.inl rfl) | exact Or.inr (Or.inr rfl)))⟩) [0] (by decide) rfl (Nat.le_of_ble_eq_true rfl) (Nat.le_of_ble_eq_true rfl)
set_option maxHeartbeats 4000000 in
set_option maxRecDepth 100000 in
theorem c289_X0_tellWidth (l : Launch) (g : GD) (h0 : Nat) (h1 : Nat) (h2 : Nat) (h3 : Nat) (x0 : Int32) (h4 : Nat) (x1 : Int32) (x2 : Int32) (y0 : Int64) (x3 : Int32) (x4 : Int32) (x5 : Int32) (x6 : Int32) (h5 : Nat) (h6 : Nat) (h7 : Nat) (x7 : Int32) (x8 : Int32) (h8 : Nat) (x9 : Int32) (x10 : Int32) (h9 : Nat) (h10 : Nat) (h11 : Nat) (h12 : Nat) (x11 : Int32) (x12 : Int32) (x13 : Int32) (fm0 : Nat → Int64) (i_x6 : (0 ≤ (Int32.toInt x6) ∧ (Int32.toInt x6) ≤ 1)) (i_x7 : (0 ≤ (Int32.toInt x7) ∧ (Int32.toInt x7) ≤ 10)) (i_x8 : (0 ≤ (Int32.toInt x8) ∧ (Int32.toInt x8) ≤ 1)) (i_x9 : (0 ≤ (Int32.toInt x9) ∧ (Int32.toInt x9) ≤ 48)) (i_x10 : (0 ≤ (Int32.toInt x10) ∧ (Int32.toInt x10) ≤ 48)) (sz : Nat) : Met l yX0_tellWidth wsX0_tellWidth ({ frames := 1, cells := 0, slots := 0, locals := 21 }) (va_Pc [.ref h0, .int x0] (PW g [(h0, .inr (0, [.ref h1, .ref h4, .ref h2, .int x1, .int x2, .long y0, .int x3, .int x4, .int x5, .int x6, .ref h5, .ref h6, .ref h7, .int x7, .int x8])), (h1, .inr (6, [.ref h3, .ref h8, .int x9, .int x10])), (h2, .inr (3, [.ref h9, .ref h10, .ref h11, .ref h12, .int x11, .int x12, .int x13])), (h3, .inl (gJ g, 48, .inr (.inl fm0)))] sz)) (va_Qv (fun (u : (Int64) × (Int32)) => 0 ≤ (Int32.toInt (u.2)) ∧ (Int32.toInt (u.2)) ≤ 1) (BW g (va_A [(h0, .inr (0, [.ref h1, .ref h4, .ref h2, .int x1, .int x2, .long y0, .int x3, .int x4, .int x5, .int x6, .ref h5, .ref h6, .ref h7, .int x7, .int x8])), (h1, .inr (6, [.ref h3, .ref h8, .int x9, .int x10])), (h2, .inr (3, [.ref h9, .ref h10, .ref h11, .ref h12, .int x11, .int x12, .int x13])), (h3, .inl (gJ g, 48, .inr (.inl fm0)))] sz) (fun u : (Int64) × (Int32) => [(h0, .inr (0, [.ref h1, .ref h4, .ref h2, .int x1, .int x2, .long u.1, .int x3, .int x4, .int x5, .int x6, .ref h5, .ref h6, .ref h7, .int x7, .int u.2])), (h1, .inr (6, [.ref h3, .ref h8, .int x9, .int x10])), (h2, .inr (3, [.ref h9, .ref h10, .ref h11, .ref h12, .int x11, .int x12, .int x13])), (h3, .inl (gJ g, 48, .inr (.inl fm0)))])) (va_A [(h0, .inr (0, [.ref h1, .ref h4, .ref h2, .int x1, .int x2, .long y0, .int x3, .int x4, .int x5, .int x6, .ref h5, .ref h6, .ref h7, .int x7, .int x8])), (h1, .inr (6, [.ref h3, .ref h8, .int x9, .int x10])), (h2, .inr (3, [.ref h9, .ref h10, .ref h11, .ref h12, .int x11, .int x12, .int x13])), (h3, .inl (gJ g, 48, .inr (.inl fm0)))] sz)) 0 0 (va_A [(h0, .inr (0, [.ref h1, .ref h4, .ref h2, .int x1, .int x2, .long y0, .int x3, .int x4, .int x5, .int x6, .ref h5, .ref h6, .ref h7, .int x7, .int x8])), (h1, .inr (6, [.ref h3, .ref h8, .int x9, .int x10])), (h2, .inr (3, [.ref h9, .ref h10, .ref h11, .ref h12, .int x11, .int x12, .int x13])), (h3, .inl (gJ g, 48, .inr (.inl fm0)))] sz) := by
  refine met_v RX0 (by decide) rfl rfl (Nat.le_of_ble_eq_true rfl) [(0, .ref h0), (1, .int x0)] rfl ?_
  intro p e s m args below meth c A Q C hnm Rt
  have gx0 := fb_rng x0
  have gx12 := fb_rng x12
  have gx13 := fb_rng x13
  have hiX0 : ∀ w ∈ wsX00, w ∈ wsX0_tellWidth := fun w h => List.mem_cons_of_mem _ (List.mem_append_left _ (List.mem_append_left _ (List.mem_append_left _ (List.mem_append_right _ (h)))))
  have hiX3 : ∀ w ∈ wsX30, w ∈ wsX0_tellWidth := fun w h => List.mem_cons_of_mem _ (List.mem_append_left _ (List.mem_append_right _ (h)))
  refine r_aload_n 0 0 C dX0_tellWidth_0 rfl ?_
  refine r_get 1 C dX0_tellWidth_1 (k := 14) 0 rfl rfl hiX0 (by decide) rfl (mg 1 rfl) (Or.inl rfl) rfl ?_
  refine r_if_eq 4 8 C dX0_tellWidth_4 (by decide) (fun c1 => ?_) (fun c1 => ?_)
  · skip
    have k2 : (Int32.toInt x8) = 0 := (fa_eq x8 0).mp c1
    refine r_aload_n 8 0 C dX0_tellWidth_8 rfl ?_
    refine r_iconst 9 1 C dX0_tellWidth_9 (by decide) ?_
    refine r_put 10 C dX0_tellWidth_10 (k := 14) 0 rfl rfl hiX0 tyX0 tyX0_ok nmX0 (by decide) rfl (mg 1 rfl) (Or.inl rfl) rfl rfl rfl rfl (Nat.le_of_ble_eq_true rfl) [(h0, .inr (0, [.ref h1, .ref h4, .ref h2, .int x1, .int x2, .long y0, .int x3, .int x4, .int x5, .int x6, .ref h5, .ref h6, .ref h7, .int x7, .int 1])), (h1, .inr (6, [.ref h3, .ref h8, .int x9, .int x10])), (h2, .inr (3, [.ref h9, .ref h10, .ref h11, .ref h12, .int x11, .int x12, .int x13])), (h3, .inl (gJ g, 48, .inr (.inl fm0)))] rfl ?_
    refine r_aload_n 13 0 C dX0_tellWidth_13 rfl ?_
    refine r_iload_n 14 1 C dX0_tellWidth_14 rfl ?_
    refine r_iconst 15 1 C dX0_tellWidth_15 (by decide) ?_
    refine r_icmp_ne 16 43 C dX0_tellWidth_16 (by decide) (fun c3 => ?_) (fun c3 => ?_)
    · skip
      have k4 : ¬ ((Int32.toInt x0) = 1) := fun h_9 => c3 ((fa_eq x0 1).mpr h_9)
      refine r_aload_n 43 0 C dX0_tellWidth_43 rfl ?_
      refine r_get 44 C dX0_tellWidth_44 (k := 2) 0 rfl rfl hiX0 (by decide) rfl (mg 2 rfl) (Or.inr (mg 3 rfl)) rfl ?_
      refine r_getN 47 C dX0_tellWidth_47 (k := 5) 2 rfl rfl hiX3 (by decide) rfl (mg 8 rfl) rfl rfl ?_
      obtain ⟨z5, ez5⟩ : ∃ z_9, Int32.toInt64 x12 = z_9 := ⟨_, rfl⟩
      have tz5 : (Int64.toInt z5) = (Int32.toInt x12) := by rw [← ez5]; exact Int32.toInt_toInt64 _
      refine r_i2l 50 z5 C dX0_tellWidth_50 ez5 ?_
      refine r_ldc2 51 65536 C dX0_tellWidth_51 (mg 4 rfl) ?_
      obtain ⟨z6, ez6⟩ : ∃ z_9, z5 * 65536 = z_9 := ⟨_, rfl⟩
      have tz6 : (Int64.toInt z6) = (Int64.toInt z5) * 65536 := by rw [← ez6]; exact fb_mulL (by show -9223372036854775808 ≤ (Int64.toInt z5) * 65536; omega) (by show (Int64.toInt z5) * 65536 < 9223372036854775808; omega)
      refine r_lmul 54 z6 C dX0_tellWidth_54 ez6 ?_
      refine r_put 55 C dX0_tellWidth_55 (k := 5) 0 rfl rfl hiX0 tyX0 tyX0_ok nmX0 (by decide) rfl (mg 7 rfl) (Or.inr (mg 8 rfl)) rfl rfl rfl rfl (Nat.le_of_ble_eq_true rfl) [(h0, .inr (0, [.ref h1, .ref h4, .ref h2, .int x1, .int x2, .long z6, .int x3, .int x4, .int x5, .int x6, .ref h5, .ref h6, .ref h7, .int x7, .int 1])), (h1, .inr (6, [.ref h3, .ref h8, .int x9, .int x10])), (h2, .inr (3, [.ref h9, .ref h10, .ref h11, .ref h12, .int x11, .int x12, .int x13])), (h3, .inl (gJ g, 48, .inr (.inl fm0)))] rfl ?_
      exact r_vret 58 Rt dX0_tellWidth_58 (z6, 1) (show 0 ≤ (Int32.toInt 1) ∧ (Int32.toInt 1) ≤ 1 from ⟨(by ((repeat' apply And.intro) <;> first | trivial | rfl | assumption | omega | decide | exact Or.inl rfl | exact Or.inr (Or.inl rfl) | exact Or.inr (Or.inr rfl))), (by ((repeat' apply And.intro) <;> first | trivial | rfl | assumption | omega | decide | exact Or.inl rfl | exact Or.inr (Or.inl rfl) | exact Or.inr (Or.inr rfl)))⟩) [0, 1, 2, 3] (by decide) rfl (Nat.le_of_ble_eq_true rfl) (Nat.le_of_ble_eq_true rfl)
    · skip
      have k7 : (Int32.toInt x0) = 1 := (fa_eq x0 1).mp c3
      refine r_aload_n 19 0 C dX0_tellWidth_19 rfl ?_
      refine r_get 20 C dX0_tellWidth_20 (k := 2) 0 rfl rfl hiX0 (by decide) rfl (mg 2 rfl) (Or.inr (mg 3 rfl)) rfl ?_
      refine r_getN 23 C dX0_tellWidth_23 (k := 6) 2 rfl rfl hiX3 (by decide) rfl (mg 7 rfl) rfl rfl ?_
      obtain ⟨z8, ez8⟩ : ∃ z_9, Int32.toInt64 x13 = z_9 := ⟨_, rfl⟩
      have tz8 : (Int64.toInt z8) = (Int32.toInt x13) := by rw [← ez8]; exact Int32.toInt_toInt64 _
      refine r_i2l 26 z8 C dX0_tellWidth_26 ez8 ?_
      refine r_ldc2 27 65536 C dX0_tellWidth_27 (mg 4 rfl) ?_
      obtain ⟨z9, ez9⟩ : ∃ z_9, z8 * 65536 = z_9 := ⟨_, rfl⟩
      have tz9 : (Int64.toInt z9) = (Int64.toInt z8) * 65536 := by rw [← ez9]; exact fb_mulL (by show -9223372036854775808 ≤ (Int64.toInt z8) * 65536; omega) (by show (Int64.toInt z8) * 65536 < 9223372036854775808; omega)
      refine r_lmul 30 z9 C dX0_tellWidth_30 ez9 ?_
      refine r_aload_n 31 0 C dX0_tellWidth_31 rfl ?_
      refine r_get 32 C dX0_tellWidth_32 (k := 0) 0 rfl rfl hiX0 (by decide) rfl (mg 5 rfl) (Or.inr (mg 6 rfl)) rfl ?_
      refine r_iconst 35 0 C dX0_tellWidth_35 (by decide) ?_
      refine r_callVl 36 C dX0_tellWidth_36 [.long z9, .ref h0] [(h1, .inr (6, [.ref h3, .ref h8, .int x9, .int x10])), (h3, .inl (gJ g, 48, .inr (.inl fm0)))] [(h0, .inr (0, [.ref h1, .ref h4, .ref h2, .int x1, .int x2, .long y0, .int x3, .int x4, .int x5, .int x6, .ref h5, .ref h6, .ref h7, .int x7, .int 1])), (h2, .inr (3, [.ref h9, .ref h10, .ref h11, .ref h12, .int x11, .int x12, .int x13]))] (fun sz => c232_X7_get l g h1 h3 0 h8 x9 x10 fm0 i_x9 i_x10 sz) gX0_tellWidth_X7_get rfl ⟨rfl, rfl⟩ 1 (by decide) ⟨Nat.le_of_ble_eq_true rfl, Nat.le_of_ble_eq_true rfl⟩ 1 rfl rfl [1, 3] [0, 2] rfl rfl (by decide) (by decide) (by decide) rfl rfl (Nat.le_of_ble_eq_true rfl) ⟨Nat.le_of_ble_eq_true rfl, Nat.le_of_ble_eq_true rfl⟩ (fun r10 _ w11 => ?_)
      refine r_ws [(h0, .inr (0, [.ref h1, .ref h4, .ref h2, .int x1, .int x2, .long y0, .int x3, .int x4, .int x5, .int x6, .ref h5, .ref h6, .ref h7, .int x7, .int 1])), (h2, .inr (3, [.ref h9, .ref h10, .ref h11, .ref h12, .int x11, .int x12, .int x13])), (h1, .inr (6, [.ref h3, .ref h8, .int x9, .int x10])), (h3, .inl (gJ g, 48, .inr (.inl fm0)))] rfl ?_
      have gr10 := fb_rngL r10
      obtain ⟨z12, ez12⟩ : ∃ z_9, z9 + r10 = z_9 := ⟨_, rfl⟩
      have gz12 := fb_rngL z12
      refine r_ladd 39 z12 C dX0_tellWidth_39 ez12 ?_
      refine r_goto 40 55 C dX0_tellWidth_40 (by decide) ?_
      refine r_put 55 C dX0_tellWidth_55 (k := 5) 0 rfl rfl hiX0 tyX0 tyX0_ok nmX0 (by decide) rfl (mg 7 rfl) (Or.inr (mg 8 rfl)) rfl rfl rfl rfl (Nat.le_of_ble_eq_true rfl) [(h0, .inr (0, [.ref h1, .ref h4, .ref h2, .int x1, .int x2, .long z12, .int x3, .int x4, .int x5, .int x6, .ref h5, .ref h6, .ref h7, .int x7, .int 1])), (h2, .inr (3, [.ref h9, .ref h10, .ref h11, .ref h12, .int x11, .int x12, .int x13])), (h1, .inr (6, [.ref h3, .ref h8, .int x9, .int x10])), (h3, .inl (gJ g, 48, .inr (.inl fm0)))] rfl ?_
      exact r_vret 58 Rt dX0_tellWidth_58 (z12, 1) (show 0 ≤ (Int32.toInt 1) ∧ (Int32.toInt 1) ≤ 1 from ⟨(by ((repeat' apply And.intro) <;> first | trivial | rfl | assumption | omega | decide | exact Or.inl rfl | exact Or.inr (Or.inl rfl) | exact Or.inr (Or.inr rfl))), (by ((repeat' apply And.intro) <;> first | trivial | rfl | assumption | omega | decide | exact Or.inl rfl | exact Or.inr (Or.inl rfl) | exact Or.inr (Or.inr rfl)))⟩) [0, 2, 1, 3] (by decide) rfl (Nat.le_of_ble_eq_true rfl) (Nat.le_of_ble_eq_true rfl)
  · skip
    have k13 : ¬ ((Int32.toInt x8) = 0) := fun h_9 => c1 ((fa_eq x8 0).mpr h_9)
    exact r_vret 7 Rt dX0_tellWidth_7 (y0, x8) (show 0 ≤ (Int32.toInt x8) ∧ (Int32.toInt x8) ≤ 1 from ⟨i_x8.1, i_x8.2⟩) [0, 1, 2, 3] (by decide) rfl (Nat.le_of_ble_eq_true rfl) (Nat.le_of_ble_eq_true rfl)
set_option maxHeartbeats 4000000 in
set_option maxRecDepth 100000 in
theorem c290_X6_closeIfOpen (l : Launch) (g : GD) (h0 : Nat) (h1 : Nat) (h2 : Nat) (x0 : Int32) (x1 : Int32) (y0 : Int64) (y1 : Int64) (x2 : Int32) (fn0 : Nat → Int32) (fm0 : Nat → Int64) (i_x0 : (0 ≤ (Int32.toInt x0) ∧ (Int32.toInt x0) ≤ 400)) (i_x1 : (0 ≤ (Int32.toInt x1) ∧ (Int32.toInt x1) ≤ 400)) (i_x2 : (0 ≤ (Int32.toInt x2) ∧ (Int32.toInt x2) ≤ 1)) (sz : Nat) : Met l yX6_closeIfOpen wsX6_closeIfOpen ({ frames := 2, cells := 0, slots := 0, locals := 41 }) (va_Pc [.ref h0] (PW g [(h0, .inr (5, [.ref h1, .ref h2, .int x0, .int x1, .long y0, .long y1, .int x2])), (h1, .inl (gB g, 400, .inl fn0)), (h2, .inl (gJ g, 2400, .inr (.inl fm0)))] sz)) (va_Qi (fun (r : Int32) (u : (Int32) × (Nat → Int32) × (Nat → Int64)) => 0 ≤ (Int32.toInt r) ∧ (Int32.toInt r) ≤ 6 ∧ 0 ≤ (Int32.toInt (u.1)) ∧ (Int32.toInt (u.1)) ≤ 400) (BW g (va_A [(h0, .inr (5, [.ref h1, .ref h2, .int x0, .int x1, .long y0, .long y1, .int x2])), (h1, .inl (gB g, 400, .inl fn0)), (h2, .inl (gJ g, 2400, .inr (.inl fm0)))] sz) (fun u : (Int32) × (Nat → Int32) × (Nat → Int64) => [(h0, .inr (5, [.ref h1, .ref h2, .int u.1, .int x1, .long y0, .long y1, .int x2])), (h1, .inl (gB g, 400, .inl u.2.1)), (h2, .inl (gJ g, 2400, .inr (.inl u.2.2)))])) (va_A [(h0, .inr (5, [.ref h1, .ref h2, .int x0, .int x1, .long y0, .long y1, .int x2])), (h1, .inl (gB g, 400, .inl fn0)), (h2, .inl (gJ g, 2400, .inr (.inl fm0)))] sz)) 0 0 (va_A [(h0, .inr (5, [.ref h1, .ref h2, .int x0, .int x1, .long y0, .long y1, .int x2])), (h1, .inl (gB g, 400, .inl fn0)), (h2, .inl (gJ g, 2400, .inr (.inl fm0)))] sz) := by
  refine met_i RX6 (by decide) rfl rfl (Nat.le_of_ble_eq_true rfl) [(0, .ref h0)] rfl ?_
  intro p e s m args below meth c A Q C hnm Rt
  have hiX6 : ∀ w ∈ wsX60, w ∈ wsX6_closeIfOpen := fun w h => List.mem_cons_of_mem _ (List.mem_append_right _ (h))
  refine r_aload_n 0 0 C dX6_closeIfOpen_0 rfl ?_
  refine r_get 1 C dX6_closeIfOpen_1 (k := 6) 0 rfl rfl hiX6 (by decide) rfl (mg 1 rfl) (Or.inl rfl) rfl ?_
  refine r_if_eq 4 14 C dX6_closeIfOpen_4 (by decide) (fun c1 => ?_) (fun c1 => ?_)
  · skip
    have k2 : (Int32.toInt x2) = 0 := (fa_eq x2 0).mp c1
    refine r_iconst 14 0 C dX6_closeIfOpen_14 (by decide) ?_
    exact r_iret 15 Rt dX6_closeIfOpen_15 (x0, fn0, fm0) (show 0 ≤ (Int32.toInt 0) ∧ (Int32.toInt 0) ≤ 6 ∧ 0 ≤ (Int32.toInt x0) ∧ (Int32.toInt x0) ≤ 400 from ⟨(by ((repeat' apply And.intro) <;> first | trivial | rfl | assumption | omega | decide | exact Or.inl rfl | exact Or.inr (Or.inl rfl) | exact Or.inr (Or.inr rfl))), (by ((repeat' apply And.intro) <;> first | trivial | rfl | assumption | omega | decide | exact Or.inl rfl | exact Or.inr (Or.inl rfl) | exact Or.inr (Or.inr rfl))), i_x0.1, i_x0.2⟩) [0, 1, 2] (by decide) rfl (Nat.le_of_ble_eq_true rfl) (Nat.le_of_ble_eq_true rfl)
  · skip
    have k3 : ¬ ((Int32.toInt x2) = 0) := fun h_9 => c1 ((fa_eq x2 0).mpr h_9)
    refine r_aload_n 7 0 C dX6_closeIfOpen_7 rfl ?_
    refine r_callVi 8 C dX6_closeIfOpen_8 [] [(h0, .inr (5, [.ref h1, .ref h2, .int x0, .int x1, .long y0, .long y1, .int x2])), (h1, .inl (gB g, 400, .inl fn0)), (h2, .inl (gJ g, 2400, .inr (.inl fm0)))] [] (fun sz => c256_X6_close l g h0 h1 h2 x0 x1 y0 y1 x2 fn0 fm0 i_x0 i_x1 i_x2 sz) gX6_closeIfOpen_X6_close rfl ⟨rfl, rfl⟩ 0 (by decide) ⟨Nat.le_of_ble_eq_true rfl, Nat.le_of_ble_eq_true rfl⟩ 0 rfl rfl [0, 1, 2] [] rfl rfl (by decide) (by decide) (by decide) rfl rfl (Nat.le_of_ble_eq_true rfl) ⟨Nat.le_of_ble_eq_true rfl, Nat.le_of_ble_eq_true rfl⟩ (fun r7 u9 w8 => ?_)
    obtain ⟨z4, f5, f6⟩ := u9
    refine r_ws [(h0, .inr (5, [.ref h1, .ref h2, .int z4, .int x1, .long y0, .long y1, .int x2])), (h1, .inl (gB g, 400, .inl f5)), (h2, .inl (gJ g, 2400, .inr (.inl f6)))] rfl ?_
    have p10 : 0 ≤ (Int32.toInt r7) := w8.1
    have p11 : (Int32.toInt r7) ≤ 6 := w8.2.1
    have p12 : 0 ≤ (Int32.toInt z4) := w8.2.2.1
    have p13 : (Int32.toInt z4) ≤ 400 := w8.2.2.2
    refine r_goto 11 15 C dX6_closeIfOpen_11 (by decide) ?_
    exact r_iret 15 Rt dX6_closeIfOpen_15 (z4, f5, f6) (show 0 ≤ (Int32.toInt r7) ∧ (Int32.toInt r7) ≤ 6 ∧ 0 ≤ (Int32.toInt z4) ∧ (Int32.toInt z4) ≤ 400 from ⟨(show _ ∧ _ from ⟨p10, p11⟩).1, (show _ ∧ _ from ⟨p10, p11⟩).2, (show _ ∧ _ from ⟨p12, p13⟩).1, (show _ ∧ _ from ⟨p12, p13⟩).2⟩) [0, 1, 2] (by decide) rfl (Nat.le_of_ble_eq_true rfl) (Nat.le_of_ble_eq_true rfl)
set_option maxHeartbeats 4000000 in
set_option maxRecDepth 100000 in
theorem c291_X0_move (l : Launch) (g : GD) (h0 : Nat) (h1 : Nat) (h2 : Nat) (h3 : Nat) (h4 : Nat) (h5 : Nat) (h6 : Nat) (x0 : Int32) (x1 : Int32) (x2 : Int32) (y0 : Int64) (x3 : Int32) (x4 : Int32) (x5 : Int32) (x6 : Int32) (h7 : Nat) (h8 : Nat) (h9 : Nat) (x7 : Int32) (x8 : Int32) (h10 : Nat) (x9 : Int32) (x10 : Int32) (x11 : Int32) (x12 : Int32) (y1 : Int64) (y2 : Int64) (x13 : Int32) (h11 : Nat) (h12 : Nat) (h13 : Nat) (h14 : Nat) (x14 : Int32) (x15 : Int32) (x16 : Int32) (fm0 : Nat → Int64) (fn0 : Nat → Int32) (fm1 : Nat → Int64) (i_x6 : (0 ≤ (Int32.toInt x6) ∧ (Int32.toInt x6) ≤ 1)) (i_x7 : (0 ≤ (Int32.toInt x7) ∧ (Int32.toInt x7) ≤ 10)) (i_x8 : (0 ≤ (Int32.toInt x8) ∧ (Int32.toInt x8) ≤ 1)) (i_x9 : (0 ≤ (Int32.toInt x9) ∧ (Int32.toInt x9) ≤ 48)) (i_x10 : (0 ≤ (Int32.toInt x10) ∧ (Int32.toInt x10) ≤ 48)) (i_x11 : (0 ≤ (Int32.toInt x11) ∧ (Int32.toInt x11) ≤ 400)) (i_x12 : (0 ≤ (Int32.toInt x12) ∧ (Int32.toInt x12) ≤ 400)) (i_x13 : (0 ≤ (Int32.toInt x13) ∧ (Int32.toInt x13) ≤ 1)) (sz : Nat) : Met l yX0_move wsX0_move ({ frames := 3, cells := 0, slots := 0, locals := 61 }) (va_Pc [.ref h0, .int x0] (PW g [(h0, .inr (0, [.ref h1, .ref h2, .ref h3, .int x1, .int x2, .long y0, .int x3, .int x4, .int x5, .int x6, .ref h7, .ref h8, .ref h9, .int x7, .int x8])), (h1, .inr (6, [.ref h4, .ref h10, .int x9, .int x10])), (h2, .inr (5, [.ref h5, .ref h6, .int x11, .int x12, .long y1, .long y2, .int x13])), (h3, .inr (3, [.ref h11, .ref h12, .ref h13, .ref h14, .int x14, .int x15, .int x16])), (h4, .inl (gJ g, 48, .inr (.inl fm0))), (h5, .inl (gB g, 400, .inl fn0)), (h6, .inl (gJ g, 2400, .inr (.inl fm1)))] sz)) (va_Qi (fun (r : Int32) (u : (Int64) × (Int32) × (Int32) × (Int64) × (Int64) × (Int32) × (Nat → Int32) × (Nat → Int64)) => 0 ≤ (Int32.toInt r) ∧ (Int32.toInt r) ≤ 6 ∧ 0 ≤ (Int32.toInt (u.2.1)) ∧ (Int32.toInt (u.2.1)) ≤ 1 ∧ 0 ≤ (Int32.toInt (u.2.2.1)) ∧ (Int32.toInt (u.2.2.1)) ≤ 400 ∧ 0 ≤ (Int32.toInt (u.2.2.2.2.2.1)) ∧ (Int32.toInt (u.2.2.2.2.2.1)) ≤ 1) (BW g (va_A [(h0, .inr (0, [.ref h1, .ref h2, .ref h3, .int x1, .int x2, .long y0, .int x3, .int x4, .int x5, .int x6, .ref h7, .ref h8, .ref h9, .int x7, .int x8])), (h1, .inr (6, [.ref h4, .ref h10, .int x9, .int x10])), (h2, .inr (5, [.ref h5, .ref h6, .int x11, .int x12, .long y1, .long y2, .int x13])), (h3, .inr (3, [.ref h11, .ref h12, .ref h13, .ref h14, .int x14, .int x15, .int x16])), (h4, .inl (gJ g, 48, .inr (.inl fm0))), (h5, .inl (gB g, 400, .inl fn0)), (h6, .inl (gJ g, 2400, .inr (.inl fm1)))] sz) (fun u : (Int64) × (Int32) × (Int32) × (Int64) × (Int64) × (Int32) × (Nat → Int32) × (Nat → Int64) => [(h0, .inr (0, [.ref h1, .ref h2, .ref h3, .int x1, .int x2, .long u.1, .int x3, .int x4, .int x5, .int x6, .ref h7, .ref h8, .ref h9, .int x7, .int u.2.1])), (h1, .inr (6, [.ref h4, .ref h10, .int x9, .int x10])), (h2, .inr (5, [.ref h5, .ref h6, .int u.2.2.1, .int x12, .long u.2.2.2.1, .long u.2.2.2.2.1, .int u.2.2.2.2.2.1])), (h3, .inr (3, [.ref h11, .ref h12, .ref h13, .ref h14, .int x14, .int x15, .int x16])), (h4, .inl (gJ g, 48, .inr (.inl fm0))), (h5, .inl (gB g, 400, .inl u.2.2.2.2.2.2.1)), (h6, .inl (gJ g, 2400, .inr (.inl u.2.2.2.2.2.2.2)))])) (va_A [(h0, .inr (0, [.ref h1, .ref h2, .ref h3, .int x1, .int x2, .long y0, .int x3, .int x4, .int x5, .int x6, .ref h7, .ref h8, .ref h9, .int x7, .int x8])), (h1, .inr (6, [.ref h4, .ref h10, .int x9, .int x10])), (h2, .inr (5, [.ref h5, .ref h6, .int x11, .int x12, .long y1, .long y2, .int x13])), (h3, .inr (3, [.ref h11, .ref h12, .ref h13, .ref h14, .int x14, .int x15, .int x16])), (h4, .inl (gJ g, 48, .inr (.inl fm0))), (h5, .inl (gB g, 400, .inl fn0)), (h6, .inl (gJ g, 2400, .inr (.inl fm1)))] sz)) 0 0 (va_A [(h0, .inr (0, [.ref h1, .ref h2, .ref h3, .int x1, .int x2, .long y0, .int x3, .int x4, .int x5, .int x6, .ref h7, .ref h8, .ref h9, .int x7, .int x8])), (h1, .inr (6, [.ref h4, .ref h10, .int x9, .int x10])), (h2, .inr (5, [.ref h5, .ref h6, .int x11, .int x12, .long y1, .long y2, .int x13])), (h3, .inr (3, [.ref h11, .ref h12, .ref h13, .ref h14, .int x14, .int x15, .int x16])), (h4, .inl (gJ g, 48, .inr (.inl fm0))), (h5, .inl (gB g, 400, .inl fn0)), (h6, .inl (gJ g, 2400, .inr (.inl fm1)))] sz) := by
  refine met_i RX0 (by decide) rfl rfl (Nat.le_of_ble_eq_true rfl) [(0, .ref h0), (1, .int x0)] rfl ?_
  intro p e s m args below meth c A Q C hnm Rt
  have gx0 := fb_rng x0
  have hiX0 : ∀ w ∈ wsX00, w ∈ wsX0_move := fun w h => List.mem_cons_of_mem _ (List.mem_append_left _ (List.mem_append_left _ (List.mem_append_left _ (List.mem_append_left _ (List.mem_append_right _ (h))))))
  refine r_iload_n 0 1 C dX0_move_0 rfl ?_
  refine r_bipush 1 21 C dX0_move_1 (by decide) ?_
  refine r_icmp_ne 3 10 C dX0_move_3 (by decide) (fun c1 => ?_) (fun c1 => ?_)
  · skip
    have k2 : ¬ ((Int32.toInt x0) = 21) := fun h_9 => c1 ((fa_eq x0 21).mpr h_9)
    refine r_iconst 10 1 C dX0_move_10 (by decide) ?_
    refine r_istore_n 11 C dX0_move_11 [(2, .int 1), (0, .ref h0), (1, .int x0)] (by decide) rfl ?_
    refine r_aload_n 12 1 C dX0_move_12 rfl ?_
    refine r_aload_n 13 1 C dX0_move_13 rfl ?_
    refine r_get 14 C dX0_move_14 (k := 0) 0 rfl rfl hiX0 (by decide) rfl (mg 1 rfl) (Or.inr (mg 2 rfl)) rfl ?_
    refine r_callVi 17 C dX0_move_17 [.ref h0] [(h1, .inr (6, [.ref h4, .ref h10, .int x9, .int x10]))] [(h0, .inr (0, [.ref h1, .ref h2, .ref h3, .int x1, .int x2, .long y0, .int x3, .int x4, .int x5, .int x6, .ref h7, .ref h8, .ref h9, .int x7, .int x8])), (h2, .inr (5, [.ref h5, .ref h6, .int x11, .int x12, .long y1, .long y2, .int x13])), (h3, .inr (3, [.ref h11, .ref h12, .ref h13, .ref h14, .int x14, .int x15, .int x16])), (h4, .inl (gJ g, 48, .inr (.inl fm0))), (h5, .inl (gB g, 400, .inl fn0)), (h6, .inl (gJ g, 2400, .inr (.inl fm1)))] (fun sz => c231_X7_size l g h1 h4 h10 x9 x10 i_x9 i_x10 sz) gX0_move_X7_size rfl ⟨rfl, rfl⟩ 0 (by decide) ⟨Nat.le_of_ble_eq_true rfl, Nat.le_of_ble_eq_true rfl⟩ 1 rfl rfl [1] [0, 2, 3, 4, 5, 6] rfl rfl (by decide) (by decide) (by decide) rfl rfl (Nat.le_of_ble_eq_true rfl) ⟨Nat.le_of_ble_eq_true rfl, Nat.le_of_ble_eq_true rfl⟩ (fun r3 _ w4 => ?_)
    refine r_ws [(h0, .inr (0, [.ref h1, .ref h2, .ref h3, .int x1, .int x2, .long y0, .int x3, .int x4, .int x5, .int x6, .ref h7, .ref h8, .ref h9, .int x7, .int x8])), (h2, .inr (5, [.ref h5, .ref h6, .int x11, .int x12, .long y1, .long y2, .int x13])), (h3, .inr (3, [.ref h11, .ref h12, .ref h13, .ref h14, .int x14, .int x15, .int x16])), (h4, .inl (gJ g, 48, .inr (.inl fm0))), (h5, .inl (gB g, 400, .inl fn0)), (h6, .inl (gJ g, 2400, .inr (.inl fm1))), (h1, .inr (6, [.ref h4, .ref h10, .int x9, .int x10]))] rfl ?_
    have p5 : x9 = r3 := (w4).symm
    subst p5
    refine r_iload_n 20 0 C dX0_move_20 rfl ?_
    refine r_iconst 21 1 C dX0_move_21 (by decide) ?_
    refine r_iadd 22 2 C dX0_move_22 (by decide) ?_
    refine r_icmp_ne 23 30 C dX0_move_23 (by decide) (fun c6 => ?_) (fun c6 => ?_)
    · skip
      have k7 : ¬ ((Int32.toInt x9) = 2) := fun h_9 => c6 ((fa_eq x9 2).mpr h_9)
      refine r_iconst 30 0 C dX0_move_30 (by decide) ?_
      refine r_callVi 31 C dX0_move_31 [] [(h0, .inr (0, [.ref h1, .ref h2, .ref h3, .int x1, .int x2, .long y0, .int x3, .int x4, .int x5, .int x6, .ref h7, .ref h8, .ref h9, .int x7, .int x8]))] [(h2, .inr (5, [.ref h5, .ref h6, .int x11, .int x12, .long y1, .long y2, .int x13])), (h3, .inr (3, [.ref h11, .ref h12, .ref h13, .ref h14, .int x14, .int x15, .int x16])), (h4, .inl (gJ g, 48, .inr (.inl fm0))), (h5, .inl (gB g, 400, .inl fn0)), (h6, .inl (gJ g, 2400, .inr (.inl fm1))), (h1, .inr (6, [.ref h4, .ref h10, .int x9, .int x10]))] (fun sz => c288_X0_widthsShare l g h0 0 h1 h2 h3 x1 x2 y0 x3 x4 x5 x6 h7 h8 h9 x7 x8 (by decide) i_x6 i_x7 i_x8 sz) gX0_move_X0_widthsShare rfl ⟨rfl, rfl⟩ 1 (by decide) ⟨Nat.le_of_ble_eq_true rfl, Nat.le_of_ble_eq_true rfl⟩ 0 rfl rfl [0] [1, 2, 3, 4, 5, 6] rfl rfl (by decide) (by decide) (by decide) rfl rfl (Nat.le_of_ble_eq_true rfl) ⟨Nat.le_of_ble_eq_true rfl, Nat.le_of_ble_eq_true rfl⟩ (fun r8 _ w9 => ?_)
      refine r_ws [(h2, .inr (5, [.ref h5, .ref h6, .int x11, .int x12, .long y1, .long y2, .int x13])), (h3, .inr (3, [.ref h11, .ref h12, .ref h13, .ref h14, .int x14, .int x15, .int x16])), (h4, .inl (gJ g, 48, .inr (.inl fm0))), (h5, .inl (gB g, 400, .inl fn0)), (h6, .inl (gJ g, 2400, .inr (.inl fm1))), (h1, .inr (6, [.ref h4, .ref h10, .int x9, .int x10])), (h0, .inr (0, [.ref h1, .ref h2, .ref h3, .int x1, .int x2, .long y0, .int x3, .int x4, .int x5, .int x6, .ref h7, .ref h8, .ref h9, .int x7, .int x8]))] rfl ?_
      have p10 : 0 ≤ (Int32.toInt r8) := w9.1
      have p11 : (Int32.toInt r8) ≤ 1 := w9.2
      refine r_istore_n 34 C dX0_move_34 [(3, .int r8), (2, .int 1), (0, .ref h0), (1, .int x0)] (by decide) rfl ?_
      refine r_aload_n 35 2 C dX0_move_35 rfl ?_
      refine r_get 36 C dX0_move_36 (k := 0) 6 rfl rfl hiX0 (by decide) rfl (mg 1 rfl) (Or.inr (mg 2 rfl)) rfl ?_
      refine r_callVi 39 C dX0_move_39 [] [(h1, .inr (6, [.ref h4, .ref h10, .int x9, .int x10]))] [(h2, .inr (5, [.ref h5, .ref h6, .int x11, .int x12, .long y1, .long y2, .int x13])), (h3, .inr (3, [.ref h11, .ref h12, .ref h13, .ref h14, .int x14, .int x15, .int x16])), (h4, .inl (gJ g, 48, .inr (.inl fm0))), (h5, .inl (gB g, 400, .inl fn0)), (h6, .inl (gJ g, 2400, .inr (.inl fm1))), (h0, .inr (0, [.ref h1, .ref h2, .ref h3, .int x1, .int x2, .long y0, .int x3, .int x4, .int x5, .int x6, .ref h7, .ref h8, .ref h9, .int x7, .int x8]))] (fun sz => c231_X7_size l g h1 h4 h10 x9 x10 i_x9 i_x10 sz) gX0_move_X7_size rfl ⟨rfl, rfl⟩ 0 (by decide) ⟨Nat.le_of_ble_eq_true rfl, Nat.le_of_ble_eq_true rfl⟩ 5 rfl rfl [5] [0, 1, 2, 3, 4, 6] rfl rfl (by decide) (by decide) (by decide) rfl rfl (Nat.le_of_ble_eq_true rfl) ⟨Nat.le_of_ble_eq_true rfl, Nat.le_of_ble_eq_true rfl⟩ (fun r12 _ w13 => ?_)
      refine r_ws [(h2, .inr (5, [.ref h5, .ref h6, .int x11, .int x12, .long y1, .long y2, .int x13])), (h3, .inr (3, [.ref h11, .ref h12, .ref h13, .ref h14, .int x14, .int x15, .int x16])), (h4, .inl (gJ g, 48, .inr (.inl fm0))), (h5, .inl (gB g, 400, .inl fn0)), (h6, .inl (gJ g, 2400, .inr (.inl fm1))), (h0, .inr (0, [.ref h1, .ref h2, .ref h3, .int x1, .int x2, .long y0, .int x3, .int x4, .int x5, .int x6, .ref h7, .ref h8, .ref h9, .int x7, .int x8])), (h1, .inr (6, [.ref h4, .ref h10, .int x9, .int x10]))] rfl ?_
      have p14 : x9 = r12 := (w13).symm
      subst p14
      refine r_iload_n 42 0 C dX0_move_42 rfl ?_
      obtain ⟨z15, ez15⟩ : ∃ z_9, x9 - r8 = z_9 := ⟨_, rfl⟩
      have tz15 : (Int32.toInt z15) = (Int32.toInt x9) - (Int32.toInt r8) := by rw [← ez15]; exact fb_subIv (a := 0) (b := 48) (c := 0) (d := 1) i_x9 ⟨p10, p11⟩ (by decide) (by decide)
      refine r_isub 43 z15 C dX0_move_43 ez15 ?_
      refine r_iload_n 44 1 C dX0_move_44 rfl ?_
      refine r_icmp_eq 45 50 C dX0_move_45 (by decide) (fun c16 => ?_) (fun c16 => ?_)
      · skip
        have k17 : (Int32.toInt z15) = 1 := (fa_eq z15 1).mp c16
        refine r_aload_n 50 2 C dX0_move_50 rfl ?_
        refine r_iload_n 51 0 C dX0_move_51 rfl ?_
        refine r_callVv 52 C dX0_move_52 [] [(h0, .inr (0, [.ref h1, .ref h2, .ref h3, .int x1, .int x2, .long y0, .int x3, .int x4, .int x5, .int x6, .ref h7, .ref h8, .ref h9, .int x7, .int x8])), (h1, .inr (6, [.ref h4, .ref h10, .int x9, .int x10])), (h3, .inr (3, [.ref h11, .ref h12, .ref h13, .ref h14, .int x14, .int x15, .int x16])), (h4, .inl (gJ g, 48, .inr (.inl fm0)))] [(h2, .inr (5, [.ref h5, .ref h6, .int x11, .int x12, .long y1, .long y2, .int x13])), (h5, .inl (gB g, 400, .inl fn0)), (h6, .inl (gJ g, 2400, .inr (.inl fm1)))] (fun sz => c289_X0_tellWidth l g h0 h1 h3 h4 r8 h2 x1 x2 y0 x3 x4 x5 x6 h7 h8 h9 x7 x8 h10 x9 x10 h11 h12 h13 h14 x14 x15 x16 fm0 i_x6 i_x7 i_x8 i_x9 i_x10 sz) gX0_move_X0_tellWidth rfl ⟨rfl, rfl⟩ 1 (by decide) ⟨Nat.le_of_ble_eq_true rfl, Nat.le_of_ble_eq_true rfl⟩ 5 rfl rfl [5, 6, 1, 2] [0, 3, 4] rfl rfl (by decide) (by decide) (by decide) rfl rfl (Nat.le_of_ble_eq_true rfl) ⟨Nat.le_of_ble_eq_true rfl, Nat.le_of_ble_eq_true rfl⟩ (fun  u21 w20 => ?_)
        obtain ⟨z18, z19⟩ := u21
        refine r_ws [(h2, .inr (5, [.ref h5, .ref h6, .int x11, .int x12, .long y1, .long y2, .int x13])), (h5, .inl (gB g, 400, .inl fn0)), (h6, .inl (gJ g, 2400, .inr (.inl fm1))), (h0, .inr (0, [.ref h1, .ref h2, .ref h3, .int x1, .int x2, .long z18, .int x3, .int x4, .int x5, .int x6, .ref h7, .ref h8, .ref h9, .int x7, .int z19])), (h1, .inr (6, [.ref h4, .ref h10, .int x9, .int x10])), (h3, .inr (3, [.ref h11, .ref h12, .ref h13, .ref h14, .int x14, .int x15, .int x16])), (h4, .inl (gJ g, 48, .inr (.inl fm0)))] rfl ?_
        have gz18 := fb_rngL z18
        have p22 : 0 ≤ (Int32.toInt z19) := w20.1
        have p23 : (Int32.toInt z19) ≤ 1 := w20.2
        refine r_aload_n 55 2 C dX0_move_55 rfl ?_
        refine r_get 56 C dX0_move_56 (k := 1) 3 rfl rfl hiX0 (by decide) rfl (mg 3 rfl) (Or.inr (mg 4 rfl)) rfl ?_
        refine r_callVi 59 C dX0_move_59 [] [(h2, .inr (5, [.ref h5, .ref h6, .int x11, .int x12, .long y1, .long y2, .int x13])), (h5, .inl (gB g, 400, .inl fn0)), (h6, .inl (gJ g, 2400, .inr (.inl fm1)))] [(h0, .inr (0, [.ref h1, .ref h2, .ref h3, .int x1, .int x2, .long z18, .int x3, .int x4, .int x5, .int x6, .ref h7, .ref h8, .ref h9, .int x7, .int z19])), (h1, .inr (6, [.ref h4, .ref h10, .int x9, .int x10])), (h3, .inr (3, [.ref h11, .ref h12, .ref h13, .ref h14, .int x14, .int x15, .int x16])), (h4, .inl (gJ g, 48, .inr (.inl fm0)))] (fun sz => c290_X6_closeIfOpen l g h2 h5 h6 x11 x12 y1 y2 x13 fn0 fm1 i_x11 i_x12 i_x13 sz) gX0_move_X6_closeIfOpen rfl ⟨rfl, rfl⟩ 0 (by decide) ⟨Nat.le_of_ble_eq_true rfl, Nat.le_of_ble_eq_true rfl⟩ 0 rfl rfl [0, 1, 2] [3, 4, 5, 6] rfl rfl (by decide) (by decide) (by decide) rfl rfl (Nat.le_of_ble_eq_true rfl) ⟨Nat.le_of_ble_eq_true rfl, Nat.le_of_ble_eq_true rfl⟩ (fun r27 u29 w28 => ?_)
        obtain ⟨z24, f25, f26⟩ := u29
        refine r_ws [(h0, .inr (0, [.ref h1, .ref h2, .ref h3, .int x1, .int x2, .long z18, .int x3, .int x4, .int x5, .int x6, .ref h7, .ref h8, .ref h9, .int x7, .int z19])), (h1, .inr (6, [.ref h4, .ref h10, .int x9, .int x10])), (h3, .inr (3, [.ref h11, .ref h12, .ref h13, .ref h14, .int x14, .int x15, .int x16])), (h4, .inl (gJ g, 48, .inr (.inl fm0))), (h2, .inr (5, [.ref h5, .ref h6, .int z24, .int x12, .long y1, .long y2, .int x13])), (h5, .inl (gB g, 400, .inl f25)), (h6, .inl (gJ g, 2400, .inr (.inl f26)))] rfl ?_
        have p30 : 0 ≤ (Int32.toInt r27) := w28.1
        have p31 : (Int32.toInt r27) ≤ 6 := w28.2.1
        have p32 : 0 ≤ (Int32.toInt z24) := w28.2.2.1
        have p33 : (Int32.toInt z24) ≤ 400 := w28.2.2.2
        refine r_istore 62 C dX0_move_62 [(4, .int r27), (3, .int r8), (2, .int 1), (0, .ref h0), (1, .int x0)] (by decide) rfl ?_
        refine r_iload 64 0 C dX0_move_64 rfl ?_
        refine r_if_eq 66 72 C dX0_move_66 (by decide) (fun c34 => ?_) (fun c34 => ?_)
        · skip
          have k35 : (Int32.toInt r27) = 0 := (fa_eq r27 0).mp c34
          refine r_aload_n 72 3 C dX0_move_72 rfl ?_
          refine r_get 73 C dX0_move_73 (k := 0) 0 rfl rfl hiX0 (by decide) rfl (mg 1 rfl) (Or.inr (mg 2 rfl)) rfl ?_
          refine r_iload_n 76 1 C dX0_move_76 rfl ?_
          refine r_callVl 77 C dX0_move_77 [] [(h1, .inr (6, [.ref h4, .ref h10, .int x9, .int x10])), (h4, .inl (gJ g, 48, .inr (.inl fm0)))] [(h0, .inr (0, [.ref h1, .ref h2, .ref h3, .int x1, .int x2, .long z18, .int x3, .int x4, .int x5, .int x6, .ref h7, .ref h8, .ref h9, .int x7, .int z19])), (h3, .inr (3, [.ref h11, .ref h12, .ref h13, .ref h14, .int x14, .int x15, .int x16])), (h2, .inr (5, [.ref h5, .ref h6, .int z24, .int x12, .long y1, .long y2, .int x13])), (h5, .inl (gB g, 400, .inl f25)), (h6, .inl (gJ g, 2400, .inr (.inl f26)))] (fun sz => c232_X7_get l g h1 h4 r8 h10 x9 x10 fm0 i_x9 i_x10 sz) gX0_move_X7_get rfl ⟨rfl, rfl⟩ 1 (by decide) ⟨Nat.le_of_ble_eq_true rfl, Nat.le_of_ble_eq_true rfl⟩ 1 rfl rfl [1, 3] [0, 2, 4, 5, 6] rfl rfl (by decide) (by decide) (by decide) rfl rfl (Nat.le_of_ble_eq_true rfl) ⟨Nat.le_of_ble_eq_true rfl, Nat.le_of_ble_eq_true rfl⟩ (fun r36 _ w37 => ?_)
          refine r_ws [(h0, .inr (0, [.ref h1, .ref h2, .ref h3, .int x1, .int x2, .long z18, .int x3, .int x4, .int x5, .int x6, .ref h7, .ref h8, .ref h9, .int x7, .int z19])), (h3, .inr (3, [.ref h11, .ref h12, .ref h13, .ref h14, .int x14, .int x15, .int x16])), (h2, .inr (5, [.ref h5, .ref h6, .int z24, .int x12, .long y1, .long y2, .int x13])), (h5, .inl (gB g, 400, .inl f25)), (h6, .inl (gJ g, 2400, .inr (.inl f26))), (h1, .inr (6, [.ref h4, .ref h10, .int x9, .int x10])), (h4, .inl (gJ g, 48, .inr (.inl fm0)))] rfl ?_
          have gr36 := fb_rngL r36
          refine r_lstore 80 C dX0_move_80 [(5, .long r36), (4, .int r27), (3, .int r8), (2, .int 1), (0, .ref h0), (1, .int x0)] (by decide) rfl ?_
          refine r_iload_n 82 5 C dX0_move_82 rfl ?_
          by_cases c38 : x0 = 21
          · skip
            have k39 : (Int32.toInt x0) = 21 := (fa_eq x0 21).mp c38
            refine r_lookup 83 108 (off := 25) C dX0_move_83 (by decide) (by rw [c38]; decide) (by decide) ?_
            refine r_aload_n 108 4 C dX0_move_108 rfl ?_
            refine r_get 109 C dX0_move_109 (k := 1) 0 rfl rfl hiX0 (by decide) rfl (mg 3 rfl) (Or.inr (mg 4 rfl)) rfl ?_
            refine r_lload 112 0 C dX0_move_112 rfl ?_
            refine r_aload_n 114 4 C dX0_move_114 rfl ?_
            refine r_get 115 C dX0_move_115 (k := 0) 0 rfl rfl hiX0 (by decide) rfl (mg 1 rfl) (Or.inr (mg 2 rfl)) rfl ?_
            refine r_iload_n 118 2 C dX0_move_118 rfl ?_
            refine r_iconst 119 1 C dX0_move_119 (by decide) ?_
            obtain ⟨z40, ez40⟩ : ∃ z_9, r8 + 1 = z_9 := ⟨_, rfl⟩
            have tz40 : (Int32.toInt z40) = (Int32.toInt r8) + 1 := by rw [← ez40]; exact fb_addIv (a := 0) (b := 1) (c := 1) (d := 1) ⟨p10, p11⟩ ⟨by decide, by decide⟩ (by decide) (by decide)
            refine r_iadd 120 z40 C dX0_move_120 ez40 ?_
            refine r_callVl 121 C dX0_move_121 [.long r36, .ref h2] [(h1, .inr (6, [.ref h4, .ref h10, .int x9, .int x10])), (h4, .inl (gJ g, 48, .inr (.inl fm0)))] [(h0, .inr (0, [.ref h1, .ref h2, .ref h3, .int x1, .int x2, .long z18, .int x3, .int x4, .int x5, .int x6, .ref h7, .ref h8, .ref h9, .int x7, .int z19])), (h3, .inr (3, [.ref h11, .ref h12, .ref h13, .ref h14, .int x14, .int x15, .int x16])), (h2, .inr (5, [.ref h5, .ref h6, .int z24, .int x12, .long y1, .long y2, .int x13])), (h5, .inl (gB g, 400, .inl f25)), (h6, .inl (gJ g, 2400, .inr (.inl f26)))] (fun sz => c232_X7_get l g h1 h4 z40 h10 x9 x10 fm0 i_x9 i_x10 sz) gX0_move_X7_get rfl ⟨rfl, rfl⟩ 1 (by decide) ⟨Nat.le_of_ble_eq_true rfl, Nat.le_of_ble_eq_true rfl⟩ 5 rfl rfl [5, 6] [0, 1, 2, 3, 4] rfl rfl (by decide) (by decide) (by decide) rfl rfl (Nat.le_of_ble_eq_true rfl) ⟨Nat.le_of_ble_eq_true rfl, Nat.le_of_ble_eq_true rfl⟩ (fun r41 _ w42 => ?_)
            refine r_ws [(h0, .inr (0, [.ref h1, .ref h2, .ref h3, .int x1, .int x2, .long z18, .int x3, .int x4, .int x5, .int x6, .ref h7, .ref h8, .ref h9, .int x7, .int z19])), (h3, .inr (3, [.ref h11, .ref h12, .ref h13, .ref h14, .int x14, .int x15, .int x16])), (h2, .inr (5, [.ref h5, .ref h6, .int z24, .int x12, .long y1, .long y2, .int x13])), (h5, .inl (gB g, 400, .inl f25)), (h6, .inl (gJ g, 2400, .inr (.inl f26))), (h1, .inr (6, [.ref h4, .ref h10, .int x9, .int x10])), (h4, .inl (gJ g, 48, .inr (.inl fm0)))] rfl ?_
            have gr41 := fb_rngL r41
            refine r_callVi 124 C dX0_move_124 [] [(h2, .inr (5, [.ref h5, .ref h6, .int z24, .int x12, .long y1, .long y2, .int x13])), (h5, .inl (gB g, 400, .inl f25)), (h6, .inl (gJ g, 2400, .inr (.inl f26)))] [(h0, .inr (0, [.ref h1, .ref h2, .ref h3, .int x1, .int x2, .long z18, .int x3, .int x4, .int x5, .int x6, .ref h7, .ref h8, .ref h9, .int x7, .int z19])), (h3, .inr (3, [.ref h11, .ref h12, .ref h13, .ref h14, .int x14, .int x15, .int x16])), (h1, .inr (6, [.ref h4, .ref h10, .int x9, .int x10])), (h4, .inl (gJ g, 48, .inr (.inl fm0)))] (fun sz => c251_X6_moveBy l g h2 h5 h6 r36 r41 z24 x12 y1 y2 x13 f25 f26 ⟨p32, p33⟩ i_x12 i_x13 sz) gX0_move_X6_moveBy rfl ⟨rfl, rfl⟩ 2 (by decide) ⟨Nat.le_of_ble_eq_true rfl, Nat.le_of_ble_eq_true rfl⟩ 2 rfl rfl [2, 3, 4] [0, 1, 5, 6] rfl rfl (by decide) (by decide) (by decide) rfl rfl (Nat.le_of_ble_eq_true rfl) ⟨Nat.le_of_ble_eq_true rfl, Nat.le_of_ble_eq_true rfl⟩ (fun r48 u50 w49 => ?_)
            obtain ⟨z43, z44, z45, f46, f47⟩ := u50
            refine r_ws [(h0, .inr (0, [.ref h1, .ref h2, .ref h3, .int x1, .int x2, .long z18, .int x3, .int x4, .int x5, .int x6, .ref h7, .ref h8, .ref h9, .int x7, .int z19])), (h3, .inr (3, [.ref h11, .ref h12, .ref h13, .ref h14, .int x14, .int x15, .int x16])), (h1, .inr (6, [.ref h4, .ref h10, .int x9, .int x10])), (h4, .inl (gJ g, 48, .inr (.inl fm0))), (h2, .inr (5, [.ref h5, .ref h6, .int z43, .int x12, .long z44, .long z45, .int 0])), (h5, .inl (gB g, 400, .inl f46)), (h6, .inl (gJ g, 2400, .inr (.inl f47)))] rfl ?_
            have gz44 := fb_rngL z44
            have gz45 := fb_rngL z45
            have p51 : 0 ≤ (Int32.toInt r48) := w49.1
            have p52 : (Int32.toInt r48) ≤ 6 := w49.2.1
            have p53 : 0 ≤ (Int32.toInt z43) := w49.2.2.1
            have p54 : (Int32.toInt z43) ≤ 400 := w49.2.2.2
            exact r_iret 127 Rt dX0_move_127 (z18, z19, z43, z44, z45, 0, f46, f47) (show 0 ≤ (Int32.toInt r48) ∧ (Int32.toInt r48) ≤ 6 ∧ 0 ≤ (Int32.toInt z19) ∧ (Int32.toInt z19) ≤ 1 ∧ 0 ≤ (Int32.toInt z43) ∧ (Int32.toInt z43) ≤ 400 ∧ 0 ≤ (Int32.toInt 0) ∧ (Int32.toInt 0) ≤ 1 from ⟨(show _ ∧ _ from ⟨p51, p52⟩).1, (show _ ∧ _ from ⟨p51, p52⟩).2, (show _ ∧ _ from ⟨p22, p23⟩).1, (show _ ∧ _ from ⟨p22, p23⟩).2, (show _ ∧ _ from ⟨p53, p54⟩).1, (show _ ∧ _ from ⟨p53, p54⟩).2, (by ((repeat' apply And.intro) <;> first | trivial | rfl | assumption | omega | decide | exact Or.inl rfl | exact Or.inr (Or.inl rfl) | exact Or.inr (Or.inr rfl))), (by ((repeat' apply And.intro) <;> first | trivial | rfl | assumption | omega | decide | exact Or.inl rfl | exact Or.inr (Or.inl rfl) | exact Or.inr (Or.inr rfl)))⟩) [0, 2, 4, 1, 3, 5, 6] (by decide) rfl (Nat.le_of_ble_eq_true rfl) (Nat.le_of_ble_eq_true rfl)
          · skip
            have k55 : ¬ ((Int32.toInt x0) = 21) := fun h_9 => c38 ((fa_eq x0 21).mpr h_9)
            by_cases c56 : x0 = 22
            · skip
              have k57 : (Int32.toInt x0) = 22 := (fa_eq x0 22).mp c56
              refine r_lookup 83 128 (off := 45) C dX0_move_83 (by decide) (by rw [c56]; decide) (by decide) ?_
              refine r_aload_n 128 4 C dX0_move_128 rfl ?_
              refine r_get 129 C dX0_move_129 (k := 1) 0 rfl rfl hiX0 (by decide) rfl (mg 3 rfl) (Or.inr (mg 4 rfl)) rfl ?_
              refine r_lload 132 0 C dX0_move_132 rfl ?_
              refine r_lconst 134 0 C dX0_move_134 (by decide) ?_
              refine r_callVi 135 C dX0_move_135 [] [(h2, .inr (5, [.ref h5, .ref h6, .int z24, .int x12, .long y1, .long y2, .int x13])), (h5, .inl (gB g, 400, .inl f25)), (h6, .inl (gJ g, 2400, .inr (.inl f26)))] [(h0, .inr (0, [.ref h1, .ref h2, .ref h3, .int x1, .int x2, .long z18, .int x3, .int x4, .int x5, .int x6, .ref h7, .ref h8, .ref h9, .int x7, .int z19])), (h3, .inr (3, [.ref h11, .ref h12, .ref h13, .ref h14, .int x14, .int x15, .int x16])), (h1, .inr (6, [.ref h4, .ref h10, .int x9, .int x10])), (h4, .inl (gJ g, 48, .inr (.inl fm0)))] (fun sz => c251_X6_moveBy l g h2 h5 h6 r36 0 z24 x12 y1 y2 x13 f25 f26 ⟨p32, p33⟩ i_x12 i_x13 sz) gX0_move_X6_moveBy rfl ⟨rfl, rfl⟩ 2 (by decide) ⟨Nat.le_of_ble_eq_true rfl, Nat.le_of_ble_eq_true rfl⟩ 2 rfl rfl [2, 3, 4] [0, 1, 5, 6] rfl rfl (by decide) (by decide) (by decide) rfl rfl (Nat.le_of_ble_eq_true rfl) ⟨Nat.le_of_ble_eq_true rfl, Nat.le_of_ble_eq_true rfl⟩ (fun r63 u65 w64 => ?_)
              obtain ⟨z58, z59, z60, f61, f62⟩ := u65
              refine r_ws [(h0, .inr (0, [.ref h1, .ref h2, .ref h3, .int x1, .int x2, .long z18, .int x3, .int x4, .int x5, .int x6, .ref h7, .ref h8, .ref h9, .int x7, .int z19])), (h3, .inr (3, [.ref h11, .ref h12, .ref h13, .ref h14, .int x14, .int x15, .int x16])), (h1, .inr (6, [.ref h4, .ref h10, .int x9, .int x10])), (h4, .inl (gJ g, 48, .inr (.inl fm0))), (h2, .inr (5, [.ref h5, .ref h6, .int z58, .int x12, .long z59, .long z60, .int 0])), (h5, .inl (gB g, 400, .inl f61)), (h6, .inl (gJ g, 2400, .inr (.inl f62)))] rfl ?_
              have gz59 := fb_rngL z59
              have gz60 := fb_rngL z60
              have p66 : 0 ≤ (Int32.toInt r63) := w64.1
              have p67 : (Int32.toInt r63) ≤ 6 := w64.2.1
              have p68 : 0 ≤ (Int32.toInt z58) := w64.2.2.1
              have p69 : (Int32.toInt z58) ≤ 400 := w64.2.2.2
              exact r_iret 138 Rt dX0_move_138 (z18, z19, z58, z59, z60, 0, f61, f62) (show 0 ≤ (Int32.toInt r63) ∧ (Int32.toInt r63) ≤ 6 ∧ 0 ≤ (Int32.toInt z19) ∧ (Int32.toInt z19) ≤ 1 ∧ 0 ≤ (Int32.toInt z58) ∧ (Int32.toInt z58) ≤ 400 ∧ 0 ≤ (Int32.toInt 0) ∧ (Int32.toInt 0) ≤ 1 from ⟨(show _ ∧ _ from ⟨p66, p67⟩).1, (show _ ∧ _ from ⟨p66, p67⟩).2, (show _ ∧ _ from ⟨p22, p23⟩).1, (show _ ∧ _ from ⟨p22, p23⟩).2, (show _ ∧ _ from ⟨p68, p69⟩).1, (show _ ∧ _ from ⟨p68, p69⟩).2, (by ((repeat' apply And.intro) <;> first | trivial | rfl | assumption | omega | decide | exact Or.inl rfl | exact Or.inr (Or.inl rfl) | exact Or.inr (Or.inr rfl))), (by ((repeat' apply And.intro) <;> first | trivial | rfl | assumption | omega | decide | exact Or.inl rfl | exact Or.inr (Or.inl rfl) | exact Or.inr (Or.inr rfl)))⟩) [0, 2, 4, 1, 3, 5, 6] (by decide) rfl (Nat.le_of_ble_eq_true rfl) (Nat.le_of_ble_eq_true rfl)
            · skip
              have k70 : ¬ ((Int32.toInt x0) = 22) := fun h_9 => c56 ((fa_eq x0 22).mpr h_9)
              refine r_lookup 83 139 (off := 56) C dX0_move_83 (by decide) ((lv_osw c38 rfl).trans ((lv_osw c56 rfl).trans rfl)) (by decide) ?_
              refine r_aload_n 139 4 C dX0_move_139 rfl ?_
              refine r_get 140 C dX0_move_140 (k := 1) 0 rfl rfl hiX0 (by decide) rfl (mg 3 rfl) (Or.inr (mg 4 rfl)) rfl ?_
              refine r_lconst 143 0 C dX0_move_143 (by decide) ?_
              refine r_lload 144 0 C dX0_move_144 rfl ?_
              refine r_callVi 146 C dX0_move_146 [] [(h2, .inr (5, [.ref h5, .ref h6, .int z24, .int x12, .long y1, .long y2, .int x13])), (h5, .inl (gB g, 400, .inl f25)), (h6, .inl (gJ g, 2400, .inr (.inl f26)))] [(h0, .inr (0, [.ref h1, .ref h2, .ref h3, .int x1, .int x2, .long z18, .int x3, .int x4, .int x5, .int x6, .ref h7, .ref h8, .ref h9, .int x7, .int z19])), (h3, .inr (3, [.ref h11, .ref h12, .ref h13, .ref h14, .int x14, .int x15, .int x16])), (h1, .inr (6, [.ref h4, .ref h10, .int x9, .int x10])), (h4, .inl (gJ g, 48, .inr (.inl fm0)))] (fun sz => c251_X6_moveBy l g h2 h5 h6 0 r36 z24 x12 y1 y2 x13 f25 f26 ⟨p32, p33⟩ i_x12 i_x13 sz) gX0_move_X6_moveBy rfl ⟨rfl, rfl⟩ 2 (by decide) ⟨Nat.le_of_ble_eq_true rfl, Nat.le_of_ble_eq_true rfl⟩ 2 rfl rfl [2, 3, 4] [0, 1, 5, 6] rfl rfl (by decide) (by decide) (by decide) rfl rfl (Nat.le_of_ble_eq_true rfl) ⟨Nat.le_of_ble_eq_true rfl, Nat.le_of_ble_eq_true rfl⟩ (fun r76 u78 w77 => ?_)
              obtain ⟨z71, z72, z73, f74, f75⟩ := u78
              refine r_ws [(h0, .inr (0, [.ref h1, .ref h2, .ref h3, .int x1, .int x2, .long z18, .int x3, .int x4, .int x5, .int x6, .ref h7, .ref h8, .ref h9, .int x7, .int z19])), (h3, .inr (3, [.ref h11, .ref h12, .ref h13, .ref h14, .int x14, .int x15, .int x16])), (h1, .inr (6, [.ref h4, .ref h10, .int x9, .int x10])), (h4, .inl (gJ g, 48, .inr (.inl fm0))), (h2, .inr (5, [.ref h5, .ref h6, .int z71, .int x12, .long z72, .long z73, .int 0])), (h5, .inl (gB g, 400, .inl f74)), (h6, .inl (gJ g, 2400, .inr (.inl f75)))] rfl ?_
              have gz72 := fb_rngL z72
              have gz73 := fb_rngL z73
              have p79 : 0 ≤ (Int32.toInt r76) := w77.1
              have p80 : (Int32.toInt r76) ≤ 6 := w77.2.1
              have p81 : 0 ≤ (Int32.toInt z71) := w77.2.2.1
              have p82 : (Int32.toInt z71) ≤ 400 := w77.2.2.2
              exact r_iret 149 Rt dX0_move_149 (z18, z19, z71, z72, z73, 0, f74, f75) (show 0 ≤ (Int32.toInt r76) ∧ (Int32.toInt r76) ≤ 6 ∧ 0 ≤ (Int32.toInt z19) ∧ (Int32.toInt z19) ≤ 1 ∧ 0 ≤ (Int32.toInt z71) ∧ (Int32.toInt z71) ≤ 400 ∧ 0 ≤ (Int32.toInt 0) ∧ (Int32.toInt 0) ≤ 1 from ⟨(show _ ∧ _ from ⟨p79, p80⟩).1, (show _ ∧ _ from ⟨p79, p80⟩).2, (show _ ∧ _ from ⟨p22, p23⟩).1, (show _ ∧ _ from ⟨p22, p23⟩).2, (show _ ∧ _ from ⟨p81, p82⟩).1, (show _ ∧ _ from ⟨p81, p82⟩).2, (by ((repeat' apply And.intro) <;> first | trivial | rfl | assumption | omega | decide | exact Or.inl rfl | exact Or.inr (Or.inl rfl) | exact Or.inr (Or.inr rfl))), (by ((repeat' apply And.intro) <;> first | trivial | rfl | assumption | omega | decide | exact Or.inl rfl | exact Or.inr (Or.inl rfl) | exact Or.inr (Or.inr rfl)))⟩) [0, 2, 4, 1, 3, 5, 6] (by decide) rfl (Nat.le_of_ble_eq_true rfl) (Nat.le_of_ble_eq_true rfl)
        · skip
          have k83 : ¬ ((Int32.toInt r27) = 0) := fun h_9 => c34 ((fa_eq r27 0).mpr h_9)
          refine r_iload 69 0 C dX0_move_69 rfl ?_
          exact r_iret 71 Rt dX0_move_71 (z18, z19, z24, y1, y2, x13, f25, f26) (show 0 ≤ (Int32.toInt r27) ∧ (Int32.toInt r27) ≤ 6 ∧ 0 ≤ (Int32.toInt z19) ∧ (Int32.toInt z19) ≤ 1 ∧ 0 ≤ (Int32.toInt z24) ∧ (Int32.toInt z24) ≤ 400 ∧ 0 ≤ (Int32.toInt x13) ∧ (Int32.toInt x13) ≤ 1 from ⟨(show _ ∧ _ from ⟨p30, p31⟩).1, (show _ ∧ _ from ⟨p30, p31⟩).2, (show _ ∧ _ from ⟨p22, p23⟩).1, (show _ ∧ _ from ⟨p22, p23⟩).2, (show _ ∧ _ from ⟨p32, p33⟩).1, (show _ ∧ _ from ⟨p32, p33⟩).2, i_x13.1, i_x13.2⟩) [0, 1, 4, 2, 3, 5, 6] (by decide) rfl (Nat.le_of_ble_eq_true rfl) (Nat.le_of_ble_eq_true rfl)
      · skip
        have k84 : ¬ ((Int32.toInt z15) = 1) := fun h_9 => c16 ((fa_eq z15 1).mpr h_9)
        refine r_iconst 48 2 C dX0_move_48 (by decide) ?_
        exact r_iret 49 Rt dX0_move_49 (y0, x8, x11, y1, y2, x13, fn0, fm1) (show 0 ≤ (Int32.toInt 2) ∧ (Int32.toInt 2) ≤ 6 ∧ 0 ≤ (Int32.toInt x8) ∧ (Int32.toInt x8) ≤ 1 ∧ 0 ≤ (Int32.toInt x11) ∧ (Int32.toInt x11) ≤ 400 ∧ 0 ≤ (Int32.toInt x13) ∧ (Int32.toInt x13) ≤ 1 from ⟨(by ((repeat' apply And.intro) <;> first | trivial | rfl | assumption | omega | decide | exact Or.inl rfl | exact Or.inr (Or.inl rfl) | exact Or.inr (Or.inr rfl))), (by ((repeat' apply And.intro) <;> first | trivial | rfl | assumption | omega | decide | exact Or.inl rfl | exact Or.inr (Or.inl rfl) | exact Or.inr (Or.inr rfl))), i_x8.1, i_x8.2, i_x11.1, i_x11.2, i_x13.1, i_x13.2⟩) [5, 6, 0, 1, 2, 3, 4] (by decide) rfl (Nat.le_of_ble_eq_true rfl) (Nat.le_of_ble_eq_true rfl)
    · skip
      have k85 : (Int32.toInt x9) = 2 := (fa_eq x9 2).mp c6
      refine r_iconst 26 1 C dX0_move_26 (by decide) ?_
      refine r_goto 27 31 C dX0_move_27 (by decide) ?_
      refine r_callVi 31 C dX0_move_31 [] [(h0, .inr (0, [.ref h1, .ref h2, .ref h3, .int x1, .int x2, .long y0, .int x3, .int x4, .int x5, .int x6, .ref h7, .ref h8, .ref h9, .int x7, .int x8]))] [(h2, .inr (5, [.ref h5, .ref h6, .int x11, .int x12, .long y1, .long y2, .int x13])), (h3, .inr (3, [.ref h11, .ref h12, .ref h13, .ref h14, .int x14, .int x15, .int x16])), (h4, .inl (gJ g, 48, .inr (.inl fm0))), (h5, .inl (gB g, 400, .inl fn0)), (h6, .inl (gJ g, 2400, .inr (.inl fm1))), (h1, .inr (6, [.ref h4, .ref h10, .int x9, .int x10]))] (fun sz => c288_X0_widthsShare l g h0 1 h1 h2 h3 x1 x2 y0 x3 x4 x5 x6 h7 h8 h9 x7 x8 (by decide) i_x6 i_x7 i_x8 sz) gX0_move_X0_widthsShare rfl ⟨rfl, rfl⟩ 1 (by decide) ⟨Nat.le_of_ble_eq_true rfl, Nat.le_of_ble_eq_true rfl⟩ 0 rfl rfl [0] [1, 2, 3, 4, 5, 6] rfl rfl (by decide) (by decide) (by decide) rfl rfl (Nat.le_of_ble_eq_true rfl) ⟨Nat.le_of_ble_eq_true rfl, Nat.le_of_ble_eq_true rfl⟩ (fun r86 _ w87 => ?_)
      refine r_ws [(h2, .inr (5, [.ref h5, .ref h6, .int x11, .int x12, .long y1, .long y2, .int x13])), (h3, .inr (3, [.ref h11, .ref h12, .ref h13, .ref h14, .int x14, .int x15, .int x16])), (h4, .inl (gJ g, 48, .inr (.inl fm0))), (h5, .inl (gB g, 400, .inl fn0)), (h6, .inl (gJ g, 2400, .inr (.inl fm1))), (h1, .inr (6, [.ref h4, .ref h10, .int x9, .int x10])), (h0, .inr (0, [.ref h1, .ref h2, .ref h3, .int x1, .int x2, .long y0, .int x3, .int x4, .int x5, .int x6, .ref h7, .ref h8, .ref h9, .int x7, .int x8]))] rfl ?_
      have p88 : 0 ≤ (Int32.toInt r86) := w87.1
      have p89 : (Int32.toInt r86) ≤ 1 := w87.2
      refine r_istore_n 34 C dX0_move_34 [(3, .int r86), (2, .int 1), (0, .ref h0), (1, .int x0)] (by decide) rfl ?_
      refine r_aload_n 35 2 C dX0_move_35 rfl ?_
      refine r_get 36 C dX0_move_36 (k := 0) 6 rfl rfl hiX0 (by decide) rfl (mg 1 rfl) (Or.inr (mg 2 rfl)) rfl ?_
      refine r_callVi 39 C dX0_move_39 [] [(h1, .inr (6, [.ref h4, .ref h10, .int x9, .int x10]))] [(h2, .inr (5, [.ref h5, .ref h6, .int x11, .int x12, .long y1, .long y2, .int x13])), (h3, .inr (3, [.ref h11, .ref h12, .ref h13, .ref h14, .int x14, .int x15, .int x16])), (h4, .inl (gJ g, 48, .inr (.inl fm0))), (h5, .inl (gB g, 400, .inl fn0)), (h6, .inl (gJ g, 2400, .inr (.inl fm1))), (h0, .inr (0, [.ref h1, .ref h2, .ref h3, .int x1, .int x2, .long y0, .int x3, .int x4, .int x5, .int x6, .ref h7, .ref h8, .ref h9, .int x7, .int x8]))] (fun sz => c231_X7_size l g h1 h4 h10 x9 x10 i_x9 i_x10 sz) gX0_move_X7_size rfl ⟨rfl, rfl⟩ 0 (by decide) ⟨Nat.le_of_ble_eq_true rfl, Nat.le_of_ble_eq_true rfl⟩ 5 rfl rfl [5] [0, 1, 2, 3, 4, 6] rfl rfl (by decide) (by decide) (by decide) rfl rfl (Nat.le_of_ble_eq_true rfl) ⟨Nat.le_of_ble_eq_true rfl, Nat.le_of_ble_eq_true rfl⟩ (fun r90 _ w91 => ?_)
      refine r_ws [(h2, .inr (5, [.ref h5, .ref h6, .int x11, .int x12, .long y1, .long y2, .int x13])), (h3, .inr (3, [.ref h11, .ref h12, .ref h13, .ref h14, .int x14, .int x15, .int x16])), (h4, .inl (gJ g, 48, .inr (.inl fm0))), (h5, .inl (gB g, 400, .inl fn0)), (h6, .inl (gJ g, 2400, .inr (.inl fm1))), (h0, .inr (0, [.ref h1, .ref h2, .ref h3, .int x1, .int x2, .long y0, .int x3, .int x4, .int x5, .int x6, .ref h7, .ref h8, .ref h9, .int x7, .int x8])), (h1, .inr (6, [.ref h4, .ref h10, .int x9, .int x10]))] rfl ?_
      have p92 : x9 = r90 := (w91).symm
      subst p92
      refine r_iload_n 42 0 C dX0_move_42 rfl ?_
      obtain ⟨z93, ez93⟩ : ∃ z_9, x9 - r86 = z_9 := ⟨_, rfl⟩
      have tz93 : (Int32.toInt z93) = (Int32.toInt x9) - (Int32.toInt r86) := by rw [← ez93]; exact fb_subIv (a := 0) (b := 48) (c := 0) (d := 1) i_x9 ⟨p88, p89⟩ (by decide) (by decide)
      refine r_isub 43 z93 C dX0_move_43 ez93 ?_
      refine r_iload_n 44 1 C dX0_move_44 rfl ?_
      refine r_icmp_eq 45 50 C dX0_move_45 (by decide) (fun c94 => ?_) (fun c94 => ?_)
      · skip
        have k95 : (Int32.toInt z93) = 1 := (fa_eq z93 1).mp c94
        refine r_aload_n 50 2 C dX0_move_50 rfl ?_
        refine r_iload_n 51 0 C dX0_move_51 rfl ?_
        refine r_callVv 52 C dX0_move_52 [] [(h0, .inr (0, [.ref h1, .ref h2, .ref h3, .int x1, .int x2, .long y0, .int x3, .int x4, .int x5, .int x6, .ref h7, .ref h8, .ref h9, .int x7, .int x8])), (h1, .inr (6, [.ref h4, .ref h10, .int x9, .int x10])), (h3, .inr (3, [.ref h11, .ref h12, .ref h13, .ref h14, .int x14, .int x15, .int x16])), (h4, .inl (gJ g, 48, .inr (.inl fm0)))] [(h2, .inr (5, [.ref h5, .ref h6, .int x11, .int x12, .long y1, .long y2, .int x13])), (h5, .inl (gB g, 400, .inl fn0)), (h6, .inl (gJ g, 2400, .inr (.inl fm1)))] (fun sz => c289_X0_tellWidth l g h0 h1 h3 h4 r86 h2 x1 x2 y0 x3 x4 x5 x6 h7 h8 h9 x7 x8 h10 x9 x10 h11 h12 h13 h14 x14 x15 x16 fm0 i_x6 i_x7 i_x8 i_x9 i_x10 sz) gX0_move_X0_tellWidth rfl ⟨rfl, rfl⟩ 1 (by decide) ⟨Nat.le_of_ble_eq_true rfl, Nat.le_of_ble_eq_true rfl⟩ 5 rfl rfl [5, 6, 1, 2] [0, 3, 4] rfl rfl (by decide) (by decide) (by decide) rfl rfl (Nat.le_of_ble_eq_true rfl) ⟨Nat.le_of_ble_eq_true rfl, Nat.le_of_ble_eq_true rfl⟩ (fun  u99 w98 => ?_)
        obtain ⟨z96, z97⟩ := u99
        refine r_ws [(h2, .inr (5, [.ref h5, .ref h6, .int x11, .int x12, .long y1, .long y2, .int x13])), (h5, .inl (gB g, 400, .inl fn0)), (h6, .inl (gJ g, 2400, .inr (.inl fm1))), (h0, .inr (0, [.ref h1, .ref h2, .ref h3, .int x1, .int x2, .long z96, .int x3, .int x4, .int x5, .int x6, .ref h7, .ref h8, .ref h9, .int x7, .int z97])), (h1, .inr (6, [.ref h4, .ref h10, .int x9, .int x10])), (h3, .inr (3, [.ref h11, .ref h12, .ref h13, .ref h14, .int x14, .int x15, .int x16])), (h4, .inl (gJ g, 48, .inr (.inl fm0)))] rfl ?_
        have gz96 := fb_rngL z96
        have p100 : 0 ≤ (Int32.toInt z97) := w98.1
        have p101 : (Int32.toInt z97) ≤ 1 := w98.2
        refine r_aload_n 55 2 C dX0_move_55 rfl ?_
        refine r_get 56 C dX0_move_56 (k := 1) 3 rfl rfl hiX0 (by decide) rfl (mg 3 rfl) (Or.inr (mg 4 rfl)) rfl ?_
        refine r_callVi 59 C dX0_move_59 [] [(h2, .inr (5, [.ref h5, .ref h6, .int x11, .int x12, .long y1, .long y2, .int x13])), (h5, .inl (gB g, 400, .inl fn0)), (h6, .inl (gJ g, 2400, .inr (.inl fm1)))] [(h0, .inr (0, [.ref h1, .ref h2, .ref h3, .int x1, .int x2, .long z96, .int x3, .int x4, .int x5, .int x6, .ref h7, .ref h8, .ref h9, .int x7, .int z97])), (h1, .inr (6, [.ref h4, .ref h10, .int x9, .int x10])), (h3, .inr (3, [.ref h11, .ref h12, .ref h13, .ref h14, .int x14, .int x15, .int x16])), (h4, .inl (gJ g, 48, .inr (.inl fm0)))] (fun sz => c290_X6_closeIfOpen l g h2 h5 h6 x11 x12 y1 y2 x13 fn0 fm1 i_x11 i_x12 i_x13 sz) gX0_move_X6_closeIfOpen rfl ⟨rfl, rfl⟩ 0 (by decide) ⟨Nat.le_of_ble_eq_true rfl, Nat.le_of_ble_eq_true rfl⟩ 0 rfl rfl [0, 1, 2] [3, 4, 5, 6] rfl rfl (by decide) (by decide) (by decide) rfl rfl (Nat.le_of_ble_eq_true rfl) ⟨Nat.le_of_ble_eq_true rfl, Nat.le_of_ble_eq_true rfl⟩ (fun r105 u107 w106 => ?_)
        obtain ⟨z102, f103, f104⟩ := u107
        refine r_ws [(h0, .inr (0, [.ref h1, .ref h2, .ref h3, .int x1, .int x2, .long z96, .int x3, .int x4, .int x5, .int x6, .ref h7, .ref h8, .ref h9, .int x7, .int z97])), (h1, .inr (6, [.ref h4, .ref h10, .int x9, .int x10])), (h3, .inr (3, [.ref h11, .ref h12, .ref h13, .ref h14, .int x14, .int x15, .int x16])), (h4, .inl (gJ g, 48, .inr (.inl fm0))), (h2, .inr (5, [.ref h5, .ref h6, .int z102, .int x12, .long y1, .long y2, .int x13])), (h5, .inl (gB g, 400, .inl f103)), (h6, .inl (gJ g, 2400, .inr (.inl f104)))] rfl ?_
        have p108 : 0 ≤ (Int32.toInt r105) := w106.1
        have p109 : (Int32.toInt r105) ≤ 6 := w106.2.1
        have p110 : 0 ≤ (Int32.toInt z102) := w106.2.2.1
        have p111 : (Int32.toInt z102) ≤ 400 := w106.2.2.2
        refine r_istore 62 C dX0_move_62 [(4, .int r105), (3, .int r86), (2, .int 1), (0, .ref h0), (1, .int x0)] (by decide) rfl ?_
        refine r_iload 64 0 C dX0_move_64 rfl ?_
        refine r_if_eq 66 72 C dX0_move_66 (by decide) (fun c112 => ?_) (fun c112 => ?_)
        · skip
          have k113 : (Int32.toInt r105) = 0 := (fa_eq r105 0).mp c112
          refine r_aload_n 72 3 C dX0_move_72 rfl ?_
          refine r_get 73 C dX0_move_73 (k := 0) 0 rfl rfl hiX0 (by decide) rfl (mg 1 rfl) (Or.inr (mg 2 rfl)) rfl ?_
          refine r_iload_n 76 1 C dX0_move_76 rfl ?_
          refine r_callVl 77 C dX0_move_77 [] [(h1, .inr (6, [.ref h4, .ref h10, .int x9, .int x10])), (h4, .inl (gJ g, 48, .inr (.inl fm0)))] [(h0, .inr (0, [.ref h1, .ref h2, .ref h3, .int x1, .int x2, .long z96, .int x3, .int x4, .int x5, .int x6, .ref h7, .ref h8, .ref h9, .int x7, .int z97])), (h3, .inr (3, [.ref h11, .ref h12, .ref h13, .ref h14, .int x14, .int x15, .int x16])), (h2, .inr (5, [.ref h5, .ref h6, .int z102, .int x12, .long y1, .long y2, .int x13])), (h5, .inl (gB g, 400, .inl f103)), (h6, .inl (gJ g, 2400, .inr (.inl f104)))] (fun sz => c232_X7_get l g h1 h4 r86 h10 x9 x10 fm0 i_x9 i_x10 sz) gX0_move_X7_get rfl ⟨rfl, rfl⟩ 1 (by decide) ⟨Nat.le_of_ble_eq_true rfl, Nat.le_of_ble_eq_true rfl⟩ 1 rfl rfl [1, 3] [0, 2, 4, 5, 6] rfl rfl (by decide) (by decide) (by decide) rfl rfl (Nat.le_of_ble_eq_true rfl) ⟨Nat.le_of_ble_eq_true rfl, Nat.le_of_ble_eq_true rfl⟩ (fun r114 _ w115 => ?_)
          refine r_ws [(h0, .inr (0, [.ref h1, .ref h2, .ref h3, .int x1, .int x2, .long z96, .int x3, .int x4, .int x5, .int x6, .ref h7, .ref h8, .ref h9, .int x7, .int z97])), (h3, .inr (3, [.ref h11, .ref h12, .ref h13, .ref h14, .int x14, .int x15, .int x16])), (h2, .inr (5, [.ref h5, .ref h6, .int z102, .int x12, .long y1, .long y2, .int x13])), (h5, .inl (gB g, 400, .inl f103)), (h6, .inl (gJ g, 2400, .inr (.inl f104))), (h1, .inr (6, [.ref h4, .ref h10, .int x9, .int x10])), (h4, .inl (gJ g, 48, .inr (.inl fm0)))] rfl ?_
          have gr114 := fb_rngL r114
          refine r_lstore 80 C dX0_move_80 [(5, .long r114), (4, .int r105), (3, .int r86), (2, .int 1), (0, .ref h0), (1, .int x0)] (by decide) rfl ?_
          refine r_iload_n 82 5 C dX0_move_82 rfl ?_
          by_cases c116 : x0 = 21
          · skip
            have k117 : (Int32.toInt x0) = 21 := (fa_eq x0 21).mp c116
            refine r_lookup 83 108 (off := 25) C dX0_move_83 (by decide) (by rw [c116]; decide) (by decide) ?_
            refine r_aload_n 108 4 C dX0_move_108 rfl ?_
            refine r_get 109 C dX0_move_109 (k := 1) 0 rfl rfl hiX0 (by decide) rfl (mg 3 rfl) (Or.inr (mg 4 rfl)) rfl ?_
            refine r_lload 112 0 C dX0_move_112 rfl ?_
            refine r_aload_n 114 4 C dX0_move_114 rfl ?_
            refine r_get 115 C dX0_move_115 (k := 0) 0 rfl rfl hiX0 (by decide) rfl (mg 1 rfl) (Or.inr (mg 2 rfl)) rfl ?_
            refine r_iload_n 118 2 C dX0_move_118 rfl ?_
            refine r_iconst 119 1 C dX0_move_119 (by decide) ?_
            obtain ⟨z118, ez118⟩ : ∃ z_9, r86 + 1 = z_9 := ⟨_, rfl⟩
            have tz118 : (Int32.toInt z118) = (Int32.toInt r86) + 1 := by rw [← ez118]; exact fb_addIv (a := 0) (b := 1) (c := 1) (d := 1) ⟨p88, p89⟩ ⟨by decide, by decide⟩ (by decide) (by decide)
            refine r_iadd 120 z118 C dX0_move_120 ez118 ?_
            refine r_callVl 121 C dX0_move_121 [.long r114, .ref h2] [(h1, .inr (6, [.ref h4, .ref h10, .int x9, .int x10])), (h4, .inl (gJ g, 48, .inr (.inl fm0)))] [(h0, .inr (0, [.ref h1, .ref h2, .ref h3, .int x1, .int x2, .long z96, .int x3, .int x4, .int x5, .int x6, .ref h7, .ref h8, .ref h9, .int x7, .int z97])), (h3, .inr (3, [.ref h11, .ref h12, .ref h13, .ref h14, .int x14, .int x15, .int x16])), (h2, .inr (5, [.ref h5, .ref h6, .int z102, .int x12, .long y1, .long y2, .int x13])), (h5, .inl (gB g, 400, .inl f103)), (h6, .inl (gJ g, 2400, .inr (.inl f104)))] (fun sz => c232_X7_get l g h1 h4 z118 h10 x9 x10 fm0 i_x9 i_x10 sz) gX0_move_X7_get rfl ⟨rfl, rfl⟩ 1 (by decide) ⟨Nat.le_of_ble_eq_true rfl, Nat.le_of_ble_eq_true rfl⟩ 5 rfl rfl [5, 6] [0, 1, 2, 3, 4] rfl rfl (by decide) (by decide) (by decide) rfl rfl (Nat.le_of_ble_eq_true rfl) ⟨Nat.le_of_ble_eq_true rfl, Nat.le_of_ble_eq_true rfl⟩ (fun r119 _ w120 => ?_)
            refine r_ws [(h0, .inr (0, [.ref h1, .ref h2, .ref h3, .int x1, .int x2, .long z96, .int x3, .int x4, .int x5, .int x6, .ref h7, .ref h8, .ref h9, .int x7, .int z97])), (h3, .inr (3, [.ref h11, .ref h12, .ref h13, .ref h14, .int x14, .int x15, .int x16])), (h2, .inr (5, [.ref h5, .ref h6, .int z102, .int x12, .long y1, .long y2, .int x13])), (h5, .inl (gB g, 400, .inl f103)), (h6, .inl (gJ g, 2400, .inr (.inl f104))), (h1, .inr (6, [.ref h4, .ref h10, .int x9, .int x10])), (h4, .inl (gJ g, 48, .inr (.inl fm0)))] rfl ?_
            have gr119 := fb_rngL r119
            refine r_callVi 124 C dX0_move_124 [] [(h2, .inr (5, [.ref h5, .ref h6, .int z102, .int x12, .long y1, .long y2, .int x13])), (h5, .inl (gB g, 400, .inl f103)), (h6, .inl (gJ g, 2400, .inr (.inl f104)))] [(h0, .inr (0, [.ref h1, .ref h2, .ref h3, .int x1, .int x2, .long z96, .int x3, .int x4, .int x5, .int x6, .ref h7, .ref h8, .ref h9, .int x7, .int z97])), (h3, .inr (3, [.ref h11, .ref h12, .ref h13, .ref h14, .int x14, .int x15, .int x16])), (h1, .inr (6, [.ref h4, .ref h10, .int x9, .int x10])), (h4, .inl (gJ g, 48, .inr (.inl fm0)))] (fun sz => c251_X6_moveBy l g h2 h5 h6 r114 r119 z102 x12 y1 y2 x13 f103 f104 ⟨p110, p111⟩ i_x12 i_x13 sz) gX0_move_X6_moveBy rfl ⟨rfl, rfl⟩ 2 (by decide) ⟨Nat.le_of_ble_eq_true rfl, Nat.le_of_ble_eq_true rfl⟩ 2 rfl rfl [2, 3, 4] [0, 1, 5, 6] rfl rfl (by decide) (by decide) (by decide) rfl rfl (Nat.le_of_ble_eq_true rfl) ⟨Nat.le_of_ble_eq_true rfl, Nat.le_of_ble_eq_true rfl⟩ (fun r126 u128 w127 => ?_)
            obtain ⟨z121, z122, z123, f124, f125⟩ := u128
            refine r_ws [(h0, .inr (0, [.ref h1, .ref h2, .ref h3, .int x1, .int x2, .long z96, .int x3, .int x4, .int x5, .int x6, .ref h7, .ref h8, .ref h9, .int x7, .int z97])), (h3, .inr (3, [.ref h11, .ref h12, .ref h13, .ref h14, .int x14, .int x15, .int x16])), (h1, .inr (6, [.ref h4, .ref h10, .int x9, .int x10])), (h4, .inl (gJ g, 48, .inr (.inl fm0))), (h2, .inr (5, [.ref h5, .ref h6, .int z121, .int x12, .long z122, .long z123, .int 0])), (h5, .inl (gB g, 400, .inl f124)), (h6, .inl (gJ g, 2400, .inr (.inl f125)))] rfl ?_
            have gz122 := fb_rngL z122
            have gz123 := fb_rngL z123
            have p129 : 0 ≤ (Int32.toInt r126) := w127.1
            have p130 : (Int32.toInt r126) ≤ 6 := w127.2.1
            have p131 : 0 ≤ (Int32.toInt z121) := w127.2.2.1
            have p132 : (Int32.toInt z121) ≤ 400 := w127.2.2.2
            exact r_iret 127 Rt dX0_move_127 (z96, z97, z121, z122, z123, 0, f124, f125) (show 0 ≤ (Int32.toInt r126) ∧ (Int32.toInt r126) ≤ 6 ∧ 0 ≤ (Int32.toInt z97) ∧ (Int32.toInt z97) ≤ 1 ∧ 0 ≤ (Int32.toInt z121) ∧ (Int32.toInt z121) ≤ 400 ∧ 0 ≤ (Int32.toInt 0) ∧ (Int32.toInt 0) ≤ 1 from ⟨(show _ ∧ _ from ⟨p129, p130⟩).1, (show _ ∧ _ from ⟨p129, p130⟩).2, (show _ ∧ _ from ⟨p100, p101⟩).1, (show _ ∧ _ from ⟨p100, p101⟩).2, (show _ ∧ _ from ⟨p131, p132⟩).1, (show _ ∧ _ from ⟨p131, p132⟩).2, (by ((repeat' apply And.intro) <;> first | trivial | rfl | assumption | omega | decide | exact Or.inl rfl | exact Or.inr (Or.inl rfl) | exact Or.inr (Or.inr rfl))), (by ((repeat' apply And.intro) <;> first | trivial | rfl | assumption | omega | decide | exact Or.inl rfl | exact Or.inr (Or.inl rfl) | exact Or.inr (Or.inr rfl)))⟩) [0, 2, 4, 1, 3, 5, 6] (by decide) rfl (Nat.le_of_ble_eq_true rfl) (Nat.le_of_ble_eq_true rfl)
          · skip
            have k133 : ¬ ((Int32.toInt x0) = 21) := fun h_9 => c116 ((fa_eq x0 21).mpr h_9)
            by_cases c134 : x0 = 22
            · skip
              have k135 : (Int32.toInt x0) = 22 := (fa_eq x0 22).mp c134
              refine r_lookup 83 128 (off := 45) C dX0_move_83 (by decide) (by rw [c134]; decide) (by decide) ?_
              refine r_aload_n 128 4 C dX0_move_128 rfl ?_
              refine r_get 129 C dX0_move_129 (k := 1) 0 rfl rfl hiX0 (by decide) rfl (mg 3 rfl) (Or.inr (mg 4 rfl)) rfl ?_
              refine r_lload 132 0 C dX0_move_132 rfl ?_
              refine r_lconst 134 0 C dX0_move_134 (by decide) ?_
              refine r_callVi 135 C dX0_move_135 [] [(h2, .inr (5, [.ref h5, .ref h6, .int z102, .int x12, .long y1, .long y2, .int x13])), (h5, .inl (gB g, 400, .inl f103)), (h6, .inl (gJ g, 2400, .inr (.inl f104)))] [(h0, .inr (0, [.ref h1, .ref h2, .ref h3, .int x1, .int x2, .long z96, .int x3, .int x4, .int x5, .int x6, .ref h7, .ref h8, .ref h9, .int x7, .int z97])), (h3, .inr (3, [.ref h11, .ref h12, .ref h13, .ref h14, .int x14, .int x15, .int x16])), (h1, .inr (6, [.ref h4, .ref h10, .int x9, .int x10])), (h4, .inl (gJ g, 48, .inr (.inl fm0)))] (fun sz => c251_X6_moveBy l g h2 h5 h6 r114 0 z102 x12 y1 y2 x13 f103 f104 ⟨p110, p111⟩ i_x12 i_x13 sz) gX0_move_X6_moveBy rfl ⟨rfl, rfl⟩ 2 (by decide) ⟨Nat.le_of_ble_eq_true rfl, Nat.le_of_ble_eq_true rfl⟩ 2 rfl rfl [2, 3, 4] [0, 1, 5, 6] rfl rfl (by decide) (by decide) (by decide) rfl rfl (Nat.le_of_ble_eq_true rfl) ⟨Nat.le_of_ble_eq_true rfl, Nat.le_of_ble_eq_true rfl⟩ (fun r141 u143 w142 => ?_)
              obtain ⟨z136, z137, z138, f139, f140⟩ := u143
              refine r_ws [(h0, .inr (0, [.ref h1, .ref h2, .ref h3, .int x1, .int x2, .long z96, .int x3, .int x4, .int x5, .int x6, .ref h7, .ref h8, .ref h9, .int x7, .int z97])), (h3, .inr (3, [.ref h11, .ref h12, .ref h13, .ref h14, .int x14, .int x15, .int x16])), (h1, .inr (6, [.ref h4, .ref h10, .int x9, .int x10])), (h4, .inl (gJ g, 48, .inr (.inl fm0))), (h2, .inr (5, [.ref h5, .ref h6, .int z136, .int x12, .long z137, .long z138, .int 0])), (h5, .inl (gB g, 400, .inl f139)), (h6, .inl (gJ g, 2400, .inr (.inl f140)))] rfl ?_
              have gz137 := fb_rngL z137
              have gz138 := fb_rngL z138
              have p144 : 0 ≤ (Int32.toInt r141) := w142.1
              have p145 : (Int32.toInt r141) ≤ 6 := w142.2.1
              have p146 : 0 ≤ (Int32.toInt z136) := w142.2.2.1
              have p147 : (Int32.toInt z136) ≤ 400 := w142.2.2.2
              exact r_iret 138 Rt dX0_move_138 (z96, z97, z136, z137, z138, 0, f139, f140) (show 0 ≤ (Int32.toInt r141) ∧ (Int32.toInt r141) ≤ 6 ∧ 0 ≤ (Int32.toInt z97) ∧ (Int32.toInt z97) ≤ 1 ∧ 0 ≤ (Int32.toInt z136) ∧ (Int32.toInt z136) ≤ 400 ∧ 0 ≤ (Int32.toInt 0) ∧ (Int32.toInt 0) ≤ 1 from ⟨(show _ ∧ _ from ⟨p144, p145⟩).1, (show _ ∧ _ from ⟨p144, p145⟩).2, (show _ ∧ _ from ⟨p100, p101⟩).1, (show _ ∧ _ from ⟨p100, p101⟩).2, (show _ ∧ _ from ⟨p146, p147⟩).1, (show _ ∧ _ from ⟨p146, p147⟩).2, (by ((repeat' apply And.intro) <;> first | trivial | rfl | assumption | omega | decide | exact Or.inl rfl | exact Or.inr (Or.inl rfl) | exact Or.inr (Or.inr rfl))), (by ((repeat' apply And.intro) <;> first | trivial | rfl | assumption | omega | decide | exact Or.inl rfl | exact Or.inr (Or.inl rfl) | exact Or.inr (Or.inr rfl)))⟩) [0, 2, 4, 1, 3, 5, 6] (by decide) rfl (Nat.le_of_ble_eq_true rfl) (Nat.le_of_ble_eq_true rfl)
            · skip
              have k148 : ¬ ((Int32.toInt x0) = 22) := fun h_9 => c134 ((fa_eq x0 22).mpr h_9)
              refine r_lookup 83 139 (off := 56) C dX0_move_83 (by decide) ((lv_osw c116 rfl).trans ((lv_osw c134 rfl).trans rfl)) (by decide) ?_
              refine r_aload_n 139 4 C dX0_move_139 rfl ?_
              refine r_get 140 C dX0_move_140 (k := 1) 0 rfl rfl hiX0 (by decide) rfl (mg 3 rfl) (Or.inr (mg 4 rfl)) rfl ?_
              refine r_lconst 143 0 C dX0_move_143 (by decide) ?_
              refine r_lload 144 0 C dX0_move_144 rfl ?_
              refine r_callVi 146 C dX0_move_146 [] [(h2, .inr (5, [.ref h5, .ref h6, .int z102, .int x12, .long y1, .long y2, .int x13])), (h5, .inl (gB g, 400, .inl f103)), (h6, .inl (gJ g, 2400, .inr (.inl f104)))] [(h0, .inr (0, [.ref h1, .ref h2, .ref h3, .int x1, .int x2, .long z96, .int x3, .int x4, .int x5, .int x6, .ref h7, .ref h8, .ref h9, .int x7, .int z97])), (h3, .inr (3, [.ref h11, .ref h12, .ref h13, .ref h14, .int x14, .int x15, .int x16])), (h1, .inr (6, [.ref h4, .ref h10, .int x9, .int x10])), (h4, .inl (gJ g, 48, .inr (.inl fm0)))] (fun sz => c251_X6_moveBy l g h2 h5 h6 0 r114 z102 x12 y1 y2 x13 f103 f104 ⟨p110, p111⟩ i_x12 i_x13 sz) gX0_move_X6_moveBy rfl ⟨rfl, rfl⟩ 2 (by decide) ⟨Nat.le_of_ble_eq_true rfl, Nat.le_of_ble_eq_true rfl⟩ 2 rfl rfl [2, 3, 4] [0, 1, 5, 6] rfl rfl (by decide) (by decide) (by decide) rfl rfl (Nat.le_of_ble_eq_true rfl) ⟨Nat.le_of_ble_eq_true rfl, Nat.le_of_ble_eq_true rfl⟩ (fun r154 u156 w155 => ?_)
              obtain ⟨z149, z150, z151, f152, f153⟩ := u156
              refine r_ws [(h0, .inr (0, [.ref h1, .ref h2, .ref h3, .int x1, .int x2, .long z96, .int x3, .int x4, .int x5, .int x6, .ref h7, .ref h8, .ref h9, .int x7, .int z97])), (h3, .inr (3, [.ref h11, .ref h12, .ref h13, .ref h14, .int x14, .int x15, .int x16])), (h1, .inr (6, [.ref h4, .ref h10, .int x9, .int x10])), (h4, .inl (gJ g, 48, .inr (.inl fm0))), (h2, .inr (5, [.ref h5, .ref h6, .int z149, .int x12, .long z150, .long z151, .int 0])), (h5, .inl (gB g, 400, .inl f152)), (h6, .inl (gJ g, 2400, .inr (.inl f153)))] rfl ?_
              have gz150 := fb_rngL z150
              have gz151 := fb_rngL z151
              have p157 : 0 ≤ (Int32.toInt r154) := w155.1
              have p158 : (Int32.toInt r154) ≤ 6 := w155.2.1
              have p159 : 0 ≤ (Int32.toInt z149) := w155.2.2.1
              have p160 : (Int32.toInt z149) ≤ 400 := w155.2.2.2
              exact r_iret 149 Rt dX0_move_149 (z96, z97, z149, z150, z151, 0, f152, f153) (show 0 ≤ (Int32.toInt r154) ∧ (Int32.toInt r154) ≤ 6 ∧ 0 ≤ (Int32.toInt z97) ∧ (Int32.toInt z97) ≤ 1 ∧ 0 ≤ (Int32.toInt z149) ∧ (Int32.toInt z149) ≤ 400 ∧ 0 ≤ (Int32.toInt 0) ∧ (Int32.toInt 0) ≤ 1 from ⟨(show _ ∧ _ from ⟨p157, p158⟩).1, (show _ ∧ _ from ⟨p157, p158⟩).2, (show _ ∧ _ from ⟨p100, p101⟩).1, (show _ ∧ _ from ⟨p100, p101⟩).2, (show _ ∧ _ from ⟨p159, p160⟩).1, (show _ ∧ _ from ⟨p159, p160⟩).2, (by ((repeat' apply And.intro) <;> first | trivial | rfl | assumption | omega | decide | exact Or.inl rfl | exact Or.inr (Or.inl rfl) | exact Or.inr (Or.inr rfl))), (by ((repeat' apply And.intro) <;> first | trivial | rfl | assumption | omega | decide | exact Or.inl rfl | exact Or.inr (Or.inl rfl) | exact Or.inr (Or.inr rfl)))⟩) [0, 2, 4, 1, 3, 5, 6] (by decide) rfl (Nat.le_of_ble_eq_true rfl) (Nat.le_of_ble_eq_true rfl)
        · skip
          have k161 : ¬ ((Int32.toInt r105) = 0) := fun h_9 => c112 ((fa_eq r105 0).mpr h_9)
          refine r_iload 69 0 C dX0_move_69 rfl ?_
          exact r_iret 71 Rt dX0_move_71 (z96, z97, z102, y1, y2, x13, f103, f104) (show 0 ≤ (Int32.toInt r105) ∧ (Int32.toInt r105) ≤ 6 ∧ 0 ≤ (Int32.toInt z97) ∧ (Int32.toInt z97) ≤ 1 ∧ 0 ≤ (Int32.toInt z102) ∧ (Int32.toInt z102) ≤ 400 ∧ 0 ≤ (Int32.toInt x13) ∧ (Int32.toInt x13) ≤ 1 from ⟨(show _ ∧ _ from ⟨p108, p109⟩).1, (show _ ∧ _ from ⟨p108, p109⟩).2, (show _ ∧ _ from ⟨p100, p101⟩).1, (show _ ∧ _ from ⟨p100, p101⟩).2, (show _ ∧ _ from ⟨p110, p111⟩).1, (show _ ∧ _ from ⟨p110, p111⟩).2, i_x13.1, i_x13.2⟩) [0, 1, 4, 2, 3, 5, 6] (by decide) rfl (Nat.le_of_ble_eq_true rfl) (Nat.le_of_ble_eq_true rfl)
      · skip
        have k162 : ¬ ((Int32.toInt z93) = 1) := fun h_9 => c94 ((fa_eq z93 1).mpr h_9)
        refine r_iconst 48 2 C dX0_move_48 (by decide) ?_
        exact r_iret 49 Rt dX0_move_49 (y0, x8, x11, y1, y2, x13, fn0, fm1) (show 0 ≤ (Int32.toInt 2) ∧ (Int32.toInt 2) ≤ 6 ∧ 0 ≤ (Int32.toInt x8) ∧ (Int32.toInt x8) ≤ 1 ∧ 0 ≤ (Int32.toInt x11) ∧ (Int32.toInt x11) ≤ 400 ∧ 0 ≤ (Int32.toInt x13) ∧ (Int32.toInt x13) ≤ 1 from ⟨(by ((repeat' apply And.intro) <;> first | trivial | rfl | assumption | omega | decide | exact Or.inl rfl | exact Or.inr (Or.inl rfl) | exact Or.inr (Or.inr rfl))), (by ((repeat' apply And.intro) <;> first | trivial | rfl | assumption | omega | decide | exact Or.inl rfl | exact Or.inr (Or.inl rfl) | exact Or.inr (Or.inr rfl))), i_x8.1, i_x8.2, i_x11.1, i_x11.2, i_x13.1, i_x13.2⟩) [5, 6, 0, 1, 2, 3, 4] (by decide) rfl (Nat.le_of_ble_eq_true rfl) (Nat.le_of_ble_eq_true rfl)
  · skip
    have k163 : (Int32.toInt x0) = 21 := (fa_eq x0 21).mp c1
    refine r_iconst 6 2 C dX0_move_6 (by decide) ?_
    refine r_goto 7 11 C dX0_move_7 (by decide) ?_
    refine r_istore_n 11 C dX0_move_11 [(2, .int 2), (0, .ref h0), (1, .int x0)] (by decide) rfl ?_
    refine r_aload_n 12 1 C dX0_move_12 rfl ?_
    refine r_aload_n 13 1 C dX0_move_13 rfl ?_
    refine r_get 14 C dX0_move_14 (k := 0) 0 rfl rfl hiX0 (by decide) rfl (mg 1 rfl) (Or.inr (mg 2 rfl)) rfl ?_
    refine r_callVi 17 C dX0_move_17 [.ref h0] [(h1, .inr (6, [.ref h4, .ref h10, .int x9, .int x10]))] [(h0, .inr (0, [.ref h1, .ref h2, .ref h3, .int x1, .int x2, .long y0, .int x3, .int x4, .int x5, .int x6, .ref h7, .ref h8, .ref h9, .int x7, .int x8])), (h2, .inr (5, [.ref h5, .ref h6, .int x11, .int x12, .long y1, .long y2, .int x13])), (h3, .inr (3, [.ref h11, .ref h12, .ref h13, .ref h14, .int x14, .int x15, .int x16])), (h4, .inl (gJ g, 48, .inr (.inl fm0))), (h5, .inl (gB g, 400, .inl fn0)), (h6, .inl (gJ g, 2400, .inr (.inl fm1)))] (fun sz => c231_X7_size l g h1 h4 h10 x9 x10 i_x9 i_x10 sz) gX0_move_X7_size rfl ⟨rfl, rfl⟩ 0 (by decide) ⟨Nat.le_of_ble_eq_true rfl, Nat.le_of_ble_eq_true rfl⟩ 1 rfl rfl [1] [0, 2, 3, 4, 5, 6] rfl rfl (by decide) (by decide) (by decide) rfl rfl (Nat.le_of_ble_eq_true rfl) ⟨Nat.le_of_ble_eq_true rfl, Nat.le_of_ble_eq_true rfl⟩ (fun r164 _ w165 => ?_)
    refine r_ws [(h0, .inr (0, [.ref h1, .ref h2, .ref h3, .int x1, .int x2, .long y0, .int x3, .int x4, .int x5, .int x6, .ref h7, .ref h8, .ref h9, .int x7, .int x8])), (h2, .inr (5, [.ref h5, .ref h6, .int x11, .int x12, .long y1, .long y2, .int x13])), (h3, .inr (3, [.ref h11, .ref h12, .ref h13, .ref h14, .int x14, .int x15, .int x16])), (h4, .inl (gJ g, 48, .inr (.inl fm0))), (h5, .inl (gB g, 400, .inl fn0)), (h6, .inl (gJ g, 2400, .inr (.inl fm1))), (h1, .inr (6, [.ref h4, .ref h10, .int x9, .int x10]))] rfl ?_
    have p166 : x9 = r164 := (w165).symm
    subst p166
    refine r_iload_n 20 0 C dX0_move_20 rfl ?_
    refine r_iconst 21 1 C dX0_move_21 (by decide) ?_
    refine r_iadd 22 3 C dX0_move_22 (by decide) ?_
    refine r_icmp_ne 23 30 C dX0_move_23 (by decide) (fun c167 => ?_) (fun c167 => ?_)
    · skip
      have k168 : ¬ ((Int32.toInt x9) = 3) := fun h_9 => c167 ((fa_eq x9 3).mpr h_9)
      refine r_iconst 30 0 C dX0_move_30 (by decide) ?_
      refine r_callVi 31 C dX0_move_31 [] [(h0, .inr (0, [.ref h1, .ref h2, .ref h3, .int x1, .int x2, .long y0, .int x3, .int x4, .int x5, .int x6, .ref h7, .ref h8, .ref h9, .int x7, .int x8]))] [(h2, .inr (5, [.ref h5, .ref h6, .int x11, .int x12, .long y1, .long y2, .int x13])), (h3, .inr (3, [.ref h11, .ref h12, .ref h13, .ref h14, .int x14, .int x15, .int x16])), (h4, .inl (gJ g, 48, .inr (.inl fm0))), (h5, .inl (gB g, 400, .inl fn0)), (h6, .inl (gJ g, 2400, .inr (.inl fm1))), (h1, .inr (6, [.ref h4, .ref h10, .int x9, .int x10]))] (fun sz => c288_X0_widthsShare l g h0 0 h1 h2 h3 x1 x2 y0 x3 x4 x5 x6 h7 h8 h9 x7 x8 (by decide) i_x6 i_x7 i_x8 sz) gX0_move_X0_widthsShare rfl ⟨rfl, rfl⟩ 1 (by decide) ⟨Nat.le_of_ble_eq_true rfl, Nat.le_of_ble_eq_true rfl⟩ 0 rfl rfl [0] [1, 2, 3, 4, 5, 6] rfl rfl (by decide) (by decide) (by decide) rfl rfl (Nat.le_of_ble_eq_true rfl) ⟨Nat.le_of_ble_eq_true rfl, Nat.le_of_ble_eq_true rfl⟩ (fun r169 _ w170 => ?_)
      refine r_ws [(h2, .inr (5, [.ref h5, .ref h6, .int x11, .int x12, .long y1, .long y2, .int x13])), (h3, .inr (3, [.ref h11, .ref h12, .ref h13, .ref h14, .int x14, .int x15, .int x16])), (h4, .inl (gJ g, 48, .inr (.inl fm0))), (h5, .inl (gB g, 400, .inl fn0)), (h6, .inl (gJ g, 2400, .inr (.inl fm1))), (h1, .inr (6, [.ref h4, .ref h10, .int x9, .int x10])), (h0, .inr (0, [.ref h1, .ref h2, .ref h3, .int x1, .int x2, .long y0, .int x3, .int x4, .int x5, .int x6, .ref h7, .ref h8, .ref h9, .int x7, .int x8]))] rfl ?_
      have p171 : 0 ≤ (Int32.toInt r169) := w170.1
      have p172 : (Int32.toInt r169) ≤ 1 := w170.2
      refine r_istore_n 34 C dX0_move_34 [(3, .int r169), (2, .int 2), (0, .ref h0), (1, .int x0)] (by decide) rfl ?_
      refine r_aload_n 35 2 C dX0_move_35 rfl ?_
      refine r_get 36 C dX0_move_36 (k := 0) 6 rfl rfl hiX0 (by decide) rfl (mg 1 rfl) (Or.inr (mg 2 rfl)) rfl ?_
      refine r_callVi 39 C dX0_move_39 [] [(h1, .inr (6, [.ref h4, .ref h10, .int x9, .int x10]))] [(h2, .inr (5, [.ref h5, .ref h6, .int x11, .int x12, .long y1, .long y2, .int x13])), (h3, .inr (3, [.ref h11, .ref h12, .ref h13, .ref h14, .int x14, .int x15, .int x16])), (h4, .inl (gJ g, 48, .inr (.inl fm0))), (h5, .inl (gB g, 400, .inl fn0)), (h6, .inl (gJ g, 2400, .inr (.inl fm1))), (h0, .inr (0, [.ref h1, .ref h2, .ref h3, .int x1, .int x2, .long y0, .int x3, .int x4, .int x5, .int x6, .ref h7, .ref h8, .ref h9, .int x7, .int x8]))] (fun sz => c231_X7_size l g h1 h4 h10 x9 x10 i_x9 i_x10 sz) gX0_move_X7_size rfl ⟨rfl, rfl⟩ 0 (by decide) ⟨Nat.le_of_ble_eq_true rfl, Nat.le_of_ble_eq_true rfl⟩ 5 rfl rfl [5] [0, 1, 2, 3, 4, 6] rfl rfl (by decide) (by decide) (by decide) rfl rfl (Nat.le_of_ble_eq_true rfl) ⟨Nat.le_of_ble_eq_true rfl, Nat.le_of_ble_eq_true rfl⟩ (fun r173 _ w174 => ?_)
      refine r_ws [(h2, .inr (5, [.ref h5, .ref h6, .int x11, .int x12, .long y1, .long y2, .int x13])), (h3, .inr (3, [.ref h11, .ref h12, .ref h13, .ref h14, .int x14, .int x15, .int x16])), (h4, .inl (gJ g, 48, .inr (.inl fm0))), (h5, .inl (gB g, 400, .inl fn0)), (h6, .inl (gJ g, 2400, .inr (.inl fm1))), (h0, .inr (0, [.ref h1, .ref h2, .ref h3, .int x1, .int x2, .long y0, .int x3, .int x4, .int x5, .int x6, .ref h7, .ref h8, .ref h9, .int x7, .int x8])), (h1, .inr (6, [.ref h4, .ref h10, .int x9, .int x10]))] rfl ?_
      have p175 : x9 = r173 := (w174).symm
      subst p175
      refine r_iload_n 42 0 C dX0_move_42 rfl ?_
      obtain ⟨z176, ez176⟩ : ∃ z_9, x9 - r169 = z_9 := ⟨_, rfl⟩
      have tz176 : (Int32.toInt z176) = (Int32.toInt x9) - (Int32.toInt r169) := by rw [← ez176]; exact fb_subIv (a := 0) (b := 48) (c := 0) (d := 1) i_x9 ⟨p171, p172⟩ (by decide) (by decide)
      refine r_isub 43 z176 C dX0_move_43 ez176 ?_
      refine r_iload_n 44 1 C dX0_move_44 rfl ?_
      refine r_icmp_eq 45 50 C dX0_move_45 (by decide) (fun c177 => ?_) (fun c177 => ?_)
      · skip
        have k178 : (Int32.toInt z176) = 2 := (fa_eq z176 2).mp c177
        refine r_aload_n 50 2 C dX0_move_50 rfl ?_
        refine r_iload_n 51 0 C dX0_move_51 rfl ?_
        refine r_callVv 52 C dX0_move_52 [] [(h0, .inr (0, [.ref h1, .ref h2, .ref h3, .int x1, .int x2, .long y0, .int x3, .int x4, .int x5, .int x6, .ref h7, .ref h8, .ref h9, .int x7, .int x8])), (h1, .inr (6, [.ref h4, .ref h10, .int x9, .int x10])), (h3, .inr (3, [.ref h11, .ref h12, .ref h13, .ref h14, .int x14, .int x15, .int x16])), (h4, .inl (gJ g, 48, .inr (.inl fm0)))] [(h2, .inr (5, [.ref h5, .ref h6, .int x11, .int x12, .long y1, .long y2, .int x13])), (h5, .inl (gB g, 400, .inl fn0)), (h6, .inl (gJ g, 2400, .inr (.inl fm1)))] (fun sz => c289_X0_tellWidth l g h0 h1 h3 h4 r169 h2 x1 x2 y0 x3 x4 x5 x6 h7 h8 h9 x7 x8 h10 x9 x10 h11 h12 h13 h14 x14 x15 x16 fm0 i_x6 i_x7 i_x8 i_x9 i_x10 sz) gX0_move_X0_tellWidth rfl ⟨rfl, rfl⟩ 1 (by decide) ⟨Nat.le_of_ble_eq_true rfl, Nat.le_of_ble_eq_true rfl⟩ 5 rfl rfl [5, 6, 1, 2] [0, 3, 4] rfl rfl (by decide) (by decide) (by decide) rfl rfl (Nat.le_of_ble_eq_true rfl) ⟨Nat.le_of_ble_eq_true rfl, Nat.le_of_ble_eq_true rfl⟩ (fun  u182 w181 => ?_)
        obtain ⟨z179, z180⟩ := u182
        refine r_ws [(h2, .inr (5, [.ref h5, .ref h6, .int x11, .int x12, .long y1, .long y2, .int x13])), (h5, .inl (gB g, 400, .inl fn0)), (h6, .inl (gJ g, 2400, .inr (.inl fm1))), (h0, .inr (0, [.ref h1, .ref h2, .ref h3, .int x1, .int x2, .long z179, .int x3, .int x4, .int x5, .int x6, .ref h7, .ref h8, .ref h9, .int x7, .int z180])), (h1, .inr (6, [.ref h4, .ref h10, .int x9, .int x10])), (h3, .inr (3, [.ref h11, .ref h12, .ref h13, .ref h14, .int x14, .int x15, .int x16])), (h4, .inl (gJ g, 48, .inr (.inl fm0)))] rfl ?_
        have gz179 := fb_rngL z179
        have p183 : 0 ≤ (Int32.toInt z180) := w181.1
        have p184 : (Int32.toInt z180) ≤ 1 := w181.2
        refine r_aload_n 55 2 C dX0_move_55 rfl ?_
        refine r_get 56 C dX0_move_56 (k := 1) 3 rfl rfl hiX0 (by decide) rfl (mg 3 rfl) (Or.inr (mg 4 rfl)) rfl ?_
        refine r_callVi 59 C dX0_move_59 [] [(h2, .inr (5, [.ref h5, .ref h6, .int x11, .int x12, .long y1, .long y2, .int x13])), (h5, .inl (gB g, 400, .inl fn0)), (h6, .inl (gJ g, 2400, .inr (.inl fm1)))] [(h0, .inr (0, [.ref h1, .ref h2, .ref h3, .int x1, .int x2, .long z179, .int x3, .int x4, .int x5, .int x6, .ref h7, .ref h8, .ref h9, .int x7, .int z180])), (h1, .inr (6, [.ref h4, .ref h10, .int x9, .int x10])), (h3, .inr (3, [.ref h11, .ref h12, .ref h13, .ref h14, .int x14, .int x15, .int x16])), (h4, .inl (gJ g, 48, .inr (.inl fm0)))] (fun sz => c290_X6_closeIfOpen l g h2 h5 h6 x11 x12 y1 y2 x13 fn0 fm1 i_x11 i_x12 i_x13 sz) gX0_move_X6_closeIfOpen rfl ⟨rfl, rfl⟩ 0 (by decide) ⟨Nat.le_of_ble_eq_true rfl, Nat.le_of_ble_eq_true rfl⟩ 0 rfl rfl [0, 1, 2] [3, 4, 5, 6] rfl rfl (by decide) (by decide) (by decide) rfl rfl (Nat.le_of_ble_eq_true rfl) ⟨Nat.le_of_ble_eq_true rfl, Nat.le_of_ble_eq_true rfl⟩ (fun r188 u190 w189 => ?_)
        obtain ⟨z185, f186, f187⟩ := u190
        refine r_ws [(h0, .inr (0, [.ref h1, .ref h2, .ref h3, .int x1, .int x2, .long z179, .int x3, .int x4, .int x5, .int x6, .ref h7, .ref h8, .ref h9, .int x7, .int z180])), (h1, .inr (6, [.ref h4, .ref h10, .int x9, .int x10])), (h3, .inr (3, [.ref h11, .ref h12, .ref h13, .ref h14, .int x14, .int x15, .int x16])), (h4, .inl (gJ g, 48, .inr (.inl fm0))), (h2, .inr (5, [.ref h5, .ref h6, .int z185, .int x12, .long y1, .long y2, .int x13])), (h5, .inl (gB g, 400, .inl f186)), (h6, .inl (gJ g, 2400, .inr (.inl f187)))] rfl ?_
        have p191 : 0 ≤ (Int32.toInt r188) := w189.1
        have p192 : (Int32.toInt r188) ≤ 6 := w189.2.1
        have p193 : 0 ≤ (Int32.toInt z185) := w189.2.2.1
        have p194 : (Int32.toInt z185) ≤ 400 := w189.2.2.2
        refine r_istore 62 C dX0_move_62 [(4, .int r188), (3, .int r169), (2, .int 2), (0, .ref h0), (1, .int x0)] (by decide) rfl ?_
        refine r_iload 64 0 C dX0_move_64 rfl ?_
        refine r_if_eq 66 72 C dX0_move_66 (by decide) (fun c195 => ?_) (fun c195 => ?_)
        · skip
          have k196 : (Int32.toInt r188) = 0 := (fa_eq r188 0).mp c195
          refine r_aload_n 72 3 C dX0_move_72 rfl ?_
          refine r_get 73 C dX0_move_73 (k := 0) 0 rfl rfl hiX0 (by decide) rfl (mg 1 rfl) (Or.inr (mg 2 rfl)) rfl ?_
          refine r_iload_n 76 1 C dX0_move_76 rfl ?_
          refine r_callVl 77 C dX0_move_77 [] [(h1, .inr (6, [.ref h4, .ref h10, .int x9, .int x10])), (h4, .inl (gJ g, 48, .inr (.inl fm0)))] [(h0, .inr (0, [.ref h1, .ref h2, .ref h3, .int x1, .int x2, .long z179, .int x3, .int x4, .int x5, .int x6, .ref h7, .ref h8, .ref h9, .int x7, .int z180])), (h3, .inr (3, [.ref h11, .ref h12, .ref h13, .ref h14, .int x14, .int x15, .int x16])), (h2, .inr (5, [.ref h5, .ref h6, .int z185, .int x12, .long y1, .long y2, .int x13])), (h5, .inl (gB g, 400, .inl f186)), (h6, .inl (gJ g, 2400, .inr (.inl f187)))] (fun sz => c232_X7_get l g h1 h4 r169 h10 x9 x10 fm0 i_x9 i_x10 sz) gX0_move_X7_get rfl ⟨rfl, rfl⟩ 1 (by decide) ⟨Nat.le_of_ble_eq_true rfl, Nat.le_of_ble_eq_true rfl⟩ 1 rfl rfl [1, 3] [0, 2, 4, 5, 6] rfl rfl (by decide) (by decide) (by decide) rfl rfl (Nat.le_of_ble_eq_true rfl) ⟨Nat.le_of_ble_eq_true rfl, Nat.le_of_ble_eq_true rfl⟩ (fun r197 _ w198 => ?_)
          refine r_ws [(h0, .inr (0, [.ref h1, .ref h2, .ref h3, .int x1, .int x2, .long z179, .int x3, .int x4, .int x5, .int x6, .ref h7, .ref h8, .ref h9, .int x7, .int z180])), (h3, .inr (3, [.ref h11, .ref h12, .ref h13, .ref h14, .int x14, .int x15, .int x16])), (h2, .inr (5, [.ref h5, .ref h6, .int z185, .int x12, .long y1, .long y2, .int x13])), (h5, .inl (gB g, 400, .inl f186)), (h6, .inl (gJ g, 2400, .inr (.inl f187))), (h1, .inr (6, [.ref h4, .ref h10, .int x9, .int x10])), (h4, .inl (gJ g, 48, .inr (.inl fm0)))] rfl ?_
          have gr197 := fb_rngL r197
          refine r_lstore 80 C dX0_move_80 [(5, .long r197), (4, .int r188), (3, .int r169), (2, .int 2), (0, .ref h0), (1, .int x0)] (by decide) rfl ?_
          refine r_iload_n 82 5 C dX0_move_82 rfl ?_
          by_cases c199 : x0 = 21
          · skip
            have k200 : (Int32.toInt x0) = 21 := (fa_eq x0 21).mp c199
            refine r_lookup 83 108 (off := 25) C dX0_move_83 (by decide) (by rw [c199]; decide) (by decide) ?_
            refine r_aload_n 108 4 C dX0_move_108 rfl ?_
            refine r_get 109 C dX0_move_109 (k := 1) 0 rfl rfl hiX0 (by decide) rfl (mg 3 rfl) (Or.inr (mg 4 rfl)) rfl ?_
            refine r_lload 112 0 C dX0_move_112 rfl ?_
            refine r_aload_n 114 4 C dX0_move_114 rfl ?_
            refine r_get 115 C dX0_move_115 (k := 0) 0 rfl rfl hiX0 (by decide) rfl (mg 1 rfl) (Or.inr (mg 2 rfl)) rfl ?_
            refine r_iload_n 118 2 C dX0_move_118 rfl ?_
            refine r_iconst 119 1 C dX0_move_119 (by decide) ?_
            obtain ⟨z201, ez201⟩ : ∃ z_9, r169 + 1 = z_9 := ⟨_, rfl⟩
            have tz201 : (Int32.toInt z201) = (Int32.toInt r169) + 1 := by rw [← ez201]; exact fb_addIv (a := 0) (b := 1) (c := 1) (d := 1) ⟨p171, p172⟩ ⟨by decide, by decide⟩ (by decide) (by decide)
            refine r_iadd 120 z201 C dX0_move_120 ez201 ?_
            refine r_callVl 121 C dX0_move_121 [.long r197, .ref h2] [(h1, .inr (6, [.ref h4, .ref h10, .int x9, .int x10])), (h4, .inl (gJ g, 48, .inr (.inl fm0)))] [(h0, .inr (0, [.ref h1, .ref h2, .ref h3, .int x1, .int x2, .long z179, .int x3, .int x4, .int x5, .int x6, .ref h7, .ref h8, .ref h9, .int x7, .int z180])), (h3, .inr (3, [.ref h11, .ref h12, .ref h13, .ref h14, .int x14, .int x15, .int x16])), (h2, .inr (5, [.ref h5, .ref h6, .int z185, .int x12, .long y1, .long y2, .int x13])), (h5, .inl (gB g, 400, .inl f186)), (h6, .inl (gJ g, 2400, .inr (.inl f187)))] (fun sz => c232_X7_get l g h1 h4 z201 h10 x9 x10 fm0 i_x9 i_x10 sz) gX0_move_X7_get rfl ⟨rfl, rfl⟩ 1 (by decide) ⟨Nat.le_of_ble_eq_true rfl, Nat.le_of_ble_eq_true rfl⟩ 5 rfl rfl [5, 6] [0, 1, 2, 3, 4] rfl rfl (by decide) (by decide) (by decide) rfl rfl (Nat.le_of_ble_eq_true rfl) ⟨Nat.le_of_ble_eq_true rfl, Nat.le_of_ble_eq_true rfl⟩ (fun r202 _ w203 => ?_)
            refine r_ws [(h0, .inr (0, [.ref h1, .ref h2, .ref h3, .int x1, .int x2, .long z179, .int x3, .int x4, .int x5, .int x6, .ref h7, .ref h8, .ref h9, .int x7, .int z180])), (h3, .inr (3, [.ref h11, .ref h12, .ref h13, .ref h14, .int x14, .int x15, .int x16])), (h2, .inr (5, [.ref h5, .ref h6, .int z185, .int x12, .long y1, .long y2, .int x13])), (h5, .inl (gB g, 400, .inl f186)), (h6, .inl (gJ g, 2400, .inr (.inl f187))), (h1, .inr (6, [.ref h4, .ref h10, .int x9, .int x10])), (h4, .inl (gJ g, 48, .inr (.inl fm0)))] rfl ?_
            have gr202 := fb_rngL r202
            refine r_callVi 124 C dX0_move_124 [] [(h2, .inr (5, [.ref h5, .ref h6, .int z185, .int x12, .long y1, .long y2, .int x13])), (h5, .inl (gB g, 400, .inl f186)), (h6, .inl (gJ g, 2400, .inr (.inl f187)))] [(h0, .inr (0, [.ref h1, .ref h2, .ref h3, .int x1, .int x2, .long z179, .int x3, .int x4, .int x5, .int x6, .ref h7, .ref h8, .ref h9, .int x7, .int z180])), (h3, .inr (3, [.ref h11, .ref h12, .ref h13, .ref h14, .int x14, .int x15, .int x16])), (h1, .inr (6, [.ref h4, .ref h10, .int x9, .int x10])), (h4, .inl (gJ g, 48, .inr (.inl fm0)))] (fun sz => c251_X6_moveBy l g h2 h5 h6 r197 r202 z185 x12 y1 y2 x13 f186 f187 ⟨p193, p194⟩ i_x12 i_x13 sz) gX0_move_X6_moveBy rfl ⟨rfl, rfl⟩ 2 (by decide) ⟨Nat.le_of_ble_eq_true rfl, Nat.le_of_ble_eq_true rfl⟩ 2 rfl rfl [2, 3, 4] [0, 1, 5, 6] rfl rfl (by decide) (by decide) (by decide) rfl rfl (Nat.le_of_ble_eq_true rfl) ⟨Nat.le_of_ble_eq_true rfl, Nat.le_of_ble_eq_true rfl⟩ (fun r209 u211 w210 => ?_)
            obtain ⟨z204, z205, z206, f207, f208⟩ := u211
            refine r_ws [(h0, .inr (0, [.ref h1, .ref h2, .ref h3, .int x1, .int x2, .long z179, .int x3, .int x4, .int x5, .int x6, .ref h7, .ref h8, .ref h9, .int x7, .int z180])), (h3, .inr (3, [.ref h11, .ref h12, .ref h13, .ref h14, .int x14, .int x15, .int x16])), (h1, .inr (6, [.ref h4, .ref h10, .int x9, .int x10])), (h4, .inl (gJ g, 48, .inr (.inl fm0))), (h2, .inr (5, [.ref h5, .ref h6, .int z204, .int x12, .long z205, .long z206, .int 0])), (h5, .inl (gB g, 400, .inl f207)), (h6, .inl (gJ g, 2400, .inr (.inl f208)))] rfl ?_
            have gz205 := fb_rngL z205
            have gz206 := fb_rngL z206
            have p212 : 0 ≤ (Int32.toInt r209) := w210.1
            have p213 : (Int32.toInt r209) ≤ 6 := w210.2.1
            have p214 : 0 ≤ (Int32.toInt z204) := w210.2.2.1
            have p215 : (Int32.toInt z204) ≤ 400 := w210.2.2.2
            exact r_iret 127 Rt dX0_move_127 (z179, z180, z204, z205, z206, 0, f207, f208) (show 0 ≤ (Int32.toInt r209) ∧ (Int32.toInt r209) ≤ 6 ∧ 0 ≤ (Int32.toInt z180) ∧ (Int32.toInt z180) ≤ 1 ∧ 0 ≤ (Int32.toInt z204) ∧ (Int32.toInt z204) ≤ 400 ∧ 0 ≤ (Int32.toInt 0) ∧ (Int32.toInt 0) ≤ 1 from ⟨(show _ ∧ _ from ⟨p212, p213⟩).1, (show _ ∧ _ from ⟨p212, p213⟩).2, (show _ ∧ _ from ⟨p183, p184⟩).1, (show _ ∧ _ from ⟨p183, p184⟩).2, (show _ ∧ _ from ⟨p214, p215⟩).1, (show _ ∧ _ from ⟨p214, p215⟩).2, (by ((repeat' apply And.intro) <;> first | trivial | rfl | assumption | omega | decide | exact Or.inl rfl | exact Or.inr (Or.inl rfl) | exact Or.inr (Or.inr rfl))), (by ((repeat' apply And.intro) <;> first | trivial | rfl | assumption | omega | decide | exact Or.inl rfl | exact Or.inr (Or.inl rfl) | exact Or.inr (Or.inr rfl)))⟩) [0, 2, 4, 1, 3, 5, 6] (by decide) rfl (Nat.le_of_ble_eq_true rfl) (Nat.le_of_ble_eq_true rfl)
          · skip
            have k216 : ¬ ((Int32.toInt x0) = 21) := fun h_9 => c199 ((fa_eq x0 21).mpr h_9)
            by_cases c217 : x0 = 22
            · skip
              have k218 : (Int32.toInt x0) = 22 := (fa_eq x0 22).mp c217
              exact absurd trivial (by omega)
            · skip
              have k219 : ¬ ((Int32.toInt x0) = 22) := fun h_9 => c217 ((fa_eq x0 22).mpr h_9)
              refine r_lookup 83 139 (off := 56) C dX0_move_83 (by decide) ((lv_osw c199 rfl).trans ((lv_osw c217 rfl).trans rfl)) (by decide) ?_
              refine r_aload_n 139 4 C dX0_move_139 rfl ?_
              refine r_get 140 C dX0_move_140 (k := 1) 0 rfl rfl hiX0 (by decide) rfl (mg 3 rfl) (Or.inr (mg 4 rfl)) rfl ?_
              refine r_lconst 143 0 C dX0_move_143 (by decide) ?_
              refine r_lload 144 0 C dX0_move_144 rfl ?_
              refine r_callVi 146 C dX0_move_146 [] [(h2, .inr (5, [.ref h5, .ref h6, .int z185, .int x12, .long y1, .long y2, .int x13])), (h5, .inl (gB g, 400, .inl f186)), (h6, .inl (gJ g, 2400, .inr (.inl f187)))] [(h0, .inr (0, [.ref h1, .ref h2, .ref h3, .int x1, .int x2, .long z179, .int x3, .int x4, .int x5, .int x6, .ref h7, .ref h8, .ref h9, .int x7, .int z180])), (h3, .inr (3, [.ref h11, .ref h12, .ref h13, .ref h14, .int x14, .int x15, .int x16])), (h1, .inr (6, [.ref h4, .ref h10, .int x9, .int x10])), (h4, .inl (gJ g, 48, .inr (.inl fm0)))] (fun sz => c251_X6_moveBy l g h2 h5 h6 0 r197 z185 x12 y1 y2 x13 f186 f187 ⟨p193, p194⟩ i_x12 i_x13 sz) gX0_move_X6_moveBy rfl ⟨rfl, rfl⟩ 2 (by decide) ⟨Nat.le_of_ble_eq_true rfl, Nat.le_of_ble_eq_true rfl⟩ 2 rfl rfl [2, 3, 4] [0, 1, 5, 6] rfl rfl (by decide) (by decide) (by decide) rfl rfl (Nat.le_of_ble_eq_true rfl) ⟨Nat.le_of_ble_eq_true rfl, Nat.le_of_ble_eq_true rfl⟩ (fun r225 u227 w226 => ?_)
              obtain ⟨z220, z221, z222, f223, f224⟩ := u227
              refine r_ws [(h0, .inr (0, [.ref h1, .ref h2, .ref h3, .int x1, .int x2, .long z179, .int x3, .int x4, .int x5, .int x6, .ref h7, .ref h8, .ref h9, .int x7, .int z180])), (h3, .inr (3, [.ref h11, .ref h12, .ref h13, .ref h14, .int x14, .int x15, .int x16])), (h1, .inr (6, [.ref h4, .ref h10, .int x9, .int x10])), (h4, .inl (gJ g, 48, .inr (.inl fm0))), (h2, .inr (5, [.ref h5, .ref h6, .int z220, .int x12, .long z221, .long z222, .int 0])), (h5, .inl (gB g, 400, .inl f223)), (h6, .inl (gJ g, 2400, .inr (.inl f224)))] rfl ?_
              have gz221 := fb_rngL z221
              have gz222 := fb_rngL z222
              have p228 : 0 ≤ (Int32.toInt r225) := w226.1
              have p229 : (Int32.toInt r225) ≤ 6 := w226.2.1
              have p230 : 0 ≤ (Int32.toInt z220) := w226.2.2.1
              have p231 : (Int32.toInt z220) ≤ 400 := w226.2.2.2
              exact r_iret 149 Rt dX0_move_149 (z179, z180, z220, z221, z222, 0, f223, f224) (show 0 ≤ (Int32.toInt r225) ∧ (Int32.toInt r225) ≤ 6 ∧ 0 ≤ (Int32.toInt z180) ∧ (Int32.toInt z180) ≤ 1 ∧ 0 ≤ (Int32.toInt z220) ∧ (Int32.toInt z220) ≤ 400 ∧ 0 ≤ (Int32.toInt 0) ∧ (Int32.toInt 0) ≤ 1 from ⟨(show _ ∧ _ from ⟨p228, p229⟩).1, (show _ ∧ _ from ⟨p228, p229⟩).2, (show _ ∧ _ from ⟨p183, p184⟩).1, (show _ ∧ _ from ⟨p183, p184⟩).2, (show _ ∧ _ from ⟨p230, p231⟩).1, (show _ ∧ _ from ⟨p230, p231⟩).2, (by ((repeat' apply And.intro) <;> first | trivial | rfl | assumption | omega | decide | exact Or.inl rfl | exact Or.inr (Or.inl rfl) | exact Or.inr (Or.inr rfl))), (by ((repeat' apply And.intro) <;> first | trivial | rfl | assumption | omega | decide | exact Or.inl rfl | exact Or.inr (Or.inl rfl) | exact Or.inr (Or.inr rfl)))⟩) [0, 2, 4, 1, 3, 5, 6] (by decide) rfl (Nat.le_of_ble_eq_true rfl) (Nat.le_of_ble_eq_true rfl)
        · skip
          have k232 : ¬ ((Int32.toInt r188) = 0) := fun h_9 => c195 ((fa_eq r188 0).mpr h_9)
          refine r_iload 69 0 C dX0_move_69 rfl ?_
          exact r_iret 71 Rt dX0_move_71 (z179, z180, z185, y1, y2, x13, f186, f187) (show 0 ≤ (Int32.toInt r188) ∧ (Int32.toInt r188) ≤ 6 ∧ 0 ≤ (Int32.toInt z180) ∧ (Int32.toInt z180) ≤ 1 ∧ 0 ≤ (Int32.toInt z185) ∧ (Int32.toInt z185) ≤ 400 ∧ 0 ≤ (Int32.toInt x13) ∧ (Int32.toInt x13) ≤ 1 from ⟨(show _ ∧ _ from ⟨p191, p192⟩).1, (show _ ∧ _ from ⟨p191, p192⟩).2, (show _ ∧ _ from ⟨p183, p184⟩).1, (show _ ∧ _ from ⟨p183, p184⟩).2, (show _ ∧ _ from ⟨p193, p194⟩).1, (show _ ∧ _ from ⟨p193, p194⟩).2, i_x13.1, i_x13.2⟩) [0, 1, 4, 2, 3, 5, 6] (by decide) rfl (Nat.le_of_ble_eq_true rfl) (Nat.le_of_ble_eq_true rfl)
      · skip
        have k233 : ¬ ((Int32.toInt z176) = 2) := fun h_9 => c177 ((fa_eq z176 2).mpr h_9)
        refine r_iconst 48 2 C dX0_move_48 (by decide) ?_
        exact r_iret 49 Rt dX0_move_49 (y0, x8, x11, y1, y2, x13, fn0, fm1) (show 0 ≤ (Int32.toInt 2) ∧ (Int32.toInt 2) ≤ 6 ∧ 0 ≤ (Int32.toInt x8) ∧ (Int32.toInt x8) ≤ 1 ∧ 0 ≤ (Int32.toInt x11) ∧ (Int32.toInt x11) ≤ 400 ∧ 0 ≤ (Int32.toInt x13) ∧ (Int32.toInt x13) ≤ 1 from ⟨(by ((repeat' apply And.intro) <;> first | trivial | rfl | assumption | omega | decide | exact Or.inl rfl | exact Or.inr (Or.inl rfl) | exact Or.inr (Or.inr rfl))), (by ((repeat' apply And.intro) <;> first | trivial | rfl | assumption | omega | decide | exact Or.inl rfl | exact Or.inr (Or.inl rfl) | exact Or.inr (Or.inr rfl))), i_x8.1, i_x8.2, i_x11.1, i_x11.2, i_x13.1, i_x13.2⟩) [5, 6, 0, 1, 2, 3, 4] (by decide) rfl (Nat.le_of_ble_eq_true rfl) (Nat.le_of_ble_eq_true rfl)
    · skip
      have k234 : (Int32.toInt x9) = 3 := (fa_eq x9 3).mp c167
      refine r_iconst 26 1 C dX0_move_26 (by decide) ?_
      refine r_goto 27 31 C dX0_move_27 (by decide) ?_
      refine r_callVi 31 C dX0_move_31 [] [(h0, .inr (0, [.ref h1, .ref h2, .ref h3, .int x1, .int x2, .long y0, .int x3, .int x4, .int x5, .int x6, .ref h7, .ref h8, .ref h9, .int x7, .int x8]))] [(h2, .inr (5, [.ref h5, .ref h6, .int x11, .int x12, .long y1, .long y2, .int x13])), (h3, .inr (3, [.ref h11, .ref h12, .ref h13, .ref h14, .int x14, .int x15, .int x16])), (h4, .inl (gJ g, 48, .inr (.inl fm0))), (h5, .inl (gB g, 400, .inl fn0)), (h6, .inl (gJ g, 2400, .inr (.inl fm1))), (h1, .inr (6, [.ref h4, .ref h10, .int x9, .int x10]))] (fun sz => c288_X0_widthsShare l g h0 1 h1 h2 h3 x1 x2 y0 x3 x4 x5 x6 h7 h8 h9 x7 x8 (by decide) i_x6 i_x7 i_x8 sz) gX0_move_X0_widthsShare rfl ⟨rfl, rfl⟩ 1 (by decide) ⟨Nat.le_of_ble_eq_true rfl, Nat.le_of_ble_eq_true rfl⟩ 0 rfl rfl [0] [1, 2, 3, 4, 5, 6] rfl rfl (by decide) (by decide) (by decide) rfl rfl (Nat.le_of_ble_eq_true rfl) ⟨Nat.le_of_ble_eq_true rfl, Nat.le_of_ble_eq_true rfl⟩ (fun r235 _ w236 => ?_)
      refine r_ws [(h2, .inr (5, [.ref h5, .ref h6, .int x11, .int x12, .long y1, .long y2, .int x13])), (h3, .inr (3, [.ref h11, .ref h12, .ref h13, .ref h14, .int x14, .int x15, .int x16])), (h4, .inl (gJ g, 48, .inr (.inl fm0))), (h5, .inl (gB g, 400, .inl fn0)), (h6, .inl (gJ g, 2400, .inr (.inl fm1))), (h1, .inr (6, [.ref h4, .ref h10, .int x9, .int x10])), (h0, .inr (0, [.ref h1, .ref h2, .ref h3, .int x1, .int x2, .long y0, .int x3, .int x4, .int x5, .int x6, .ref h7, .ref h8, .ref h9, .int x7, .int x8]))] rfl ?_
      have p237 : 0 ≤ (Int32.toInt r235) := w236.1
      have p238 : (Int32.toInt r235) ≤ 1 := w236.2
      refine r_istore_n 34 C dX0_move_34 [(3, .int r235), (2, .int 2), (0, .ref h0), (1, .int x0)] (by decide) rfl ?_
      refine r_aload_n 35 2 C dX0_move_35 rfl ?_
      refine r_get 36 C dX0_move_36 (k := 0) 6 rfl rfl hiX0 (by decide) rfl (mg 1 rfl) (Or.inr (mg 2 rfl)) rfl ?_
      refine r_callVi 39 C dX0_move_39 [] [(h1, .inr (6, [.ref h4, .ref h10, .int x9, .int x10]))] [(h2, .inr (5, [.ref h5, .ref h6, .int x11, .int x12, .long y1, .long y2, .int x13])), (h3, .inr (3, [.ref h11, .ref h12, .ref h13, .ref h14, .int x14, .int x15, .int x16])), (h4, .inl (gJ g, 48, .inr (.inl fm0))), (h5, .inl (gB g, 400, .inl fn0)), (h6, .inl (gJ g, 2400, .inr (.inl fm1))), (h0, .inr (0, [.ref h1, .ref h2, .ref h3, .int x1, .int x2, .long y0, .int x3, .int x4, .int x5, .int x6, .ref h7, .ref h8, .ref h9, .int x7, .int x8]))] (fun sz => c231_X7_size l g h1 h4 h10 x9 x10 i_x9 i_x10 sz) gX0_move_X7_size rfl ⟨rfl, rfl⟩ 0 (by decide) ⟨Nat.le_of_ble_eq_true rfl, Nat.le_of_ble_eq_true rfl⟩ 5 rfl rfl [5] [0, 1, 2, 3, 4, 6] rfl rfl (by decide) (by decide) (by decide) rfl rfl (Nat.le_of_ble_eq_true rfl) ⟨Nat.le_of_ble_eq_true rfl, Nat.le_of_ble_eq_true rfl⟩ (fun r239 _ w240 => ?_)
      refine r_ws [(h2, .inr (5, [.ref h5, .ref h6, .int x11, .int x12, .long y1, .long y2, .int x13])), (h3, .inr (3, [.ref h11, .ref h12, .ref h13, .ref h14, .int x14, .int x15, .int x16])), (h4, .inl (gJ g, 48, .inr (.inl fm0))), (h5, .inl (gB g, 400, .inl fn0)), (h6, .inl (gJ g, 2400, .inr (.inl fm1))), (h0, .inr (0, [.ref h1, .ref h2, .ref h3, .int x1, .int x2, .long y0, .int x3, .int x4, .int x5, .int x6, .ref h7, .ref h8, .ref h9, .int x7, .int x8])), (h1, .inr (6, [.ref h4, .ref h10, .int x9, .int x10]))] rfl ?_
      have p241 : x9 = r239 := (w240).symm
      subst p241
      refine r_iload_n 42 0 C dX0_move_42 rfl ?_
      obtain ⟨z242, ez242⟩ : ∃ z_9, x9 - r235 = z_9 := ⟨_, rfl⟩
      have tz242 : (Int32.toInt z242) = (Int32.toInt x9) - (Int32.toInt r235) := by rw [← ez242]; exact fb_subIv (a := 0) (b := 48) (c := 0) (d := 1) i_x9 ⟨p237, p238⟩ (by decide) (by decide)
      refine r_isub 43 z242 C dX0_move_43 ez242 ?_
      refine r_iload_n 44 1 C dX0_move_44 rfl ?_
      refine r_icmp_eq 45 50 C dX0_move_45 (by decide) (fun c243 => ?_) (fun c243 => ?_)
      · skip
        have k244 : (Int32.toInt z242) = 2 := (fa_eq z242 2).mp c243
        refine r_aload_n 50 2 C dX0_move_50 rfl ?_
        refine r_iload_n 51 0 C dX0_move_51 rfl ?_
        refine r_callVv 52 C dX0_move_52 [] [(h0, .inr (0, [.ref h1, .ref h2, .ref h3, .int x1, .int x2, .long y0, .int x3, .int x4, .int x5, .int x6, .ref h7, .ref h8, .ref h9, .int x7, .int x8])), (h1, .inr (6, [.ref h4, .ref h10, .int x9, .int x10])), (h3, .inr (3, [.ref h11, .ref h12, .ref h13, .ref h14, .int x14, .int x15, .int x16])), (h4, .inl (gJ g, 48, .inr (.inl fm0)))] [(h2, .inr (5, [.ref h5, .ref h6, .int x11, .int x12, .long y1, .long y2, .int x13])), (h5, .inl (gB g, 400, .inl fn0)), (h6, .inl (gJ g, 2400, .inr (.inl fm1)))] (fun sz => c289_X0_tellWidth l g h0 h1 h3 h4 r235 h2 x1 x2 y0 x3 x4 x5 x6 h7 h8 h9 x7 x8 h10 x9 x10 h11 h12 h13 h14 x14 x15 x16 fm0 i_x6 i_x7 i_x8 i_x9 i_x10 sz) gX0_move_X0_tellWidth rfl ⟨rfl, rfl⟩ 1 (by decide) ⟨Nat.le_of_ble_eq_true rfl, Nat.le_of_ble_eq_true rfl⟩ 5 rfl rfl [5, 6, 1, 2] [0, 3, 4] rfl rfl (by decide) (by decide) (by decide) rfl rfl (Nat.le_of_ble_eq_true rfl) ⟨Nat.le_of_ble_eq_true rfl, Nat.le_of_ble_eq_true rfl⟩ (fun  u248 w247 => ?_)
        obtain ⟨z245, z246⟩ := u248
        refine r_ws [(h2, .inr (5, [.ref h5, .ref h6, .int x11, .int x12, .long y1, .long y2, .int x13])), (h5, .inl (gB g, 400, .inl fn0)), (h6, .inl (gJ g, 2400, .inr (.inl fm1))), (h0, .inr (0, [.ref h1, .ref h2, .ref h3, .int x1, .int x2, .long z245, .int x3, .int x4, .int x5, .int x6, .ref h7, .ref h8, .ref h9, .int x7, .int z246])), (h1, .inr (6, [.ref h4, .ref h10, .int x9, .int x10])), (h3, .inr (3, [.ref h11, .ref h12, .ref h13, .ref h14, .int x14, .int x15, .int x16])), (h4, .inl (gJ g, 48, .inr (.inl fm0)))] rfl ?_
        have gz245 := fb_rngL z245
        have p249 : 0 ≤ (Int32.toInt z246) := w247.1
        have p250 : (Int32.toInt z246) ≤ 1 := w247.2
        refine r_aload_n 55 2 C dX0_move_55 rfl ?_
        refine r_get 56 C dX0_move_56 (k := 1) 3 rfl rfl hiX0 (by decide) rfl (mg 3 rfl) (Or.inr (mg 4 rfl)) rfl ?_
        refine r_callVi 59 C dX0_move_59 [] [(h2, .inr (5, [.ref h5, .ref h6, .int x11, .int x12, .long y1, .long y2, .int x13])), (h5, .inl (gB g, 400, .inl fn0)), (h6, .inl (gJ g, 2400, .inr (.inl fm1)))] [(h0, .inr (0, [.ref h1, .ref h2, .ref h3, .int x1, .int x2, .long z245, .int x3, .int x4, .int x5, .int x6, .ref h7, .ref h8, .ref h9, .int x7, .int z246])), (h1, .inr (6, [.ref h4, .ref h10, .int x9, .int x10])), (h3, .inr (3, [.ref h11, .ref h12, .ref h13, .ref h14, .int x14, .int x15, .int x16])), (h4, .inl (gJ g, 48, .inr (.inl fm0)))] (fun sz => c290_X6_closeIfOpen l g h2 h5 h6 x11 x12 y1 y2 x13 fn0 fm1 i_x11 i_x12 i_x13 sz) gX0_move_X6_closeIfOpen rfl ⟨rfl, rfl⟩ 0 (by decide) ⟨Nat.le_of_ble_eq_true rfl, Nat.le_of_ble_eq_true rfl⟩ 0 rfl rfl [0, 1, 2] [3, 4, 5, 6] rfl rfl (by decide) (by decide) (by decide) rfl rfl (Nat.le_of_ble_eq_true rfl) ⟨Nat.le_of_ble_eq_true rfl, Nat.le_of_ble_eq_true rfl⟩ (fun r254 u256 w255 => ?_)
        obtain ⟨z251, f252, f253⟩ := u256
        refine r_ws [(h0, .inr (0, [.ref h1, .ref h2, .ref h3, .int x1, .int x2, .long z245, .int x3, .int x4, .int x5, .int x6, .ref h7, .ref h8, .ref h9, .int x7, .int z246])), (h1, .inr (6, [.ref h4, .ref h10, .int x9, .int x10])), (h3, .inr (3, [.ref h11, .ref h12, .ref h13, .ref h14, .int x14, .int x15, .int x16])), (h4, .inl (gJ g, 48, .inr (.inl fm0))), (h2, .inr (5, [.ref h5, .ref h6, .int z251, .int x12, .long y1, .long y2, .int x13])), (h5, .inl (gB g, 400, .inl f252)), (h6, .inl (gJ g, 2400, .inr (.inl f253)))] rfl ?_
        have p257 : 0 ≤ (Int32.toInt r254) := w255.1
        have p258 : (Int32.toInt r254) ≤ 6 := w255.2.1
        have p259 : 0 ≤ (Int32.toInt z251) := w255.2.2.1
        have p260 : (Int32.toInt z251) ≤ 400 := w255.2.2.2
        refine r_istore 62 C dX0_move_62 [(4, .int r254), (3, .int r235), (2, .int 2), (0, .ref h0), (1, .int x0)] (by decide) rfl ?_
        refine r_iload 64 0 C dX0_move_64 rfl ?_
        refine r_if_eq 66 72 C dX0_move_66 (by decide) (fun c261 => ?_) (fun c261 => ?_)
        · skip
          have k262 : (Int32.toInt r254) = 0 := (fa_eq r254 0).mp c261
          refine r_aload_n 72 3 C dX0_move_72 rfl ?_
          refine r_get 73 C dX0_move_73 (k := 0) 0 rfl rfl hiX0 (by decide) rfl (mg 1 rfl) (Or.inr (mg 2 rfl)) rfl ?_
          refine r_iload_n 76 1 C dX0_move_76 rfl ?_
          refine r_callVl 77 C dX0_move_77 [] [(h1, .inr (6, [.ref h4, .ref h10, .int x9, .int x10])), (h4, .inl (gJ g, 48, .inr (.inl fm0)))] [(h0, .inr (0, [.ref h1, .ref h2, .ref h3, .int x1, .int x2, .long z245, .int x3, .int x4, .int x5, .int x6, .ref h7, .ref h8, .ref h9, .int x7, .int z246])), (h3, .inr (3, [.ref h11, .ref h12, .ref h13, .ref h14, .int x14, .int x15, .int x16])), (h2, .inr (5, [.ref h5, .ref h6, .int z251, .int x12, .long y1, .long y2, .int x13])), (h5, .inl (gB g, 400, .inl f252)), (h6, .inl (gJ g, 2400, .inr (.inl f253)))] (fun sz => c232_X7_get l g h1 h4 r235 h10 x9 x10 fm0 i_x9 i_x10 sz) gX0_move_X7_get rfl ⟨rfl, rfl⟩ 1 (by decide) ⟨Nat.le_of_ble_eq_true rfl, Nat.le_of_ble_eq_true rfl⟩ 1 rfl rfl [1, 3] [0, 2, 4, 5, 6] rfl rfl (by decide) (by decide) (by decide) rfl rfl (Nat.le_of_ble_eq_true rfl) ⟨Nat.le_of_ble_eq_true rfl, Nat.le_of_ble_eq_true rfl⟩ (fun r263 _ w264 => ?_)
          refine r_ws [(h0, .inr (0, [.ref h1, .ref h2, .ref h3, .int x1, .int x2, .long z245, .int x3, .int x4, .int x5, .int x6, .ref h7, .ref h8, .ref h9, .int x7, .int z246])), (h3, .inr (3, [.ref h11, .ref h12, .ref h13, .ref h14, .int x14, .int x15, .int x16])), (h2, .inr (5, [.ref h5, .ref h6, .int z251, .int x12, .long y1, .long y2, .int x13])), (h5, .inl (gB g, 400, .inl f252)), (h6, .inl (gJ g, 2400, .inr (.inl f253))), (h1, .inr (6, [.ref h4, .ref h10, .int x9, .int x10])), (h4, .inl (gJ g, 48, .inr (.inl fm0)))] rfl ?_
          have gr263 := fb_rngL r263
          refine r_lstore 80 C dX0_move_80 [(5, .long r263), (4, .int r254), (3, .int r235), (2, .int 2), (0, .ref h0), (1, .int x0)] (by decide) rfl ?_
          refine r_iload_n 82 5 C dX0_move_82 rfl ?_
          by_cases c265 : x0 = 21
          · skip
            have k266 : (Int32.toInt x0) = 21 := (fa_eq x0 21).mp c265
            refine r_lookup 83 108 (off := 25) C dX0_move_83 (by decide) (by rw [c265]; decide) (by decide) ?_
            refine r_aload_n 108 4 C dX0_move_108 rfl ?_
            refine r_get 109 C dX0_move_109 (k := 1) 0 rfl rfl hiX0 (by decide) rfl (mg 3 rfl) (Or.inr (mg 4 rfl)) rfl ?_
            refine r_lload 112 0 C dX0_move_112 rfl ?_
            refine r_aload_n 114 4 C dX0_move_114 rfl ?_
            refine r_get 115 C dX0_move_115 (k := 0) 0 rfl rfl hiX0 (by decide) rfl (mg 1 rfl) (Or.inr (mg 2 rfl)) rfl ?_
            refine r_iload_n 118 2 C dX0_move_118 rfl ?_
            refine r_iconst 119 1 C dX0_move_119 (by decide) ?_
            obtain ⟨z267, ez267⟩ : ∃ z_9, r235 + 1 = z_9 := ⟨_, rfl⟩
            have tz267 : (Int32.toInt z267) = (Int32.toInt r235) + 1 := by rw [← ez267]; exact fb_addIv (a := 0) (b := 1) (c := 1) (d := 1) ⟨p237, p238⟩ ⟨by decide, by decide⟩ (by decide) (by decide)
            refine r_iadd 120 z267 C dX0_move_120 ez267 ?_
            refine r_callVl 121 C dX0_move_121 [.long r263, .ref h2] [(h1, .inr (6, [.ref h4, .ref h10, .int x9, .int x10])), (h4, .inl (gJ g, 48, .inr (.inl fm0)))] [(h0, .inr (0, [.ref h1, .ref h2, .ref h3, .int x1, .int x2, .long z245, .int x3, .int x4, .int x5, .int x6, .ref h7, .ref h8, .ref h9, .int x7, .int z246])), (h3, .inr (3, [.ref h11, .ref h12, .ref h13, .ref h14, .int x14, .int x15, .int x16])), (h2, .inr (5, [.ref h5, .ref h6, .int z251, .int x12, .long y1, .long y2, .int x13])), (h5, .inl (gB g, 400, .inl f252)), (h6, .inl (gJ g, 2400, .inr (.inl f253)))] (fun sz => c232_X7_get l g h1 h4 z267 h10 x9 x10 fm0 i_x9 i_x10 sz) gX0_move_X7_get rfl ⟨rfl, rfl⟩ 1 (by decide) ⟨Nat.le_of_ble_eq_true rfl, Nat.le_of_ble_eq_true rfl⟩ 5 rfl rfl [5, 6] [0, 1, 2, 3, 4] rfl rfl (by decide) (by decide) (by decide) rfl rfl (Nat.le_of_ble_eq_true rfl) ⟨Nat.le_of_ble_eq_true rfl, Nat.le_of_ble_eq_true rfl⟩ (fun r268 _ w269 => ?_)
            refine r_ws [(h0, .inr (0, [.ref h1, .ref h2, .ref h3, .int x1, .int x2, .long z245, .int x3, .int x4, .int x5, .int x6, .ref h7, .ref h8, .ref h9, .int x7, .int z246])), (h3, .inr (3, [.ref h11, .ref h12, .ref h13, .ref h14, .int x14, .int x15, .int x16])), (h2, .inr (5, [.ref h5, .ref h6, .int z251, .int x12, .long y1, .long y2, .int x13])), (h5, .inl (gB g, 400, .inl f252)), (h6, .inl (gJ g, 2400, .inr (.inl f253))), (h1, .inr (6, [.ref h4, .ref h10, .int x9, .int x10])), (h4, .inl (gJ g, 48, .inr (.inl fm0)))] rfl ?_
            have gr268 := fb_rngL r268
            refine r_callVi 124 C dX0_move_124 [] [(h2, .inr (5, [.ref h5, .ref h6, .int z251, .int x12, .long y1, .long y2, .int x13])), (h5, .inl (gB g, 400, .inl f252)), (h6, .inl (gJ g, 2400, .inr (.inl f253)))] [(h0, .inr (0, [.ref h1, .ref h2, .ref h3, .int x1, .int x2, .long z245, .int x3, .int x4, .int x5, .int x6, .ref h7, .ref h8, .ref h9, .int x7, .int z246])), (h3, .inr (3, [.ref h11, .ref h12, .ref h13, .ref h14, .int x14, .int x15, .int x16])), (h1, .inr (6, [.ref h4, .ref h10, .int x9, .int x10])), (h4, .inl (gJ g, 48, .inr (.inl fm0)))] (fun sz => c251_X6_moveBy l g h2 h5 h6 r263 r268 z251 x12 y1 y2 x13 f252 f253 ⟨p259, p260⟩ i_x12 i_x13 sz) gX0_move_X6_moveBy rfl ⟨rfl, rfl⟩ 2 (by decide) ⟨Nat.le_of_ble_eq_true rfl, Nat.le_of_ble_eq_true rfl⟩ 2 rfl rfl [2, 3, 4] [0, 1, 5, 6] rfl rfl (by decide) (by decide) (by decide) rfl rfl (Nat.le_of_ble_eq_true rfl) ⟨Nat.le_of_ble_eq_true rfl, Nat.le_of_ble_eq_true rfl⟩ (fun r275 u277 w276 => ?_)
            obtain ⟨z270, z271, z272, f273, f274⟩ := u277
            refine r_ws [(h0, .inr (0, [.ref h1, .ref h2, .ref h3, .int x1, .int x2, .long z245, .int x3, .int x4, .int x5, .int x6, .ref h7, .ref h8, .ref h9, .int x7, .int z246])), (h3, .inr (3, [.ref h11, .ref h12, .ref h13, .ref h14, .int x14, .int x15, .int x16])), (h1, .inr (6, [.ref h4, .ref h10, .int x9, .int x10])), (h4, .inl (gJ g, 48, .inr (.inl fm0))), (h2, .inr (5, [.ref h5, .ref h6, .int z270, .int x12, .long z271, .long z272, .int 0])), (h5, .inl (gB g, 400, .inl f273)), (h6, .inl (gJ g, 2400, .inr (.inl f274)))] rfl ?_
            have gz271 := fb_rngL z271
            have gz272 := fb_rngL z272
            have p278 : 0 ≤ (Int32.toInt r275) := w276.1
            have p279 : (Int32.toInt r275) ≤ 6 := w276.2.1
            have p280 : 0 ≤ (Int32.toInt z270) := w276.2.2.1
            have p281 : (Int32.toInt z270) ≤ 400 := w276.2.2.2
            exact r_iret 127 Rt dX0_move_127 (z245, z246, z270, z271, z272, 0, f273, f274) (show 0 ≤ (Int32.toInt r275) ∧ (Int32.toInt r275) ≤ 6 ∧ 0 ≤ (Int32.toInt z246) ∧ (Int32.toInt z246) ≤ 1 ∧ 0 ≤ (Int32.toInt z270) ∧ (Int32.toInt z270) ≤ 400 ∧ 0 ≤ (Int32.toInt 0) ∧ (Int32.toInt 0) ≤ 1 from ⟨(show _ ∧ _ from ⟨p278, p279⟩).1, (show _ ∧ _ from ⟨p278, p279⟩).2, (show _ ∧ _ from ⟨p249, p250⟩).1, (show _ ∧ _ from ⟨p249, p250⟩).2, (show _ ∧ _ from ⟨p280, p281⟩).1, (show _ ∧ _ from ⟨p280, p281⟩).2, (by ((repeat' apply And.intro) <;> first | trivial | rfl | assumption | omega | decide | exact Or.inl rfl | exact Or.inr (Or.inl rfl) | exact Or.inr (Or.inr rfl))), (by ((repeat' apply And.intro) <;> first | trivial | rfl | assumption | omega | decide | exact Or.inl rfl | exact Or.inr (Or.inl rfl) | exact Or.inr (Or.inr rfl)))⟩) [0, 2, 4, 1, 3, 5, 6] (by decide) rfl (Nat.le_of_ble_eq_true rfl) (Nat.le_of_ble_eq_true rfl)
          · skip
            have k282 : ¬ ((Int32.toInt x0) = 21) := fun h_9 => c265 ((fa_eq x0 21).mpr h_9)
            by_cases c283 : x0 = 22
            · skip
              have k284 : (Int32.toInt x0) = 22 := (fa_eq x0 22).mp c283
              exact absurd trivial (by omega)
            · skip
              have k285 : ¬ ((Int32.toInt x0) = 22) := fun h_9 => c283 ((fa_eq x0 22).mpr h_9)
              refine r_lookup 83 139 (off := 56) C dX0_move_83 (by decide) ((lv_osw c265 rfl).trans ((lv_osw c283 rfl).trans rfl)) (by decide) ?_
              refine r_aload_n 139 4 C dX0_move_139 rfl ?_
              refine r_get 140 C dX0_move_140 (k := 1) 0 rfl rfl hiX0 (by decide) rfl (mg 3 rfl) (Or.inr (mg 4 rfl)) rfl ?_
              refine r_lconst 143 0 C dX0_move_143 (by decide) ?_
              refine r_lload 144 0 C dX0_move_144 rfl ?_
              refine r_callVi 146 C dX0_move_146 [] [(h2, .inr (5, [.ref h5, .ref h6, .int z251, .int x12, .long y1, .long y2, .int x13])), (h5, .inl (gB g, 400, .inl f252)), (h6, .inl (gJ g, 2400, .inr (.inl f253)))] [(h0, .inr (0, [.ref h1, .ref h2, .ref h3, .int x1, .int x2, .long z245, .int x3, .int x4, .int x5, .int x6, .ref h7, .ref h8, .ref h9, .int x7, .int z246])), (h3, .inr (3, [.ref h11, .ref h12, .ref h13, .ref h14, .int x14, .int x15, .int x16])), (h1, .inr (6, [.ref h4, .ref h10, .int x9, .int x10])), (h4, .inl (gJ g, 48, .inr (.inl fm0)))] (fun sz => c251_X6_moveBy l g h2 h5 h6 0 r263 z251 x12 y1 y2 x13 f252 f253 ⟨p259, p260⟩ i_x12 i_x13 sz) gX0_move_X6_moveBy rfl ⟨rfl, rfl⟩ 2 (by decide) ⟨Nat.le_of_ble_eq_true rfl, Nat.le_of_ble_eq_true rfl⟩ 2 rfl rfl [2, 3, 4] [0, 1, 5, 6] rfl rfl (by decide) (by decide) (by decide) rfl rfl (Nat.le_of_ble_eq_true rfl) ⟨Nat.le_of_ble_eq_true rfl, Nat.le_of_ble_eq_true rfl⟩ (fun r291 u293 w292 => ?_)
              obtain ⟨z286, z287, z288, f289, f290⟩ := u293
              refine r_ws [(h0, .inr (0, [.ref h1, .ref h2, .ref h3, .int x1, .int x2, .long z245, .int x3, .int x4, .int x5, .int x6, .ref h7, .ref h8, .ref h9, .int x7, .int z246])), (h3, .inr (3, [.ref h11, .ref h12, .ref h13, .ref h14, .int x14, .int x15, .int x16])), (h1, .inr (6, [.ref h4, .ref h10, .int x9, .int x10])), (h4, .inl (gJ g, 48, .inr (.inl fm0))), (h2, .inr (5, [.ref h5, .ref h6, .int z286, .int x12, .long z287, .long z288, .int 0])), (h5, .inl (gB g, 400, .inl f289)), (h6, .inl (gJ g, 2400, .inr (.inl f290)))] rfl ?_
              have gz287 := fb_rngL z287
              have gz288 := fb_rngL z288
              have p294 : 0 ≤ (Int32.toInt r291) := w292.1
              have p295 : (Int32.toInt r291) ≤ 6 := w292.2.1
              have p296 : 0 ≤ (Int32.toInt z286) := w292.2.2.1
              have p297 : (Int32.toInt z286) ≤ 400 := w292.2.2.2
              exact r_iret 149 Rt dX0_move_149 (z245, z246, z286, z287, z288, 0, f289, f290) (show 0 ≤ (Int32.toInt r291) ∧ (Int32.toInt r291) ≤ 6 ∧ 0 ≤ (Int32.toInt z246) ∧ (Int32.toInt z246) ≤ 1 ∧ 0 ≤ (Int32.toInt z286) ∧ (Int32.toInt z286) ≤ 400 ∧ 0 ≤ (Int32.toInt 0) ∧ (Int32.toInt 0) ≤ 1 from ⟨(show _ ∧ _ from ⟨p294, p295⟩).1, (show _ ∧ _ from ⟨p294, p295⟩).2, (show _ ∧ _ from ⟨p249, p250⟩).1, (show _ ∧ _ from ⟨p249, p250⟩).2, (show _ ∧ _ from ⟨p296, p297⟩).1, (show _ ∧ _ from ⟨p296, p297⟩).2, (by ((repeat' apply And.intro) <;> first | trivial | rfl | assumption | omega | decide | exact Or.inl rfl | exact Or.inr (Or.inl rfl) | exact Or.inr (Or.inr rfl))), (by ((repeat' apply And.intro) <;> first | trivial | rfl | assumption | omega | decide | exact Or.inl rfl | exact Or.inr (Or.inl rfl) | exact Or.inr (Or.inr rfl)))⟩) [0, 2, 4, 1, 3, 5, 6] (by decide) rfl (Nat.le_of_ble_eq_true rfl) (Nat.le_of_ble_eq_true rfl)
        · skip
          have k298 : ¬ ((Int32.toInt r254) = 0) := fun h_9 => c261 ((fa_eq r254 0).mpr h_9)
          refine r_iload 69 0 C dX0_move_69 rfl ?_
          exact r_iret 71 Rt dX0_move_71 (z245, z246, z251, y1, y2, x13, f252, f253) (show 0 ≤ (Int32.toInt r254) ∧ (Int32.toInt r254) ≤ 6 ∧ 0 ≤ (Int32.toInt z246) ∧ (Int32.toInt z246) ≤ 1 ∧ 0 ≤ (Int32.toInt z251) ∧ (Int32.toInt z251) ≤ 400 ∧ 0 ≤ (Int32.toInt x13) ∧ (Int32.toInt x13) ≤ 1 from ⟨(show _ ∧ _ from ⟨p257, p258⟩).1, (show _ ∧ _ from ⟨p257, p258⟩).2, (show _ ∧ _ from ⟨p249, p250⟩).1, (show _ ∧ _ from ⟨p249, p250⟩).2, (show _ ∧ _ from ⟨p259, p260⟩).1, (show _ ∧ _ from ⟨p259, p260⟩).2, i_x13.1, i_x13.2⟩) [0, 1, 4, 2, 3, 5, 6] (by decide) rfl (Nat.le_of_ble_eq_true rfl) (Nat.le_of_ble_eq_true rfl)
      · skip
        have k299 : ¬ ((Int32.toInt z242) = 2) := fun h_9 => c243 ((fa_eq z242 2).mpr h_9)
        refine r_iconst 48 2 C dX0_move_48 (by decide) ?_
        exact r_iret 49 Rt dX0_move_49 (y0, x8, x11, y1, y2, x13, fn0, fm1) (show 0 ≤ (Int32.toInt 2) ∧ (Int32.toInt 2) ≤ 6 ∧ 0 ≤ (Int32.toInt x8) ∧ (Int32.toInt x8) ≤ 1 ∧ 0 ≤ (Int32.toInt x11) ∧ (Int32.toInt x11) ≤ 400 ∧ 0 ≤ (Int32.toInt x13) ∧ (Int32.toInt x13) ≤ 1 from ⟨(by ((repeat' apply And.intro) <;> first | trivial | rfl | assumption | omega | decide | exact Or.inl rfl | exact Or.inr (Or.inl rfl) | exact Or.inr (Or.inr rfl))), (by ((repeat' apply And.intro) <;> first | trivial | rfl | assumption | omega | decide | exact Or.inl rfl | exact Or.inr (Or.inl rfl) | exact Or.inr (Or.inr rfl))), i_x8.1, i_x8.2, i_x11.1, i_x11.2, i_x13.1, i_x13.2⟩) [5, 6, 0, 1, 2, 3, 4] (by decide) rfl (Nat.le_of_ble_eq_true rfl) (Nat.le_of_ble_eq_true rfl)
set_option maxHeartbeats 4000000 in
set_option maxRecDepth 100000 in
theorem c292_X0_stems (l : Launch) (g : GD) (h0 : Nat) (h1 : Nat) (h2 : Nat) (h3 : Nat) (h4 : Nat) (x0 : Int32) (x1 : Int32) (y0 : Int64) (x2 : Int32) (x3 : Int32) (x4 : Int32) (x5 : Int32) (h5 : Nat) (h6 : Nat) (h7 : Nat) (x6 : Int32) (x7 : Int32) (h8 : Nat) (x8 : Int32) (x9 : Int32) (h9 : Nat) (h10 : Nat) (h11 : Nat) (h12 : Nat) (x10 : Int32) (x11 : Int32) (x12 : Int32) (fm0 : Nat → Int64) (i_x5 : (0 ≤ (Int32.toInt x5) ∧ (Int32.toInt x5) ≤ 1)) (i_x6 : (0 ≤ (Int32.toInt x6) ∧ (Int32.toInt x6) ≤ 10)) (i_x7 : (0 ≤ (Int32.toInt x7) ∧ (Int32.toInt x7) ≤ 1)) (i_x8 : (0 ≤ (Int32.toInt x8) ∧ (Int32.toInt x8) ≤ 48)) (i_x9 : (0 ≤ (Int32.toInt x9) ∧ (Int32.toInt x9) ≤ 48)) (sz : Nat) : Met l yX0_stems wsX0_stems ({ frames := 2, cells := 0, slots := 0, locals := 42 }) (va_Pc [.ref h0] (PW g [(h0, .inr (0, [.ref h1, .ref h4, .ref h2, .int x0, .int x1, .long y0, .int x2, .int x3, .int x4, .int x5, .ref h5, .ref h6, .ref h7, .int x6, .int x7])), (h1, .inr (6, [.ref h3, .ref h8, .int x8, .int x9])), (h2, .inr (3, [.ref h9, .ref h10, .ref h11, .ref h12, .int x10, .int x11, .int x12])), (h3, .inl (gJ g, 48, .inr (.inl fm0)))] sz)) (va_Qi (fun (r : Int32) (u : (Int32) × (Int64) × (Int32)) => 0 ≤ (Int32.toInt r) ∧ (Int32.toInt r) ≤ 2 ∧ 0 ≤ (Int32.toInt (u.2.2)) ∧ (Int32.toInt (u.2.2)) ≤ 1) (BW g (va_A [(h0, .inr (0, [.ref h1, .ref h4, .ref h2, .int x0, .int x1, .long y0, .int x2, .int x3, .int x4, .int x5, .ref h5, .ref h6, .ref h7, .int x6, .int x7])), (h1, .inr (6, [.ref h3, .ref h8, .int x8, .int x9])), (h2, .inr (3, [.ref h9, .ref h10, .ref h11, .ref h12, .int x10, .int x11, .int x12])), (h3, .inl (gJ g, 48, .inr (.inl fm0)))] sz) (fun u : (Int32) × (Int64) × (Int32) => [(h0, .inr (0, [.ref h1, .ref h4, .ref h2, .int x0, .int u.1, .long u.2.1, .int x2, .int x3, .int x4, .int x5, .ref h5, .ref h6, .ref h7, .int x6, .int u.2.2])), (h1, .inr (6, [.ref h3, .ref h8, .int x8, .int x9])), (h2, .inr (3, [.ref h9, .ref h10, .ref h11, .ref h12, .int x10, .int x11, .int x12])), (h3, .inl (gJ g, 48, .inr (.inl fm0)))])) (va_A [(h0, .inr (0, [.ref h1, .ref h4, .ref h2, .int x0, .int x1, .long y0, .int x2, .int x3, .int x4, .int x5, .ref h5, .ref h6, .ref h7, .int x6, .int x7])), (h1, .inr (6, [.ref h3, .ref h8, .int x8, .int x9])), (h2, .inr (3, [.ref h9, .ref h10, .ref h11, .ref h12, .int x10, .int x11, .int x12])), (h3, .inl (gJ g, 48, .inr (.inl fm0)))] sz)) 0 0 (va_A [(h0, .inr (0, [.ref h1, .ref h4, .ref h2, .int x0, .int x1, .long y0, .int x2, .int x3, .int x4, .int x5, .ref h5, .ref h6, .ref h7, .int x6, .int x7])), (h1, .inr (6, [.ref h3, .ref h8, .int x8, .int x9])), (h2, .inr (3, [.ref h9, .ref h10, .ref h11, .ref h12, .int x10, .int x11, .int x12])), (h3, .inl (gJ g, 48, .inr (.inl fm0)))] sz) := by
  refine met_i RX0 (by decide) rfl rfl (Nat.le_of_ble_eq_true rfl) [(0, .ref h0)] rfl ?_
  intro p e s m args below meth c A Q C hnm Rt
  have hiX0 : ∀ w ∈ wsX00, w ∈ wsX0_stems := fun w h => List.mem_cons_of_mem _ (List.mem_append_left _ (List.mem_append_left _ (List.mem_append_left _ (List.mem_append_right _ (h)))))
  refine r_aload_n 0 0 C dX0_stems_0 rfl ?_
  refine r_get 1 C dX0_stems_1 (k := 0) 0 rfl rfl hiX0 (by decide) rfl (mg 1 rfl) (Or.inr (mg 2 rfl)) rfl ?_
  refine r_callVi 4 C dX0_stems_4 [] [(h1, .inr (6, [.ref h3, .ref h8, .int x8, .int x9]))] [(h0, .inr (0, [.ref h1, .ref h4, .ref h2, .int x0, .int x1, .long y0, .int x2, .int x3, .int x4, .int x5, .ref h5, .ref h6, .ref h7, .int x6, .int x7])), (h2, .inr (3, [.ref h9, .ref h10, .ref h11, .ref h12, .int x10, .int x11, .int x12])), (h3, .inl (gJ g, 48, .inr (.inl fm0)))] (fun sz => c231_X7_size l g h1 h3 h8 x8 x9 i_x8 i_x9 sz) gX0_stems_X7_size rfl ⟨rfl, rfl⟩ 0 (by decide) ⟨Nat.le_of_ble_eq_true rfl, Nat.le_of_ble_eq_true rfl⟩ 1 rfl rfl [1] [0, 2, 3] rfl rfl (by decide) (by decide) (by decide) rfl rfl (Nat.le_of_ble_eq_true rfl) ⟨Nat.le_of_ble_eq_true rfl, Nat.le_of_ble_eq_true rfl⟩ (fun r1 _ w2 => ?_)
  refine r_ws [(h0, .inr (0, [.ref h1, .ref h4, .ref h2, .int x0, .int x1, .long y0, .int x2, .int x3, .int x4, .int x5, .ref h5, .ref h6, .ref h7, .int x6, .int x7])), (h2, .inr (3, [.ref h9, .ref h10, .ref h11, .ref h12, .int x10, .int x11, .int x12])), (h3, .inl (gJ g, 48, .inr (.inl fm0))), (h1, .inr (6, [.ref h3, .ref h8, .int x8, .int x9]))] rfl ?_
  have p3 : x8 = r1 := (w2).symm
  subst p3
  refine r_istore_n 7 C dX0_stems_7 [(1, .int x8), (0, .ref h0)] (by decide) rfl ?_
  refine r_aload_n 8 1 C dX0_stems_8 rfl ?_
  refine r_iload_n 9 0 C dX0_stems_9 rfl ?_
  refine r_iconst 10 2 C dX0_stems_10 (by decide) ?_
  obtain ⟨z4, ez4⟩ : ∃ z_9, x8 - x8 / 2 * 2 = z_9 := ⟨_, rfl⟩
  have tz4 : (Int32.toInt z4) = (Int32.toInt x8) % 2 := by rw [← ez4]; exact rem_nn (by omega) (n := 2) (by decide) (by decide)
  refine r_irem 11 z4 C dX0_stems_11 (by decide) ez4 ?_
  refine r_iconst 12 1 C dX0_stems_12 (by decide) ?_
  refine r_icmp_ne 13 20 C dX0_stems_13 (by decide) (fun c5 => ?_) (fun c5 => ?_)
  · skip
    have k6 : ¬ ((Int32.toInt z4) = 1) := fun h_9 => c5 ((fa_eq z4 1).mpr h_9)
    refine r_iconst 20 0 C dX0_stems_20 (by decide) ?_
    refine r_callVi 21 C dX0_stems_21 [] [(h0, .inr (0, [.ref h1, .ref h4, .ref h2, .int x0, .int x1, .long y0, .int x2, .int x3, .int x4, .int x5, .ref h5, .ref h6, .ref h7, .int x6, .int x7]))] [(h2, .inr (3, [.ref h9, .ref h10, .ref h11, .ref h12, .int x10, .int x11, .int x12])), (h3, .inl (gJ g, 48, .inr (.inl fm0))), (h1, .inr (6, [.ref h3, .ref h8, .int x8, .int x9]))] (fun sz => c288_X0_widthsShare l g h0 0 h1 h4 h2 x0 x1 y0 x2 x3 x4 x5 h5 h6 h7 x6 x7 (by decide) i_x5 i_x6 i_x7 sz) gX0_stems_X0_widthsShare rfl ⟨rfl, rfl⟩ 1 (by decide) ⟨Nat.le_of_ble_eq_true rfl, Nat.le_of_ble_eq_true rfl⟩ 0 rfl rfl [0] [1, 2, 3] rfl rfl (by decide) (by decide) (by decide) rfl rfl (Nat.le_of_ble_eq_true rfl) ⟨Nat.le_of_ble_eq_true rfl, Nat.le_of_ble_eq_true rfl⟩ (fun r7 _ w8 => ?_)
    refine r_ws [(h2, .inr (3, [.ref h9, .ref h10, .ref h11, .ref h12, .int x10, .int x11, .int x12])), (h3, .inl (gJ g, 48, .inr (.inl fm0))), (h1, .inr (6, [.ref h3, .ref h8, .int x8, .int x9])), (h0, .inr (0, [.ref h1, .ref h4, .ref h2, .int x0, .int x1, .long y0, .int x2, .int x3, .int x4, .int x5, .ref h5, .ref h6, .ref h7, .int x6, .int x7]))] rfl ?_
    have p9 : 0 ≤ (Int32.toInt r7) := w8.1
    have p10 : (Int32.toInt r7) ≤ 1 := w8.2
    refine r_istore_n 24 C dX0_stems_24 [(2, .int r7), (1, .int x8), (0, .ref h0)] (by decide) rfl ?_
    refine r_iload_n 25 1 C dX0_stems_25 rfl ?_
    refine r_iload_n 26 0 C dX0_stems_26 rfl ?_
    obtain ⟨z11, ez11⟩ : ∃ z_9, x8 - r7 = z_9 := ⟨_, rfl⟩
    have tz11 : (Int32.toInt z11) = (Int32.toInt x8) - (Int32.toInt r7) := by rw [← ez11]; exact fb_subIv (a := 0) (b := 48) (c := 0) (d := 1) i_x8 ⟨p9, p10⟩ (by decide) (by decide)
    refine r_isub 27 z11 C dX0_stems_27 ez11 ?_
    refine r_istore_n 28 C dX0_stems_28 [(3, .int z11), (2, .int r7), (1, .int x8), (0, .ref h0)] (by decide) rfl ?_
    refine r_iload_n 29 0 C dX0_stems_29 rfl ?_
    refine r_iconst 30 2 C dX0_stems_30 (by decide) ?_
    refine r_icmp_lt 31 41 C dX0_stems_31 (by decide) (fun c12 => ?_) (fun c12 => ?_)
    · skip
      have k13 : (Int32.toInt z11) < 2 := (fa_lt z11 2).mp c12
      refine r_iconst 41 2 C dX0_stems_41 (by decide) ?_
      exact r_iret 42 Rt dX0_stems_42 (x1, y0, x7) (show 0 ≤ (Int32.toInt 2) ∧ (Int32.toInt 2) ≤ 2 ∧ 0 ≤ (Int32.toInt x7) ∧ (Int32.toInt x7) ≤ 1 from ⟨(by ((repeat' apply And.intro) <;> first | trivial | rfl | assumption | omega | decide | exact Or.inl rfl | exact Or.inr (Or.inl rfl) | exact Or.inr (Or.inr rfl))), (by ((repeat' apply And.intro) <;> first | trivial | rfl | assumption | omega | decide | exact Or.inl rfl | exact Or.inr (Or.inl rfl) | exact Or.inr (Or.inr rfl))), i_x7.1, i_x7.2⟩) [3, 2, 0, 1] (by decide) rfl (Nat.le_of_ble_eq_true rfl) (Nat.le_of_ble_eq_true rfl)
    · skip
      have k14 : ¬ ((Int32.toInt z11) < 2) := fun h_9 => c12 ((fa_lt z11 2).mpr h_9)
      refine r_iload_n 34 0 C dX0_stems_34 rfl ?_
      refine r_iconst 35 2 C dX0_stems_35 (by decide) ?_
      obtain ⟨z15, ez15⟩ : ∃ z_9, z11 - z11 / 2 * 2 = z_9 := ⟨_, rfl⟩
      have tz15 : (Int32.toInt z15) = (Int32.toInt z11) % 2 := by rw [← ez15]; exact rem_nn (by omega) (n := 2) (by decide) (by decide)
      refine r_irem 36 z15 C dX0_stems_36 (by decide) ez15 ?_
      refine r_iconst 37 1 C dX0_stems_37 (by decide) ?_
      refine r_icmp_ne 38 43 C dX0_stems_38 (by decide) (fun c16 => ?_) (fun c16 => ?_)
      · skip
        have k17 : ¬ ((Int32.toInt z15) = 1) := fun h_9 => c16 ((fa_eq z15 1).mpr h_9)
        refine r_aload_n 43 3 C dX0_stems_43 rfl ?_
        refine r_iload_n 44 1 C dX0_stems_44 rfl ?_
        refine r_callVv 45 C dX0_stems_45 [] [(h0, .inr (0, [.ref h1, .ref h4, .ref h2, .int x0, .int x1, .long y0, .int x2, .int x3, .int x4, .int x5, .ref h5, .ref h6, .ref h7, .int x6, .int x7])), (h1, .inr (6, [.ref h3, .ref h8, .int x8, .int x9])), (h2, .inr (3, [.ref h9, .ref h10, .ref h11, .ref h12, .int x10, .int x11, .int x12])), (h3, .inl (gJ g, 48, .inr (.inl fm0)))] [] (fun sz => c289_X0_tellWidth l g h0 h1 h2 h3 r7 h4 x0 x1 y0 x2 x3 x4 x5 h5 h6 h7 x6 x7 h8 x8 x9 h9 h10 h11 h12 x10 x11 x12 fm0 i_x5 i_x6 i_x7 i_x8 i_x9 sz) gX0_stems_X0_tellWidth rfl ⟨rfl, rfl⟩ 1 (by decide) ⟨Nat.le_of_ble_eq_true rfl, Nat.le_of_ble_eq_true rfl⟩ 3 rfl rfl [3, 2, 0, 1] [] rfl rfl (by decide) (by decide) (by decide) rfl rfl (Nat.le_of_ble_eq_true rfl) ⟨Nat.le_of_ble_eq_true rfl, Nat.le_of_ble_eq_true rfl⟩ (fun  u21 w20 => ?_)
        obtain ⟨z18, z19⟩ := u21
        refine r_ws [(h0, .inr (0, [.ref h1, .ref h4, .ref h2, .int x0, .int x1, .long z18, .int x2, .int x3, .int x4, .int x5, .ref h5, .ref h6, .ref h7, .int x6, .int z19])), (h1, .inr (6, [.ref h3, .ref h8, .int x8, .int x9])), (h2, .inr (3, [.ref h9, .ref h10, .ref h11, .ref h12, .int x10, .int x11, .int x12])), (h3, .inl (gJ g, 48, .inr (.inl fm0)))] rfl ?_
        have gz18 := fb_rngL z18
        have p22 : 0 ≤ (Int32.toInt z19) := w20.1
        have p23 : (Int32.toInt z19) ≤ 1 := w20.2
        refine r_aload_n 48 3 C dX0_stems_48 rfl ?_
        refine r_dup 49 C dX0_stems_49 rfl ?_
        refine r_get 50 C dX0_stems_50 (k := 4) 0 rfl rfl hiX0 (by decide) rfl (mg 3 rfl) (Or.inr (mg 4 rfl)) rfl ?_
        refine r_iload_n 53 0 C dX0_stems_53 rfl ?_
        refine r_iconst 54 2 C dX0_stems_54 (by decide) ?_
        obtain ⟨z24, ez24⟩ : ∃ z_9, z11 / 2 = z_9 := ⟨_, rfl⟩
        have tz24 : (Int32.toInt z24) = (Int32.toInt z11) / 2 := by rw [← ez24]; exact div_nn (by omega) (n := 2) (by decide) (by decide)
        refine r_idiv 55 z24 C dX0_stems_55 (by decide) ez24 ?_
        obtain ⟨z25, ez25⟩ : ∃ z_9, x1 + z24 = z_9 := ⟨_, rfl⟩
        have gz25 := fb_rng z25
        refine r_iadd 56 z25 C dX0_stems_56 ez25 ?_
        refine r_put 57 C dX0_stems_57 (k := 4) 0 rfl rfl hiX0 tyX0 tyX0_ok nmX0 (by decide) rfl (mg 3 rfl) (Or.inr (mg 4 rfl)) rfl rfl rfl rfl (Nat.le_of_ble_eq_true rfl) [(h0, .inr (0, [.ref h1, .ref h4, .ref h2, .int x0, .int z25, .long z18, .int x2, .int x3, .int x4, .int x5, .ref h5, .ref h6, .ref h7, .int x6, .int z19])), (h1, .inr (6, [.ref h3, .ref h8, .int x8, .int x9])), (h2, .inr (3, [.ref h9, .ref h10, .ref h11, .ref h12, .int x10, .int x11, .int x12])), (h3, .inl (gJ g, 48, .inr (.inl fm0)))] rfl ?_
        refine r_iconst 60 0 C dX0_stems_60 (by decide) ?_
        exact r_iret 61 Rt dX0_stems_61 (z25, z18, z19) (show 0 ≤ (Int32.toInt 0) ∧ (Int32.toInt 0) ≤ 2 ∧ 0 ≤ (Int32.toInt z19) ∧ (Int32.toInt z19) ≤ 1 from ⟨(by ((repeat' apply And.intro) <;> first | trivial | rfl | assumption | omega | decide | exact Or.inl rfl | exact Or.inr (Or.inl rfl) | exact Or.inr (Or.inr rfl))), (by ((repeat' apply And.intro) <;> first | trivial | rfl | assumption | omega | decide | exact Or.inl rfl | exact Or.inr (Or.inl rfl) | exact Or.inr (Or.inr rfl))), (show _ ∧ _ from ⟨p22, p23⟩).1, (show _ ∧ _ from ⟨p22, p23⟩).2⟩) [0, 1, 2, 3] (by decide) rfl (Nat.le_of_ble_eq_true rfl) (Nat.le_of_ble_eq_true rfl)
      · skip
        have k26 : (Int32.toInt z15) = 1 := (fa_eq z15 1).mp c16
        refine r_iconst 41 2 C dX0_stems_41 (by decide) ?_
        exact r_iret 42 Rt dX0_stems_42 (x1, y0, x7) (show 0 ≤ (Int32.toInt 2) ∧ (Int32.toInt 2) ≤ 2 ∧ 0 ≤ (Int32.toInt x7) ∧ (Int32.toInt x7) ≤ 1 from ⟨(by ((repeat' apply And.intro) <;> first | trivial | rfl | assumption | omega | decide | exact Or.inl rfl | exact Or.inr (Or.inl rfl) | exact Or.inr (Or.inr rfl))), (by ((repeat' apply And.intro) <;> first | trivial | rfl | assumption | omega | decide | exact Or.inl rfl | exact Or.inr (Or.inl rfl) | exact Or.inr (Or.inr rfl))), i_x7.1, i_x7.2⟩) [3, 2, 0, 1] (by decide) rfl (Nat.le_of_ble_eq_true rfl) (Nat.le_of_ble_eq_true rfl)
  · skip
    have k27 : (Int32.toInt z4) = 1 := (fa_eq z4 1).mp c5
    refine r_iconst 16 1 C dX0_stems_16 (by decide) ?_
    refine r_goto 17 21 C dX0_stems_17 (by decide) ?_
    refine r_callVi 21 C dX0_stems_21 [] [(h0, .inr (0, [.ref h1, .ref h4, .ref h2, .int x0, .int x1, .long y0, .int x2, .int x3, .int x4, .int x5, .ref h5, .ref h6, .ref h7, .int x6, .int x7]))] [(h2, .inr (3, [.ref h9, .ref h10, .ref h11, .ref h12, .int x10, .int x11, .int x12])), (h3, .inl (gJ g, 48, .inr (.inl fm0))), (h1, .inr (6, [.ref h3, .ref h8, .int x8, .int x9]))] (fun sz => c288_X0_widthsShare l g h0 1 h1 h4 h2 x0 x1 y0 x2 x3 x4 x5 h5 h6 h7 x6 x7 (by decide) i_x5 i_x6 i_x7 sz) gX0_stems_X0_widthsShare rfl ⟨rfl, rfl⟩ 1 (by decide) ⟨Nat.le_of_ble_eq_true rfl, Nat.le_of_ble_eq_true rfl⟩ 0 rfl rfl [0] [1, 2, 3] rfl rfl (by decide) (by decide) (by decide) rfl rfl (Nat.le_of_ble_eq_true rfl) ⟨Nat.le_of_ble_eq_true rfl, Nat.le_of_ble_eq_true rfl⟩ (fun r28 _ w29 => ?_)
    refine r_ws [(h2, .inr (3, [.ref h9, .ref h10, .ref h11, .ref h12, .int x10, .int x11, .int x12])), (h3, .inl (gJ g, 48, .inr (.inl fm0))), (h1, .inr (6, [.ref h3, .ref h8, .int x8, .int x9])), (h0, .inr (0, [.ref h1, .ref h4, .ref h2, .int x0, .int x1, .long y0, .int x2, .int x3, .int x4, .int x5, .ref h5, .ref h6, .ref h7, .int x6, .int x7]))] rfl ?_
    have p30 : 0 ≤ (Int32.toInt r28) := w29.1
    have p31 : (Int32.toInt r28) ≤ 1 := w29.2
    refine r_istore_n 24 C dX0_stems_24 [(2, .int r28), (1, .int x8), (0, .ref h0)] (by decide) rfl ?_
    refine r_iload_n 25 1 C dX0_stems_25 rfl ?_
    refine r_iload_n 26 0 C dX0_stems_26 rfl ?_
    obtain ⟨z32, ez32⟩ : ∃ z_9, x8 - r28 = z_9 := ⟨_, rfl⟩
    have tz32 : (Int32.toInt z32) = (Int32.toInt x8) - (Int32.toInt r28) := by rw [← ez32]; exact fb_subIv (a := 0) (b := 48) (c := 0) (d := 1) i_x8 ⟨p30, p31⟩ (by decide) (by decide)
    refine r_isub 27 z32 C dX0_stems_27 ez32 ?_
    refine r_istore_n 28 C dX0_stems_28 [(3, .int z32), (2, .int r28), (1, .int x8), (0, .ref h0)] (by decide) rfl ?_
    refine r_iload_n 29 0 C dX0_stems_29 rfl ?_
    refine r_iconst 30 2 C dX0_stems_30 (by decide) ?_
    refine r_icmp_lt 31 41 C dX0_stems_31 (by decide) (fun c33 => ?_) (fun c33 => ?_)
    · skip
      have k34 : (Int32.toInt z32) < 2 := (fa_lt z32 2).mp c33
      refine r_iconst 41 2 C dX0_stems_41 (by decide) ?_
      exact r_iret 42 Rt dX0_stems_42 (x1, y0, x7) (show 0 ≤ (Int32.toInt 2) ∧ (Int32.toInt 2) ≤ 2 ∧ 0 ≤ (Int32.toInt x7) ∧ (Int32.toInt x7) ≤ 1 from ⟨(by ((repeat' apply And.intro) <;> first | trivial | rfl | assumption | omega | decide | exact Or.inl rfl | exact Or.inr (Or.inl rfl) | exact Or.inr (Or.inr rfl))), (by ((repeat' apply And.intro) <;> first | trivial | rfl | assumption | omega | decide | exact Or.inl rfl | exact Or.inr (Or.inl rfl) | exact Or.inr (Or.inr rfl))), i_x7.1, i_x7.2⟩) [3, 2, 0, 1] (by decide) rfl (Nat.le_of_ble_eq_true rfl) (Nat.le_of_ble_eq_true rfl)
    · skip
      have k35 : ¬ ((Int32.toInt z32) < 2) := fun h_9 => c33 ((fa_lt z32 2).mpr h_9)
      refine r_iload_n 34 0 C dX0_stems_34 rfl ?_
      refine r_iconst 35 2 C dX0_stems_35 (by decide) ?_
      obtain ⟨z36, ez36⟩ : ∃ z_9, z32 - z32 / 2 * 2 = z_9 := ⟨_, rfl⟩
      have tz36 : (Int32.toInt z36) = (Int32.toInt z32) % 2 := by rw [← ez36]; exact rem_nn (by omega) (n := 2) (by decide) (by decide)
      refine r_irem 36 z36 C dX0_stems_36 (by decide) ez36 ?_
      refine r_iconst 37 1 C dX0_stems_37 (by decide) ?_
      refine r_icmp_ne 38 43 C dX0_stems_38 (by decide) (fun c37 => ?_) (fun c37 => ?_)
      · skip
        have k38 : ¬ ((Int32.toInt z36) = 1) := fun h_9 => c37 ((fa_eq z36 1).mpr h_9)
        refine r_aload_n 43 3 C dX0_stems_43 rfl ?_
        refine r_iload_n 44 1 C dX0_stems_44 rfl ?_
        refine r_callVv 45 C dX0_stems_45 [] [(h0, .inr (0, [.ref h1, .ref h4, .ref h2, .int x0, .int x1, .long y0, .int x2, .int x3, .int x4, .int x5, .ref h5, .ref h6, .ref h7, .int x6, .int x7])), (h1, .inr (6, [.ref h3, .ref h8, .int x8, .int x9])), (h2, .inr (3, [.ref h9, .ref h10, .ref h11, .ref h12, .int x10, .int x11, .int x12])), (h3, .inl (gJ g, 48, .inr (.inl fm0)))] [] (fun sz => c289_X0_tellWidth l g h0 h1 h2 h3 r28 h4 x0 x1 y0 x2 x3 x4 x5 h5 h6 h7 x6 x7 h8 x8 x9 h9 h10 h11 h12 x10 x11 x12 fm0 i_x5 i_x6 i_x7 i_x8 i_x9 sz) gX0_stems_X0_tellWidth rfl ⟨rfl, rfl⟩ 1 (by decide) ⟨Nat.le_of_ble_eq_true rfl, Nat.le_of_ble_eq_true rfl⟩ 3 rfl rfl [3, 2, 0, 1] [] rfl rfl (by decide) (by decide) (by decide) rfl rfl (Nat.le_of_ble_eq_true rfl) ⟨Nat.le_of_ble_eq_true rfl, Nat.le_of_ble_eq_true rfl⟩ (fun  u42 w41 => ?_)
        obtain ⟨z39, z40⟩ := u42
        refine r_ws [(h0, .inr (0, [.ref h1, .ref h4, .ref h2, .int x0, .int x1, .long z39, .int x2, .int x3, .int x4, .int x5, .ref h5, .ref h6, .ref h7, .int x6, .int z40])), (h1, .inr (6, [.ref h3, .ref h8, .int x8, .int x9])), (h2, .inr (3, [.ref h9, .ref h10, .ref h11, .ref h12, .int x10, .int x11, .int x12])), (h3, .inl (gJ g, 48, .inr (.inl fm0)))] rfl ?_
        have gz39 := fb_rngL z39
        have p43 : 0 ≤ (Int32.toInt z40) := w41.1
        have p44 : (Int32.toInt z40) ≤ 1 := w41.2
        refine r_aload_n 48 3 C dX0_stems_48 rfl ?_
        refine r_dup 49 C dX0_stems_49 rfl ?_
        refine r_get 50 C dX0_stems_50 (k := 4) 0 rfl rfl hiX0 (by decide) rfl (mg 3 rfl) (Or.inr (mg 4 rfl)) rfl ?_
        refine r_iload_n 53 0 C dX0_stems_53 rfl ?_
        refine r_iconst 54 2 C dX0_stems_54 (by decide) ?_
        obtain ⟨z45, ez45⟩ : ∃ z_9, z32 / 2 = z_9 := ⟨_, rfl⟩
        have tz45 : (Int32.toInt z45) = (Int32.toInt z32) / 2 := by rw [← ez45]; exact div_nn (by omega) (n := 2) (by decide) (by decide)
        refine r_idiv 55 z45 C dX0_stems_55 (by decide) ez45 ?_
        obtain ⟨z46, ez46⟩ : ∃ z_9, x1 + z45 = z_9 := ⟨_, rfl⟩
        have gz46 := fb_rng z46
        refine r_iadd 56 z46 C dX0_stems_56 ez46 ?_
        refine r_put 57 C dX0_stems_57 (k := 4) 0 rfl rfl hiX0 tyX0 tyX0_ok nmX0 (by decide) rfl (mg 3 rfl) (Or.inr (mg 4 rfl)) rfl rfl rfl rfl (Nat.le_of_ble_eq_true rfl) [(h0, .inr (0, [.ref h1, .ref h4, .ref h2, .int x0, .int z46, .long z39, .int x2, .int x3, .int x4, .int x5, .ref h5, .ref h6, .ref h7, .int x6, .int z40])), (h1, .inr (6, [.ref h3, .ref h8, .int x8, .int x9])), (h2, .inr (3, [.ref h9, .ref h10, .ref h11, .ref h12, .int x10, .int x11, .int x12])), (h3, .inl (gJ g, 48, .inr (.inl fm0)))] rfl ?_
        refine r_iconst 60 0 C dX0_stems_60 (by decide) ?_
        exact r_iret 61 Rt dX0_stems_61 (z46, z39, z40) (show 0 ≤ (Int32.toInt 0) ∧ (Int32.toInt 0) ≤ 2 ∧ 0 ≤ (Int32.toInt z40) ∧ (Int32.toInt z40) ≤ 1 from ⟨(by ((repeat' apply And.intro) <;> first | trivial | rfl | assumption | omega | decide | exact Or.inl rfl | exact Or.inr (Or.inl rfl) | exact Or.inr (Or.inr rfl))), (by ((repeat' apply And.intro) <;> first | trivial | rfl | assumption | omega | decide | exact Or.inl rfl | exact Or.inr (Or.inl rfl) | exact Or.inr (Or.inr rfl))), (show _ ∧ _ from ⟨p43, p44⟩).1, (show _ ∧ _ from ⟨p43, p44⟩).2⟩) [0, 1, 2, 3] (by decide) rfl (Nat.le_of_ble_eq_true rfl) (Nat.le_of_ble_eq_true rfl)
      · skip
        have k47 : (Int32.toInt z36) = 1 := (fa_eq z36 1).mp c37
        refine r_iconst 41 2 C dX0_stems_41 (by decide) ?_
        exact r_iret 42 Rt dX0_stems_42 (x1, y0, x7) (show 0 ≤ (Int32.toInt 2) ∧ (Int32.toInt 2) ≤ 2 ∧ 0 ≤ (Int32.toInt x7) ∧ (Int32.toInt x7) ≤ 1 from ⟨(by ((repeat' apply And.intro) <;> first | trivial | rfl | assumption | omega | decide | exact Or.inl rfl | exact Or.inr (Or.inl rfl) | exact Or.inr (Or.inr rfl))), (by ((repeat' apply And.intro) <;> first | trivial | rfl | assumption | omega | decide | exact Or.inl rfl | exact Or.inr (Or.inl rfl) | exact Or.inr (Or.inr rfl))), i_x7.1, i_x7.2⟩) [3, 2, 0, 1] (by decide) rfl (Nat.le_of_ble_eq_true rfl) (Nat.le_of_ble_eq_true rfl)
