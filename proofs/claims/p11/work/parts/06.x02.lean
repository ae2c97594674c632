set_option maxHeartbeats 4000000 in
set_option maxRecDepth 100000 in
theorem c55_X1_takeNumber (l : Launch) (g : GD) (h0 : Nat) (h1 : Nat) (h2 : Nat) (h3 : Nat) (h4 : Nat) (x0 : Int32) (y0 : Int64) (y1 : Int64) (x1 : Int32) (x2 : Int32) (y2 : Int64) (y3 : Int64) (x3 : Int32) (fn0 : Nat → Int32) (i_x0 : (0 ≤ (Int32.toInt x0) ∧ (Int32.toInt x0) ≤ 2)) (i_y0 : (-8589934592 ≤ (Int64.toInt y0) ∧ (Int64.toInt y0) ≤ 8589934592)) (i_x1 : (-257 ≤ (Int32.toInt x1) ∧ (Int32.toInt x1) ≤ 65535)) (i_x2 : (-1 ≤ (Int32.toInt x2) ∧ (Int32.toInt x2) ≤ 255)) (i_y2 : (-8589934592 ≤ (Int64.toInt y2) ∧ (Int64.toInt y2) ≤ 8589934592)) (i_y3 : (-8589934592 ≤ (Int64.toInt y3) ∧ (Int64.toInt y3) ≤ 8589934592)) (i_x3 : (0 ≤ (Int32.toInt x3) ∧ (Int32.toInt x3) ≤ 1500)) (sz : Nat) : Met l yX1_takeNumber wsX1_takeNumber ({ frames := 2, cells := 0, slots := 0, locals := 43 }) (va_Pc [.ref h0, .int 2] (PW g [(h0, .inr (1, [.ref h3, .ref h4, .ref h1, .int x0, .long y0, .long y1, .int x1, .int x2, .long y2, .long y3])), (h1, .inr (4, [.ref h2, .int x3])), (h2, .inl (gB g, 1500, .inl fn0))] sz)) (va_Ql (fun (r : Int64) (u : (Int32) × (Int64)) => 0 ≤ (Int64.toInt r) ∧ (Int64.toInt r) ≤ 65535 ∧ 0 ≤ (Int32.toInt (u.1)) ∧ (Int32.toInt (u.1)) ≤ 2 ∧ -8589934592 ≤ (Int64.toInt (u.2)) ∧ (Int64.toInt (u.2)) ≤ 8589934592 ∧ SEQ (Int32.toInt x0) (Int32.toInt (u.1)) (NUMO (GB fn0 (Int32.toInt x3)) (Int32.toInt x3) (Int64.toInt y1) (Int64.toInt y0) 2) (fun v => v = (Int64.toInt r) ∧ (Int64.toInt (u.2)) = (Int64.toInt y0) + (2 : Int)) ∧ (0 ≤ (Int64.toInt r) ∧ (Int64.toInt r) ≤ 65535) ∧ NBND (2 : Int) (Int64.toInt r) ∧ (¬ ((Int32.toInt (u.1)) = 0) ∨ ((Int32.toInt x0) = 0 ∧ ((2 : Int) ≤ 0 ∨ (0 ≤ (Int64.toInt y0) ∧ (Int64.toInt (u.2)) ≤ (Int32.toInt x3) ∧ (Int64.toInt (u.2)) = (Int64.toInt y0) + (2 : Int))))) ∧ ((Int64.toInt y0) ≤ (Int64.toInt (u.2)) ∧ ((Int64.toInt (u.2)) = (Int64.toInt y0) ∨ (Int64.toInt (u.2)) ≤ (Int32.toInt x3)))) (BW g (va_A [(h0, .inr (1, [.ref h3, .ref h4, .ref h1, .int x0, .long y0, .long y1, .int x1, .int x2, .long y2, .long y3])), (h1, .inr (4, [.ref h2, .int x3])), (h2, .inl (gB g, 1500, .inl fn0))] sz) (fun u : (Int32) × (Int64) => [(h0, .inr (1, [.ref h3, .ref h4, .ref h1, .int u.1, .long u.2, .long y1, .int x1, .int x2, .long y2, .long y3])), (h1, .inr (4, [.ref h2, .int x3])), (h2, .inl (gB g, 1500, .inl fn0))])) (va_A [(h0, .inr (1, [.ref h3, .ref h4, .ref h1, .int x0, .long y0, .long y1, .int x1, .int x2, .long y2, .long y3])), (h1, .inr (4, [.ref h2, .int x3])), (h2, .inl (gB g, 1500, .inl fn0))] sz)) 0 0 (va_A [(h0, .inr (1, [.ref h3, .ref h4, .ref h1, .int x0, .long y0, .long y1, .int x1, .int x2, .long y2, .long y3])), (h1, .inr (4, [.ref h2, .int x3])), (h2, .inl (gB g, 1500, .inl fn0))] sz) := by
  refine met_l RX1 (by decide) rfl rfl (Nat.le_of_ble_eq_true rfl) [(0, .ref h0), (1, .int 2)] rfl ?_
  intro p e s m args below meth c A Q C hnm Rt
  have gy1 := fb_rngL y1
  have hiX1 : ∀ w ∈ wsX10, w ∈ wsX1_takeNumber := fun w h => List.mem_cons_of_mem _ (List.mem_append_left _ (List.mem_append_right _ (h)))
  refine r_lconst 0 0 C dX1_takeNumber_0 (by decide) ?_
  refine r_lstore_n 1 C dX1_takeNumber_1 [(2, .long 0), (0, .ref h0), (1, .int 2)] (by decide) rfl ?_
  refine r_iconst 2 0 C dX1_takeNumber_2 (by decide) ?_
  refine r_istore 3 C dX1_takeNumber_3 [(4, .int 0), (2, .long 0), (0, .ref h0), (1, .int 2)] (by decide) rfl ?_
  refine r_iload 5 0 C dX1_takeNumber_5 rfl ?_
  refine r_iload_n 7 3 C dX1_takeNumber_7 rfl ?_
  refine r_icmp_ge_f 8 36 C dX1_takeNumber_8 (by decide) (by decide) ?_
  refine r_aload_n 11 2 C dX1_takeNumber_11 rfl ?_
  refine r_get 12 C dX1_takeNumber_12 (k := 3) 0 rfl rfl hiX1 (by decide) rfl (mg 1 rfl) (Or.inl rfl) rfl ?_
  refine r_if_ne 15 36 C dX1_takeNumber_15 (by decide) (fun c1 => ?_) (fun c1 => ?_)
  · skip
    have k2 : ¬ ((Int32.toInt x0) = 0) := fun h_9 => c1 ((fa_eq x0 0).mpr h_9)
    refine r_aload_n 36 2 C dX1_takeNumber_36 rfl ?_
    refine r_get 37 C dX1_takeNumber_37 (k := 3) 0 rfl rfl hiX1 (by decide) rfl (mg 1 rfl) (Or.inl rfl) rfl ?_
    refine r_if_ne_t 40 47 C dX1_takeNumber_40 (by decide) (fun h_9 => by have h_8 : (Int32.toInt x0) = 0 := (fa_eq x0 0).mp h_9; omega) ?_
    refine r_lconst 47 0 C dX1_takeNumber_47 (by decide) ?_
    exact r_lret 48 Rt dX1_takeNumber_48 (x0, y0) (show 0 ≤ (Int64.toInt 0) ∧ (Int64.toInt 0) ≤ 65535 ∧ 0 ≤ (Int32.toInt x0) ∧ (Int32.toInt x0) ≤ 2 ∧ -8589934592 ≤ (Int64.toInt y0) ∧ (Int64.toInt y0) ≤ 8589934592 ∧ SEQ (Int32.toInt x0) (Int32.toInt x0) (NUMO (GB fn0 (Int32.toInt x3)) (Int32.toInt x3) (Int64.toInt y1) (Int64.toInt y0) 2) (fun v => v = 0 ∧ (Int64.toInt y0) = (Int64.toInt y0) + (2 : Int)) ∧ (0 ≤ 0 ∧ 0 ≤ 65535) ∧ NBND (2 : Int) 0 ∧ (¬ ((Int32.toInt x0) = 0) ∨ ((Int32.toInt x0) = 0 ∧ ((2 : Int) ≤ 0 ∨ (0 ≤ (Int64.toInt y0) ∧ (Int64.toInt y0) ≤ (Int32.toInt x3) ∧ (Int64.toInt y0) = (Int64.toInt y0) + (2 : Int))))) ∧ ((Int64.toInt y0) ≤ (Int64.toInt y0) ∧ ((Int64.toInt y0) = (Int64.toInt y0) ∨ (Int64.toInt y0) ≤ (Int32.toInt x3))) from ⟨(by ((repeat' apply And.intro) <;> first | trivial | rfl | assumption | omega | decide | exact Or.inl rfl | exact Or.inr (Or.inl rfl) | exact Or.inr (Or.inr rfl))), (by ((repeat' apply And.intro) <;> first | trivial | rfl | assumption | omega | decide | exact Or.inl rfl | exact Or.inr (Or.inl rfl) | exact Or.inr (Or.inr rfl))), i_x0.1, i_x0.2, i_y0.1, i_y0.2, (by first | exact num_stop num_0 (by omega) (by decide) | exact seq_imp num_0 (fun v_9 _ h_9 => by obtain ⟨h_1, h_2⟩ := h_9; exact ⟨by omega, by omega⟩)), (by ((repeat' apply And.intro) <;> first | trivial | rfl | assumption | omega | decide | exact Or.inl rfl | exact Or.inr (Or.inl rfl) | exact Or.inr (Or.inr rfl))), (by unfold NBND; omega), (by ((repeat' apply And.intro) <;> first | trivial | rfl | assumption | omega | decide | exact Or.inl rfl | exact Or.inr (Or.inl rfl) | exact Or.inr (Or.inr rfl))), (by ((repeat' apply And.intro) <;> first | trivial | rfl | assumption | omega | decide | exact Or.inl rfl | exact Or.inr (Or.inl rfl) | exact Or.inr (Or.inr rfl)))⟩) [0, 1, 2] (by decide) rfl (Nat.le_of_ble_eq_true rfl) (Nat.le_of_ble_eq_true rfl)
  · skip
    have k3 : (Int32.toInt x0) = 0 := (fa_eq x0 0).mp c1
    refine r_lload_n 18 1 C dX1_takeNumber_18 rfl ?_
    refine r_ldc2 19 256 C dX1_takeNumber_19 (mg 2 rfl) ?_
    refine r_lmul 22 0 C dX1_takeNumber_22 (by decide) ?_
    refine r_aload_n 23 2 C dX1_takeNumber_23 rfl ?_
    refine r_callVi 24 C dX1_takeNumber_24 [.long 0] [(h0, .inr (1, [.ref h3, .ref h4, .ref h1, .int x0, .long y0, .long y1, .int x1, .int x2, .long y2, .long y3])), (h1, .inr (4, [.ref h2, .int x3])), (h2, .inl (gB g, 1500, .inl fn0))] [] (fun sz => c52_X1_take l g h0 h1 h2 h3 h4 x0 y0 y1 x1 x2 y2 y3 x3 fn0 i_x0 i_y0 i_x1 i_x2 i_y2 i_y3 i_x3 sz) gX1_takeNumber_X1_take rfl ⟨rfl, rfl⟩ 0 (by decide) ⟨Nat.le_of_ble_eq_true rfl, Nat.le_of_ble_eq_true rfl⟩ 0 rfl rfl [0, 1, 2] [] rfl rfl (by decide) (by decide) (by decide) rfl rfl (Nat.le_of_ble_eq_true rfl) ⟨Nat.le_of_ble_eq_true rfl, Nat.le_of_ble_eq_true rfl⟩ (fun r6 u8 w7 => ?_)
    obtain ⟨z4, z5⟩ := u8
    refine r_ws [(h0, .inr (1, [.ref h3, .ref h4, .ref h1, .int z4, .long z5, .long y1, .int x1, .int x2, .long y2, .long y3])), (h1, .inr (4, [.ref h2, .int x3])), (h2, .inl (gB g, 1500, .inl fn0))] rfl ?_
    have p9 : -1 ≤ (Int32.toInt r6) := w7.1
    have p10 : (Int32.toInt r6) ≤ 255 := w7.2.1
    have p11 : 0 ≤ (Int32.toInt z4) := w7.2.2.1
    have p12 : (Int32.toInt z4) ≤ 2 := w7.2.2.2.1
    have p13 : -8589934592 ≤ (Int64.toInt z5) := w7.2.2.2.2.1
    have p14 : (Int64.toInt z5) ≤ 8589934592 := w7.2.2.2.2.2.1
    have p15 : SEQ (Int32.toInt x0) (Int32.toInt z4) (BYT (GB fn0 (Int32.toInt x3)) (Int32.toInt x3) (Int64.toInt y1) (Int64.toInt y0)) (fun v => v = (Int32.toInt r6) ∧ (Int64.toInt z5) = (Int64.toInt y0) + 1) := w7.2.2.2.2.2.2.1
    have p16 : (((Int32.toInt r6) = -1 ∧ 1 ≤ (Int32.toInt z4) ∧ (Int64.toInt z5) = (Int64.toInt y0)) ∨ ((Int32.toInt x0) = 0 ∧ (Int32.toInt z4) = 0 ∧ 0 ≤ (Int64.toInt y0) ∧ (Int64.toInt y0) < (Int32.toInt x3) ∧ (Int64.toInt y0) < (Int64.toInt y1) ∧ (Int64.toInt z5) = (Int64.toInt y0) + 1 ∧ 0 ≤ (Int32.toInt r6))) := w7.2.2.2.2.2.2.2
    rcases p16 with ⟨k17, k18, k19⟩ | p16
    · skip
      obtain ⟨z20, ez20⟩ : ∃ z_9, Int32.toInt64 r6 = z_9 := ⟨_, rfl⟩
      have tz20 : (Int64.toInt z20) = (Int32.toInt r6) := by rw [← ez20]; exact Int32.toInt_toInt64 _
      refine r_i2l 27 z20 C dX1_takeNumber_27 ez20 ?_
      obtain ⟨z21, ez21⟩ : ∃ z_9, 0 + z20 = z_9 := ⟨_, rfl⟩
      have tz21 : (Int64.toInt z21) = 0 + (Int64.toInt z20) := by rw [← ez21]; exact fb_addLv (a := 0) (b := 0) (c := (-1)) (d := 255) ⟨by decide, by decide⟩ (iv_eq ⟨p9, p10⟩ tz20) (by decide) (by decide)
      refine r_ladd 28 z21 C dX1_takeNumber_28 ez21 ?_
      refine r_lstore_n 29 C dX1_takeNumber_29 [(2, .long z21), (4, .int 0), (0, .ref h0), (1, .int 2)] (by decide) rfl ?_
      refine r_iinc 30 1 1 C dX1_takeNumber_30 rfl (by decide) [(4, .int 1), (2, .long z21), (0, .ref h0), (1, .int 2)] (by decide) rfl ?_
      refine r_goto 33 5 C dX1_takeNumber_33 (by decide) ?_
      refine r_iload 5 0 C dX1_takeNumber_5 rfl ?_
      refine r_iload_n 7 3 C dX1_takeNumber_7 rfl ?_
      refine r_icmp_ge_f 8 36 C dX1_takeNumber_8 (by decide) (by decide) ?_
      refine r_aload_n 11 2 C dX1_takeNumber_11 rfl ?_
      refine r_get 12 C dX1_takeNumber_12 (k := 3) 0 rfl rfl hiX1 (by decide) rfl (mg 1 rfl) (Or.inl rfl) rfl ?_
      refine r_if_ne_t 15 36 C dX1_takeNumber_15 (by decide) (fun h_9 => by have h_8 : (Int32.toInt z4) = 0 := (fa_eq z4 0).mp h_9; omega) ?_
      refine r_aload_n 36 2 C dX1_takeNumber_36 rfl ?_
      refine r_get 37 C dX1_takeNumber_37 (k := 3) 0 rfl rfl hiX1 (by decide) rfl (mg 1 rfl) (Or.inl rfl) rfl ?_
      refine r_if_ne_t 40 47 C dX1_takeNumber_40 (by decide) (fun h_9 => by have h_8 : (Int32.toInt z4) = 0 := (fa_eq z4 0).mp h_9; omega) ?_
      refine r_lconst 47 0 C dX1_takeNumber_47 (by decide) ?_
      exact r_lret 48 Rt dX1_takeNumber_48 (z4, z5) (show 0 ≤ (Int64.toInt 0) ∧ (Int64.toInt 0) ≤ 65535 ∧ 0 ≤ (Int32.toInt z4) ∧ (Int32.toInt z4) ≤ 2 ∧ -8589934592 ≤ (Int64.toInt z5) ∧ (Int64.toInt z5) ≤ 8589934592 ∧ SEQ (Int32.toInt x0) (Int32.toInt z4) (NUMO (GB fn0 (Int32.toInt x3)) (Int32.toInt x3) (Int64.toInt y1) (Int64.toInt y0) 2) (fun v => v = 0 ∧ (Int64.toInt z5) = (Int64.toInt y0) + (2 : Int)) ∧ (0 ≤ 0 ∧ 0 ≤ 65535) ∧ NBND (2 : Int) 0 ∧ (¬ ((Int32.toInt z4) = 0) ∨ ((Int32.toInt x0) = 0 ∧ ((2 : Int) ≤ 0 ∨ (0 ≤ (Int64.toInt y0) ∧ (Int64.toInt z5) ≤ (Int32.toInt x3) ∧ (Int64.toInt z5) = (Int64.toInt y0) + (2 : Int))))) ∧ ((Int64.toInt y0) ≤ (Int64.toInt z5) ∧ ((Int64.toInt z5) = (Int64.toInt y0) ∨ (Int64.toInt z5) ≤ (Int32.toInt x3))) from ⟨(by ((repeat' apply And.intro) <;> first | trivial | rfl | assumption | omega | decide | exact Or.inl rfl | exact Or.inr (Or.inl rfl) | exact Or.inr (Or.inr rfl))), (by ((repeat' apply And.intro) <;> first | trivial | rfl | assumption | omega | decide | exact Or.inl rfl | exact Or.inr (Or.inl rfl) | exact Or.inr (Or.inr rfl))), (show _ ∧ _ from ⟨p11, p12⟩).1, (show _ ∧ _ from ⟨p11, p12⟩).2, (show _ ∧ _ from ⟨p13, p14⟩).1, (show _ ∧ _ from ⟨p13, p14⟩).2, (by first | exact num_stop (num_step num_0 p15) (by omega) (by decide) | exact seq_imp (num_step num_0 p15) (fun v_9 _ h_9 => by obtain ⟨h_1, h_2⟩ := h_9; exact ⟨by omega, by omega⟩)), (by ((repeat' apply And.intro) <;> first | trivial | rfl | assumption | omega | decide | exact Or.inl rfl | exact Or.inr (Or.inl rfl) | exact Or.inr (Or.inr rfl))), (by unfold NBND; omega), (by ((repeat' apply And.intro) <;> first | trivial | rfl | assumption | omega | decide | exact Or.inl rfl | exact Or.inr (Or.inl rfl) | exact Or.inr (Or.inr rfl))), (by ((repeat' apply And.intro) <;> first | trivial | rfl | assumption | omega | decide | exact Or.inl rfl | exact Or.inr (Or.inl rfl) | exact Or.inr (Or.inr rfl)))⟩) [0, 1, 2] (by decide) rfl (Nat.le_of_ble_eq_true rfl) (Nat.le_of_ble_eq_true rfl)
    obtain ⟨k22, k23, k24, k25, k26, k27, k28⟩ := p16
    obtain ⟨z29, ez29⟩ : ∃ z_9, Int32.toInt64 r6 = z_9 := ⟨_, rfl⟩
    have tz29 : (Int64.toInt z29) = (Int32.toInt r6) := by rw [← ez29]; exact Int32.toInt_toInt64 _
    refine r_i2l 27 z29 C dX1_takeNumber_27 ez29 ?_
    obtain ⟨z30, ez30⟩ : ∃ z_9, 0 + z29 = z_9 := ⟨_, rfl⟩
    have tz30 : (Int64.toInt z30) = 0 + (Int64.toInt z29) := by rw [← ez30]; exact fb_addLv (a := 0) (b := 0) (c := (-1)) (d := 255) ⟨by decide, by decide⟩ (iv_eq ⟨p9, p10⟩ tz29) (by decide) (by decide)
    refine r_ladd 28 z30 C dX1_takeNumber_28 ez30 ?_
    refine r_lstore_n 29 C dX1_takeNumber_29 [(2, .long z30), (4, .int 0), (0, .ref h0), (1, .int 2)] (by decide) rfl ?_
    refine r_iinc 30 1 1 C dX1_takeNumber_30 rfl (by decide) [(4, .int 1), (2, .long z30), (0, .ref h0), (1, .int 2)] (by decide) rfl ?_
    refine r_goto 33 5 C dX1_takeNumber_33 (by decide) ?_
    refine r_iload 5 0 C dX1_takeNumber_5 rfl ?_
    refine r_iload_n 7 3 C dX1_takeNumber_7 rfl ?_
    refine r_icmp_ge_f 8 36 C dX1_takeNumber_8 (by decide) (by decide) ?_
    refine r_aload_n 11 2 C dX1_takeNumber_11 rfl ?_
    refine r_get 12 C dX1_takeNumber_12 (k := 3) 0 rfl rfl hiX1 (by decide) rfl (mg 1 rfl) (Or.inl rfl) rfl ?_
    refine r_if_ne_f 15 36 C dX1_takeNumber_15 (by decide) ((fa_eq z4 0).mpr (by show (Int32.toInt z4) = 0; omega)) ?_
    refine r_lload_n 18 1 C dX1_takeNumber_18 rfl ?_
    refine r_ldc2 19 256 C dX1_takeNumber_19 (mg 2 rfl) ?_
    obtain ⟨z31, ez31⟩ : ∃ z_9, z30 * 256 = z_9 := ⟨_, rfl⟩
    have tz31 : (Int64.toInt z31) = (Int64.toInt z30) * 256 := by rw [← ez31]; exact fb_mulLv (a := (-1)) (b := 255) (c := 256) (iv_wide (c := (-1)) (d := 255) (iv_add (a := 0) (b := 0) (c := (-1)) (d := 255) ⟨by decide, by decide⟩ (iv_eq ⟨p9, p10⟩ tz29) tz30) (by decide) (by decide)) (by decide) (by decide) (by decide) (by decide)
    refine r_lmul 22 z31 C dX1_takeNumber_22 ez31 ?_
    refine r_aload_n 23 2 C dX1_takeNumber_23 rfl ?_
    refine r_callVi 24 C dX1_takeNumber_24 [.long z31] [(h0, .inr (1, [.ref h3, .ref h4, .ref h1, .int z4, .long z5, .long y1, .int x1, .int x2, .long y2, .long y3])), (h1, .inr (4, [.ref h2, .int x3])), (h2, .inl (gB g, 1500, .inl fn0))] [] (fun sz => c52_X1_take l g h0 h1 h2 h3 h4 z4 z5 y1 x1 x2 y2 y3 x3 fn0 ⟨p11, p12⟩ ⟨p13, p14⟩ i_x1 i_x2 i_y2 i_y3 i_x3 sz) gX1_takeNumber_X1_take rfl ⟨rfl, rfl⟩ 0 (by decide) ⟨Nat.le_of_ble_eq_true rfl, Nat.le_of_ble_eq_true rfl⟩ 0 rfl rfl [0, 1, 2] [] rfl rfl (by decide) (by decide) (by decide) rfl rfl (Nat.le_of_ble_eq_true rfl) ⟨Nat.le_of_ble_eq_true rfl, Nat.le_of_ble_eq_true rfl⟩ (fun r34 u36 w35 => ?_)
    obtain ⟨z32, z33⟩ := u36
    refine r_ws [(h0, .inr (1, [.ref h3, .ref h4, .ref h1, .int z32, .long z33, .long y1, .int x1, .int x2, .long y2, .long y3])), (h1, .inr (4, [.ref h2, .int x3])), (h2, .inl (gB g, 1500, .inl fn0))] rfl ?_
    have p37 : -1 ≤ (Int32.toInt r34) := w35.1
    have p38 : (Int32.toInt r34) ≤ 255 := w35.2.1
    have p39 : 0 ≤ (Int32.toInt z32) := w35.2.2.1
    have p40 : (Int32.toInt z32) ≤ 2 := w35.2.2.2.1
    have p41 : -8589934592 ≤ (Int64.toInt z33) := w35.2.2.2.2.1
    have p42 : (Int64.toInt z33) ≤ 8589934592 := w35.2.2.2.2.2.1
    have p43 : SEQ (Int32.toInt z4) (Int32.toInt z32) (BYT (GB fn0 (Int32.toInt x3)) (Int32.toInt x3) (Int64.toInt y1) (Int64.toInt z5)) (fun v => v = (Int32.toInt r34) ∧ (Int64.toInt z33) = (Int64.toInt z5) + 1) := w35.2.2.2.2.2.2.1
    have p44 : (((Int32.toInt r34) = -1 ∧ 1 ≤ (Int32.toInt z32) ∧ (Int64.toInt z33) = (Int64.toInt z5)) ∨ ((Int32.toInt z4) = 0 ∧ (Int32.toInt z32) = 0 ∧ 0 ≤ (Int64.toInt z5) ∧ (Int64.toInt z5) < (Int32.toInt x3) ∧ (Int64.toInt z5) < (Int64.toInt y1) ∧ (Int64.toInt z33) = (Int64.toInt z5) + 1 ∧ 0 ≤ (Int32.toInt r34))) := w35.2.2.2.2.2.2.2
    rcases p44 with ⟨k45, k46, k47⟩ | p44
    · skip
      obtain ⟨z48, ez48⟩ : ∃ z_9, Int32.toInt64 r34 = z_9 := ⟨_, rfl⟩
      have tz48 : (Int64.toInt z48) = (Int32.toInt r34) := by rw [← ez48]; exact Int32.toInt_toInt64 _
      refine r_i2l 27 z48 C dX1_takeNumber_27 ez48 ?_
      obtain ⟨z49, ez49⟩ : ∃ z_9, z31 + z48 = z_9 := ⟨_, rfl⟩
      have tz49 : (Int64.toInt z49) = (Int64.toInt z31) + (Int64.toInt z48) := by rw [← ez49]; exact fb_addLv (a := (-256)) (b := 65280) (c := (-1)) (d := 255) (iv_wide (c := (-256)) (d := 65280) (iv_mul (a := (-1)) (b := 255) (c := 256) (iv_wide (c := (-1)) (d := 255) (iv_add (a := 0) (b := 0) (c := (-1)) (d := 255) ⟨by decide, by decide⟩ (iv_eq ⟨p9, p10⟩ tz29) tz30) (by decide) (by decide)) (by decide) tz31) (by decide) (by decide)) (iv_eq ⟨p37, p38⟩ tz48) (by decide) (by decide)
      refine r_ladd 28 z49 C dX1_takeNumber_28 ez49 ?_
      refine r_lstore_n 29 C dX1_takeNumber_29 [(2, .long z49), (4, .int 1), (0, .ref h0), (1, .int 2)] (by decide) rfl ?_
      refine r_iinc 30 1 2 C dX1_takeNumber_30 rfl (by decide) [(4, .int 2), (2, .long z49), (0, .ref h0), (1, .int 2)] (by decide) rfl ?_
      refine r_goto 33 5 C dX1_takeNumber_33 (by decide) ?_
      refine r_iload 5 0 C dX1_takeNumber_5 rfl ?_
      refine r_iload_n 7 3 C dX1_takeNumber_7 rfl ?_
      refine r_icmp_ge_t 8 36 C dX1_takeNumber_8 (by decide) (by decide) ?_
      refine r_aload_n 36 2 C dX1_takeNumber_36 rfl ?_
      refine r_get 37 C dX1_takeNumber_37 (k := 3) 0 rfl rfl hiX1 (by decide) rfl (mg 1 rfl) (Or.inl rfl) rfl ?_
      refine r_if_ne_t 40 47 C dX1_takeNumber_40 (by decide) (fun h_9 => by have h_8 : (Int32.toInt z32) = 0 := (fa_eq z32 0).mp h_9; omega) ?_
      refine r_lconst 47 0 C dX1_takeNumber_47 (by decide) ?_
      exact r_lret 48 Rt dX1_takeNumber_48 (z32, z33) (show 0 ≤ (Int64.toInt 0) ∧ (Int64.toInt 0) ≤ 65535 ∧ 0 ≤ (Int32.toInt z32) ∧ (Int32.toInt z32) ≤ 2 ∧ -8589934592 ≤ (Int64.toInt z33) ∧ (Int64.toInt z33) ≤ 8589934592 ∧ SEQ (Int32.toInt x0) (Int32.toInt z32) (NUMO (GB fn0 (Int32.toInt x3)) (Int32.toInt x3) (Int64.toInt y1) (Int64.toInt y0) 2) (fun v => v = 0 ∧ (Int64.toInt z33) = (Int64.toInt y0) + (2 : Int)) ∧ (0 ≤ 0 ∧ 0 ≤ 65535) ∧ NBND (2 : Int) 0 ∧ (¬ ((Int32.toInt z32) = 0) ∨ ((Int32.toInt x0) = 0 ∧ ((2 : Int) ≤ 0 ∨ (0 ≤ (Int64.toInt y0) ∧ (Int64.toInt z33) ≤ (Int32.toInt x3) ∧ (Int64.toInt z33) = (Int64.toInt y0) + (2 : Int))))) ∧ ((Int64.toInt y0) ≤ (Int64.toInt z33) ∧ ((Int64.toInt z33) = (Int64.toInt y0) ∨ (Int64.toInt z33) ≤ (Int32.toInt x3))) from ⟨(by ((repeat' apply And.intro) <;> first | trivial | rfl | assumption | omega | decide | exact Or.inl rfl | exact Or.inr (Or.inl rfl) | exact Or.inr (Or.inr rfl))), (by ((repeat' apply And.intro) <;> first | trivial | rfl | assumption | omega | decide | exact Or.inl rfl | exact Or.inr (Or.inl rfl) | exact Or.inr (Or.inr rfl))), (show _ ∧ _ from ⟨p39, p40⟩).1, (show _ ∧ _ from ⟨p39, p40⟩).2, (show _ ∧ _ from ⟨p41, p42⟩).1, (show _ ∧ _ from ⟨p41, p42⟩).2, (by first | exact num_stop (num_step (num_step num_0 p15) p43) (by omega) (by decide) | exact seq_imp (num_step (num_step num_0 p15) p43) (fun v_9 _ h_9 => by obtain ⟨h_1, h_2⟩ := h_9; exact ⟨by omega, by omega⟩)), (by ((repeat' apply And.intro) <;> first | trivial | rfl | assumption | omega | decide | exact Or.inl rfl | exact Or.inr (Or.inl rfl) | exact Or.inr (Or.inr rfl))), (by unfold NBND; omega), (by ((repeat' apply And.intro) <;> first | trivial | rfl | assumption | omega | decide | exact Or.inl rfl | exact Or.inr (Or.inl rfl) | exact Or.inr (Or.inr rfl))), (by ((repeat' apply And.intro) <;> first | trivial | rfl | assumption | omega | decide | exact Or.inl rfl | exact Or.inr (Or.inl rfl) | exact Or.inr (Or.inr rfl)))⟩) [0, 1, 2] (by decide) rfl (Nat.le_of_ble_eq_true rfl) (Nat.le_of_ble_eq_true rfl)
    obtain ⟨k50, k51, k52, k53, k54, k55, k56⟩ := p44
    obtain ⟨z57, ez57⟩ : ∃ z_9, Int32.toInt64 r34 = z_9 := ⟨_, rfl⟩
    have tz57 : (Int64.toInt z57) = (Int32.toInt r34) := by rw [← ez57]; exact Int32.toInt_toInt64 _
    refine r_i2l 27 z57 C dX1_takeNumber_27 ez57 ?_
    obtain ⟨z58, ez58⟩ : ∃ z_9, z31 + z57 = z_9 := ⟨_, rfl⟩
    have tz58 : (Int64.toInt z58) = (Int64.toInt z31) + (Int64.toInt z57) := by rw [← ez58]; exact fb_addLv (a := (-256)) (b := 65280) (c := (-1)) (d := 255) (iv_wide (c := (-256)) (d := 65280) (iv_mul (a := (-1)) (b := 255) (c := 256) (iv_wide (c := (-1)) (d := 255) (iv_add (a := 0) (b := 0) (c := (-1)) (d := 255) ⟨by decide, by decide⟩ (iv_eq ⟨p9, p10⟩ tz29) tz30) (by decide) (by decide)) (by decide) tz31) (by decide) (by decide)) (iv_eq ⟨p37, p38⟩ tz57) (by decide) (by decide)
    refine r_ladd 28 z58 C dX1_takeNumber_28 ez58 ?_
    refine r_lstore_n 29 C dX1_takeNumber_29 [(2, .long z58), (4, .int 1), (0, .ref h0), (1, .int 2)] (by decide) rfl ?_
    refine r_iinc 30 1 2 C dX1_takeNumber_30 rfl (by decide) [(4, .int 2), (2, .long z58), (0, .ref h0), (1, .int 2)] (by decide) rfl ?_
    refine r_goto 33 5 C dX1_takeNumber_33 (by decide) ?_
    refine r_iload 5 0 C dX1_takeNumber_5 rfl ?_
    refine r_iload_n 7 3 C dX1_takeNumber_7 rfl ?_
    refine r_icmp_ge_t 8 36 C dX1_takeNumber_8 (by decide) (by decide) ?_
    refine r_aload_n 36 2 C dX1_takeNumber_36 rfl ?_
    refine r_get 37 C dX1_takeNumber_37 (k := 3) 0 rfl rfl hiX1 (by decide) rfl (mg 1 rfl) (Or.inl rfl) rfl ?_
    refine r_if_ne_f 40 47 C dX1_takeNumber_40 (by decide) ((fa_eq z32 0).mpr (by show (Int32.toInt z32) = 0; omega)) ?_
    refine r_lload_n 43 1 C dX1_takeNumber_43 rfl ?_
    refine r_goto 44 48 C dX1_takeNumber_44 (by decide) ?_
    exact r_lret 48 Rt dX1_takeNumber_48 (z32, z33) (show 0 ≤ (Int64.toInt z58) ∧ (Int64.toInt z58) ≤ 65535 ∧ 0 ≤ (Int32.toInt z32) ∧ (Int32.toInt z32) ≤ 2 ∧ -8589934592 ≤ (Int64.toInt z33) ∧ (Int64.toInt z33) ≤ 8589934592 ∧ SEQ (Int32.toInt x0) (Int32.toInt z32) (NUMO (GB fn0 (Int32.toInt x3)) (Int32.toInt x3) (Int64.toInt y1) (Int64.toInt y0) 2) (fun v => v = (Int64.toInt z58) ∧ (Int64.toInt z33) = (Int64.toInt y0) + (2 : Int)) ∧ (0 ≤ (Int64.toInt z58) ∧ (Int64.toInt z58) ≤ 65535) ∧ NBND (2 : Int) (Int64.toInt z58) ∧ (¬ ((Int32.toInt z32) = 0) ∨ ((Int32.toInt x0) = 0 ∧ ((2 : Int) ≤ 0 ∨ (0 ≤ (Int64.toInt y0) ∧ (Int64.toInt z33) ≤ (Int32.toInt x3) ∧ (Int64.toInt z33) = (Int64.toInt y0) + (2 : Int))))) ∧ ((Int64.toInt y0) ≤ (Int64.toInt z33) ∧ ((Int64.toInt z33) = (Int64.toInt y0) ∨ (Int64.toInt z33) ≤ (Int32.toInt x3))) from ⟨(by ((repeat' apply And.intro) <;> first | trivial | rfl | assumption | omega | decide | exact Or.inl rfl | exact Or.inr (Or.inl rfl) | exact Or.inr (Or.inr rfl))), (by ((repeat' apply And.intro) <;> first | trivial | rfl | assumption | omega | decide | exact Or.inl rfl | exact Or.inr (Or.inl rfl) | exact Or.inr (Or.inr rfl))), (show _ ∧ _ from ⟨p39, p40⟩).1, (show _ ∧ _ from ⟨p39, p40⟩).2, (show _ ∧ _ from ⟨p41, p42⟩).1, (show _ ∧ _ from ⟨p41, p42⟩).2, (by first | exact num_stop (num_step (num_step num_0 p15) p43) (by omega) (by decide) | exact seq_imp (num_step (num_step num_0 p15) p43) (fun v_9 _ h_9 => by obtain ⟨h_1, h_2⟩ := h_9; exact ⟨by omega, by omega⟩)), (by ((repeat' apply And.intro) <;> first | trivial | rfl | assumption | omega | decide | exact Or.inl rfl | exact Or.inr (Or.inl rfl) | exact Or.inr (Or.inr rfl))), (by unfold NBND; omega), (by ((repeat' apply And.intro) <;> first | trivial | rfl | assumption | omega | decide | exact Or.inl rfl | exact Or.inr (Or.inl rfl) | exact Or.inr (Or.inr rfl))), (by ((repeat' apply And.intro) <;> first | trivial | rfl | assumption | omega | decide | exact Or.inl rfl | exact Or.inr (Or.inl rfl) | exact Or.inr (Or.inr rfl)))⟩) [0, 1, 2] (by decide) rfl (Nat.le_of_ble_eq_true rfl) (Nat.le_of_ble_eq_true rfl)
set_option maxHeartbeats 4000000 in
set_option maxRecDepth 100000 in
theorem c56_X1_takeNumber (l : Launch) (g : GD) (h0 : Nat) (h1 : Nat) (h2 : Nat) (x0 : Int32) (h3 : Nat) (h4 : Nat) (x1 : Int32) (y0 : Int64) (y1 : Int64) (x2 : Int32) (x3 : Int32) (y2 : Int64) (y3 : Int64) (x4 : Int32) (fn0 : Nat → Int32) (i_x1 : (0 ≤ (Int32.toInt x1) ∧ (Int32.toInt x1) ≤ 2)) (i_y0 : (-8589934592 ≤ (Int64.toInt y0) ∧ (Int64.toInt y0) ≤ 8589934592)) (i_x2 : (-257 ≤ (Int32.toInt x2) ∧ (Int32.toInt x2) ≤ 65535)) (i_x3 : (-1 ≤ (Int32.toInt x3) ∧ (Int32.toInt x3) ≤ 255)) (i_y2 : (-8589934592 ≤ (Int64.toInt y2) ∧ (Int64.toInt y2) ≤ 8589934592)) (i_y3 : (-8589934592 ≤ (Int64.toInt y3) ∧ (Int64.toInt y3) ≤ 8589934592)) (i_x4 : (0 ≤ (Int32.toInt x4) ∧ (Int32.toInt x4) ≤ 1500)) (pre0 : (¬ ((Int32.toInt x1) = 0) ∨ (0 ≤ (Int32.toInt x0) ∧ (Int32.toInt x0) ≤ 4))) (sz : Nat) : Met l yX1_takeNumber wsX1_takeNumber ({ frames := 2, cells := 0, slots := 0, locals := 43 }) (va_Pc [.ref h0, .int x0] (PW g [(h0, .inr (1, [.ref h3, .ref h4, .ref h1, .int x1, .long y0, .long y1, .int x2, .int x3, .long y2, .long y3])), (h1, .inr (4, [.ref h2, .int x4])), (h2, .inl (gB g, 1500, .inl fn0))] sz)) (va_Ql (fun (r : Int64) (u : (Int32) × (Int64)) => -1 ≤ (Int64.toInt r) ∧ (Int64.toInt r) ≤ 1099511627776 ∧ 0 ≤ (Int32.toInt (u.1)) ∧ (Int32.toInt (u.1)) ≤ 2 ∧ -8589934592 ≤ (Int64.toInt (u.2)) ∧ (Int64.toInt (u.2)) ≤ 8589934592 ∧ SEQ (Int32.toInt x1) (Int32.toInt (u.1)) (NUMO (GB fn0 (Int32.toInt x4)) (Int32.toInt x4) (Int64.toInt y1) (Int64.toInt y0) (Int.toNat (Int32.toInt x0))) (fun v => v = (Int64.toInt r) ∧ ((Int32.toInt x0) < 0 ∨ (Int64.toInt (u.2)) = (Int64.toInt y0) + (Int32.toInt x0))) ∧ (0 ≤ (Int64.toInt r) ∧ (Int64.toInt r) ≤ 4294967295) ∧ NBND (Int32.toInt x0) (Int64.toInt r) ∧ (¬ ((Int32.toInt (u.1)) = 0) ∨ ((Int32.toInt x1) = 0 ∧ ((Int32.toInt x0) ≤ 0 ∨ (0 ≤ (Int64.toInt y0) ∧ (Int64.toInt (u.2)) ≤ (Int32.toInt x4) ∧ (Int64.toInt (u.2)) = (Int64.toInt y0) + (Int32.toInt x0))))) ∧ ((Int64.toInt y0) ≤ (Int64.toInt (u.2)) ∧ ((Int64.toInt (u.2)) = (Int64.toInt y0) ∨ (Int64.toInt (u.2)) ≤ (Int32.toInt x4)))) (BW g (va_A [(h0, .inr (1, [.ref h3, .ref h4, .ref h1, .int x1, .long y0, .long y1, .int x2, .int x3, .long y2, .long y3])), (h1, .inr (4, [.ref h2, .int x4])), (h2, .inl (gB g, 1500, .inl fn0))] sz) (fun u : (Int32) × (Int64) => [(h0, .inr (1, [.ref h3, .ref h4, .ref h1, .int u.1, .long u.2, .long y1, .int x2, .int x3, .long y2, .long y3])), (h1, .inr (4, [.ref h2, .int x4])), (h2, .inl (gB g, 1500, .inl fn0))])) (va_A [(h0, .inr (1, [.ref h3, .ref h4, .ref h1, .int x1, .long y0, .long y1, .int x2, .int x3, .long y2, .long y3])), (h1, .inr (4, [.ref h2, .int x4])), (h2, .inl (gB g, 1500, .inl fn0))] sz)) 0 0 (va_A [(h0, .inr (1, [.ref h3, .ref h4, .ref h1, .int x1, .long y0, .long y1, .int x2, .int x3, .long y2, .long y3])), (h1, .inr (4, [.ref h2, .int x4])), (h2, .inl (gB g, 1500, .inl fn0))] sz) := by
  refine met_l RX1 (by decide) rfl rfl (Nat.le_of_ble_eq_true rfl) [(0, .ref h0), (1, .int x0)] rfl ?_
  intro p e s m args below meth c A Q C hnm Rt
  have gx0 := fb_rng x0
  have gy1 := fb_rngL y1
  have hiX1 : ∀ w ∈ wsX10, w ∈ wsX1_takeNumber := fun w h => List.mem_cons_of_mem _ (List.mem_append_left _ (List.mem_append_right _ (h)))
  refine r_lconst 0 0 C dX1_takeNumber_0 (by decide) ?_
  refine r_lstore_n 1 C dX1_takeNumber_1 [(2, .long 0), (0, .ref h0), (1, .int x0)] (by decide) rfl ?_
  refine r_iconst 2 0 C dX1_takeNumber_2 (by decide) ?_
  refine r_istore 3 C dX1_takeNumber_3 [(4, .int 0), (2, .long 0), (0, .ref h0), (1, .int x0)] (by decide) rfl ?_
  have lp6 : ∀ (n5 : Nat) (z1 : Int32) (z2 : Int64) (z3 : Int32) (z4 : Int64), (0 ≤ (Int32.toInt z1) ∧ (Int32.toInt z1) ≤ 300) → (-1 ≤ (Int64.toInt z2) ∧ (Int64.toInt z2) ≤ 1099511627776) → (0 ≤ (Int32.toInt z3) ∧ (Int32.toInt z3) ≤ 2) → (-8589934592 ≤ (Int64.toInt z4) ∧ (Int64.toInt z4) ≤ 8589934592) → ((Int64.toInt y0) ≤ (Int64.toInt z4) ∧ ((Int64.toInt z4) = (Int64.toInt y0) ∨ (Int64.toInt z4) ≤ (Int32.toInt x4)) ∧ (¬ ((Int32.toInt z3) = 0) ∨ (Int32.toInt x1) = 0) ∧ ((Int32.toInt z1) ≤ (Int32.toInt x0) ∨ (Int32.toInt z1) = 0) ∧ (Int32.toInt z1) ≤ 300 ∧ (¬ ((Int32.toInt z3) = 0) ∨ ((((Int32.toInt z1) = 0 ∧ 0 ≤ (Int64.toInt z2) ∧ (Int64.toInt z2) ≤ 0) ∨ ((Int32.toInt z1) = 1 ∧ 0 ≤ (Int64.toInt z2) ∧ (Int64.toInt z2) ≤ 255) ∨ ((Int32.toInt z1) = 2 ∧ 0 ≤ (Int64.toInt z2) ∧ (Int64.toInt z2) ≤ 65535) ∨ ((Int32.toInt z1) = 3 ∧ 0 ≤ (Int64.toInt z2) ∧ (Int64.toInt z2) ≤ 16777215) ∨ ((Int32.toInt z1) = 4 ∧ 0 ≤ (Int64.toInt z2) ∧ (Int64.toInt z2) ≤ 4294967295)) ∧ (Int64.toInt z4) = (Int64.toInt y0) + (Int32.toInt z1) ∧ ((Int32.toInt z1) = 0 ∨ (0 ≤ (Int64.toInt y0) ∧ (Int64.toInt z4) ≤ (Int32.toInt x4)))))) → (SEQ (Int32.toInt x1) (Int32.toInt z3) (NUMO (GB fn0 (Int32.toInt x4)) (Int32.toInt x4) (Int64.toInt y1) (Int64.toInt y0) (Int.toNat (Int32.toInt z1))) (fun v => v = (Int64.toInt z2) ∧ (Int64.toInt z4) = (Int64.toInt y0) + (Int32.toInt z1))) → Int.toNat (300 - (Int32.toInt z1)) < n5 → WW p l e ({ frames := 2, cells := 0, slots := 0, locals := 43 } : Room) s m args below meth c A Q g 5 0 0 [(h0, .inr (1, [.ref h3, .ref h4, .ref h1, .int z3, .long z4, .long y1, .int x2, .int x3, .long y2, .long y3])), (h1, .inr (4, [.ref h2, .int x4])), (h2, .inl (gB g, 1500, .inl fn0))] 5 [(4, .int z1), (2, .long z2), (0, .ref h0), (1, .int x0)] [] := by
    intro n5
    induction n5 with
    | zero => intro z1 z2 z3 z4 i9 i10 i11 i12 j13 j14 hm8; exact absurd hm8 (Nat.not_lt_zero _)
    | succ n5 ih7 =>
      intro z1 z2 z3 z4 i9 i10 i11 i12 j13 j14 hm8
      obtain ⟨i9a, i9b⟩ := i9
      obtain ⟨i10a, i10b⟩ := i10
      obtain ⟨i11a, i11b⟩ := i11
      obtain ⟨i12a, i12b⟩ := i12
      refine r_iload 5 0 C dX1_takeNumber_5 rfl ?_
      refine r_iload_n 7 3 C dX1_takeNumber_7 rfl ?_
      refine r_icmp_ge 8 36 C dX1_takeNumber_8 (by decide) (fun c15 => ?_) (fun c15 => ?_)
      · skip
        have k16 : (Int32.toInt x0) ≤ (Int32.toInt z1) := (fa_le x0 z1).mp c15
        refine r_aload_n 36 2 C dX1_takeNumber_36 rfl ?_
        refine r_get 37 C dX1_takeNumber_37 (k := 3) 0 rfl rfl hiX1 (by decide) rfl (mg 1 rfl) (Or.inl rfl) rfl ?_
        refine r_if_ne 40 47 C dX1_takeNumber_40 (by decide) (fun c17 => ?_) (fun c17 => ?_)
        · skip
          have k18 : ¬ ((Int32.toInt z3) = 0) := fun h_9 => c17 ((fa_eq z3 0).mpr h_9)
          refine r_lconst 47 0 C dX1_takeNumber_47 (by decide) ?_
          exact r_lret 48 Rt dX1_takeNumber_48 (z3, z4) (show -1 ≤ (Int64.toInt 0) ∧ (Int64.toInt 0) ≤ 1099511627776 ∧ 0 ≤ (Int32.toInt z3) ∧ (Int32.toInt z3) ≤ 2 ∧ -8589934592 ≤ (Int64.toInt z4) ∧ (Int64.toInt z4) ≤ 8589934592 ∧ SEQ (Int32.toInt x1) (Int32.toInt z3) (NUMO (GB fn0 (Int32.toInt x4)) (Int32.toInt x4) (Int64.toInt y1) (Int64.toInt y0) (Int.toNat (Int32.toInt x0))) (fun v => v = 0 ∧ ((Int32.toInt x0) < 0 ∨ (Int64.toInt z4) = (Int64.toInt y0) + (Int32.toInt x0))) ∧ (0 ≤ 0 ∧ 0 ≤ 4294967295) ∧ NBND (Int32.toInt x0) 0 ∧ (¬ ((Int32.toInt z3) = 0) ∨ ((Int32.toInt x1) = 0 ∧ ((Int32.toInt x0) ≤ 0 ∨ (0 ≤ (Int64.toInt y0) ∧ (Int64.toInt z4) ≤ (Int32.toInt x4) ∧ (Int64.toInt z4) = (Int64.toInt y0) + (Int32.toInt x0))))) ∧ ((Int64.toInt y0) ≤ (Int64.toInt z4) ∧ ((Int64.toInt z4) = (Int64.toInt y0) ∨ (Int64.toInt z4) ≤ (Int32.toInt x4))) from ⟨(by ((repeat' apply And.intro) <;> first | trivial | rfl | assumption | omega | decide | exact Or.inl rfl | exact Or.inr (Or.inl rfl) | exact Or.inr (Or.inr rfl))), (by ((repeat' apply And.intro) <;> first | trivial | rfl | assumption | omega | decide | exact Or.inl rfl | exact Or.inr (Or.inl rfl) | exact Or.inr (Or.inr rfl))), (show _ ∧ _ from ⟨i11a, i11b⟩).1, (show _ ∧ _ from ⟨i11a, i11b⟩).2, (show _ ∧ _ from ⟨i12a, i12b⟩).1, (show _ ∧ _ from ⟨i12a, i12b⟩).2, (by exact num_endI (show SEQ (Int32.toInt x1) (Int32.toInt z3) (NUMO (GB fn0 (Int32.toInt x4)) (Int32.toInt x4) (Int64.toInt y1) (Int64.toInt y0) (Int.toNat (Int32.toInt z1))) (fun v => v = (Int64.toInt z2) ∧ (Int64.toInt z4) = (Int64.toInt y0) + (Int32.toInt z1)) by assumption) (by omega) (by omega) (by omega)), (by ((repeat' apply And.intro) <;> first | trivial | rfl | assumption | omega | decide | exact Or.inl rfl | exact Or.inr (Or.inl rfl) | exact Or.inr (Or.inr rfl))), (by unfold NBND; omega), (by ((repeat' apply And.intro) <;> first | trivial | rfl | assumption | omega | decide | exact Or.inl rfl | exact Or.inr (Or.inl rfl) | exact Or.inr (Or.inr rfl))), (by ((repeat' apply And.intro) <;> first | trivial | rfl | assumption | omega | decide | exact Or.inl rfl | exact Or.inr (Or.inl rfl) | exact Or.inr (Or.inr rfl)))⟩) [0, 1, 2] (by decide) rfl (Nat.le_of_ble_eq_true rfl) (Nat.le_of_ble_eq_true rfl)
        · skip
          have k19 : (Int32.toInt z3) = 0 := (fa_eq z3 0).mp c17
          refine r_lload_n 43 1 C dX1_takeNumber_43 rfl ?_
          refine r_goto 44 48 C dX1_takeNumber_44 (by decide) ?_
          exact r_lret 48 Rt dX1_takeNumber_48 (z3, z4) (show -1 ≤ (Int64.toInt z2) ∧ (Int64.toInt z2) ≤ 1099511627776 ∧ 0 ≤ (Int32.toInt z3) ∧ (Int32.toInt z3) ≤ 2 ∧ -8589934592 ≤ (Int64.toInt z4) ∧ (Int64.toInt z4) ≤ 8589934592 ∧ SEQ (Int32.toInt x1) (Int32.toInt z3) (NUMO (GB fn0 (Int32.toInt x4)) (Int32.toInt x4) (Int64.toInt y1) (Int64.toInt y0) (Int.toNat (Int32.toInt x0))) (fun v => v = (Int64.toInt z2) ∧ ((Int32.toInt x0) < 0 ∨ (Int64.toInt z4) = (Int64.toInt y0) + (Int32.toInt x0))) ∧ (0 ≤ (Int64.toInt z2) ∧ (Int64.toInt z2) ≤ 4294967295) ∧ NBND (Int32.toInt x0) (Int64.toInt z2) ∧ (¬ ((Int32.toInt z3) = 0) ∨ ((Int32.toInt x1) = 0 ∧ ((Int32.toInt x0) ≤ 0 ∨ (0 ≤ (Int64.toInt y0) ∧ (Int64.toInt z4) ≤ (Int32.toInt x4) ∧ (Int64.toInt z4) = (Int64.toInt y0) + (Int32.toInt x0))))) ∧ ((Int64.toInt y0) ≤ (Int64.toInt z4) ∧ ((Int64.toInt z4) = (Int64.toInt y0) ∨ (Int64.toInt z4) ≤ (Int32.toInt x4))) from ⟨(show _ ∧ _ from ⟨i10a, i10b⟩).1, (show _ ∧ _ from ⟨i10a, i10b⟩).2, (show _ ∧ _ from ⟨i11a, i11b⟩).1, (show _ ∧ _ from ⟨i11a, i11b⟩).2, (show _ ∧ _ from ⟨i12a, i12b⟩).1, (show _ ∧ _ from ⟨i12a, i12b⟩).2, (by exact num_endI (show SEQ (Int32.toInt x1) (Int32.toInt z3) (NUMO (GB fn0 (Int32.toInt x4)) (Int32.toInt x4) (Int64.toInt y1) (Int64.toInt y0) (Int.toNat (Int32.toInt z1))) (fun v => v = (Int64.toInt z2) ∧ (Int64.toInt z4) = (Int64.toInt y0) + (Int32.toInt z1)) by assumption) (by omega) (by omega) (by omega)), (by ((repeat' apply And.intro) <;> first | trivial | rfl | assumption | omega | decide | exact Or.inl rfl | exact Or.inr (Or.inl rfl) | exact Or.inr (Or.inr rfl))), (by unfold NBND; omega), (by ((repeat' apply And.intro) <;> first | trivial | rfl | assumption | omega | decide | exact Or.inl rfl | exact Or.inr (Or.inl rfl) | exact Or.inr (Or.inr rfl))), (by ((repeat' apply And.intro) <;> first | trivial | rfl | assumption | omega | decide | exact Or.inl rfl | exact Or.inr (Or.inl rfl) | exact Or.inr (Or.inr rfl)))⟩) [0, 1, 2] (by decide) rfl (Nat.le_of_ble_eq_true rfl) (Nat.le_of_ble_eq_true rfl)
      · skip
        have k20 : ¬ ((Int32.toInt x0) ≤ (Int32.toInt z1)) := fun h_9 => c15 ((fa_le x0 z1).mpr h_9)
        refine r_aload_n 11 2 C dX1_takeNumber_11 rfl ?_
        refine r_get 12 C dX1_takeNumber_12 (k := 3) 0 rfl rfl hiX1 (by decide) rfl (mg 1 rfl) (Or.inl rfl) rfl ?_
        refine r_if_ne 15 36 C dX1_takeNumber_15 (by decide) (fun c21 => ?_) (fun c21 => ?_)
        · skip
          have k22 : ¬ ((Int32.toInt z3) = 0) := fun h_9 => c21 ((fa_eq z3 0).mpr h_9)
          refine r_aload_n 36 2 C dX1_takeNumber_36 rfl ?_
          refine r_get 37 C dX1_takeNumber_37 (k := 3) 0 rfl rfl hiX1 (by decide) rfl (mg 1 rfl) (Or.inl rfl) rfl ?_
          refine r_if_ne_t 40 47 C dX1_takeNumber_40 (by decide) (fun h_9 => by have h_8 : (Int32.toInt z3) = 0 := (fa_eq z3 0).mp h_9; omega) ?_
          refine r_lconst 47 0 C dX1_takeNumber_47 (by decide) ?_
          exact r_lret 48 Rt dX1_takeNumber_48 (z3, z4) (show -1 ≤ (Int64.toInt 0) ∧ (Int64.toInt 0) ≤ 1099511627776 ∧ 0 ≤ (Int32.toInt z3) ∧ (Int32.toInt z3) ≤ 2 ∧ -8589934592 ≤ (Int64.toInt z4) ∧ (Int64.toInt z4) ≤ 8589934592 ∧ SEQ (Int32.toInt x1) (Int32.toInt z3) (NUMO (GB fn0 (Int32.toInt x4)) (Int32.toInt x4) (Int64.toInt y1) (Int64.toInt y0) (Int.toNat (Int32.toInt x0))) (fun v => v = 0 ∧ ((Int32.toInt x0) < 0 ∨ (Int64.toInt z4) = (Int64.toInt y0) + (Int32.toInt x0))) ∧ (0 ≤ 0 ∧ 0 ≤ 4294967295) ∧ NBND (Int32.toInt x0) 0 ∧ (¬ ((Int32.toInt z3) = 0) ∨ ((Int32.toInt x1) = 0 ∧ ((Int32.toInt x0) ≤ 0 ∨ (0 ≤ (Int64.toInt y0) ∧ (Int64.toInt z4) ≤ (Int32.toInt x4) ∧ (Int64.toInt z4) = (Int64.toInt y0) + (Int32.toInt x0))))) ∧ ((Int64.toInt y0) ≤ (Int64.toInt z4) ∧ ((Int64.toInt z4) = (Int64.toInt y0) ∨ (Int64.toInt z4) ≤ (Int32.toInt x4))) from ⟨(by ((repeat' apply And.intro) <;> first | trivial | rfl | assumption | omega | decide | exact Or.inl rfl | exact Or.inr (Or.inl rfl) | exact Or.inr (Or.inr rfl))), (by ((repeat' apply And.intro) <;> first | trivial | rfl | assumption | omega | decide | exact Or.inl rfl | exact Or.inr (Or.inl rfl) | exact Or.inr (Or.inr rfl))), (show _ ∧ _ from ⟨i11a, i11b⟩).1, (show _ ∧ _ from ⟨i11a, i11b⟩).2, (show _ ∧ _ from ⟨i12a, i12b⟩).1, (show _ ∧ _ from ⟨i12a, i12b⟩).2, (by exact num_endI (show SEQ (Int32.toInt x1) (Int32.toInt z3) (NUMO (GB fn0 (Int32.toInt x4)) (Int32.toInt x4) (Int64.toInt y1) (Int64.toInt y0) (Int.toNat (Int32.toInt z1))) (fun v => v = (Int64.toInt z2) ∧ (Int64.toInt z4) = (Int64.toInt y0) + (Int32.toInt z1)) by assumption) (by omega) (by omega) (by omega)), (by ((repeat' apply And.intro) <;> first | trivial | rfl | assumption | omega | decide | exact Or.inl rfl | exact Or.inr (Or.inl rfl) | exact Or.inr (Or.inr rfl))), (by unfold NBND; omega), (by ((repeat' apply And.intro) <;> first | trivial | rfl | assumption | omega | decide | exact Or.inl rfl | exact Or.inr (Or.inl rfl) | exact Or.inr (Or.inr rfl))), (by ((repeat' apply And.intro) <;> first | trivial | rfl | assumption | omega | decide | exact Or.inl rfl | exact Or.inr (Or.inl rfl) | exact Or.inr (Or.inr rfl)))⟩) [0, 1, 2] (by decide) rfl (Nat.le_of_ble_eq_true rfl) (Nat.le_of_ble_eq_true rfl)
        · skip
          have k23 : (Int32.toInt z3) = 0 := (fa_eq z3 0).mp c21
          refine r_lload_n 18 1 C dX1_takeNumber_18 rfl ?_
          refine r_ldc2 19 256 C dX1_takeNumber_19 (mg 2 rfl) ?_
          obtain ⟨z24, ez24⟩ : ∃ z_9, z2 * 256 = z_9 := ⟨_, rfl⟩
          have tz24 : (Int64.toInt z24) = (Int64.toInt z2) * 256 := by rw [← ez24]; exact fb_mulLv (a := (-1)) (b := 1099511627776) (c := 256) ⟨i10a, i10b⟩ (by decide) (by decide) (by decide) (by decide)
          refine r_lmul 22 z24 C dX1_takeNumber_22 ez24 ?_
          refine r_aload_n 23 2 C dX1_takeNumber_23 rfl ?_
          refine r_callVi 24 C dX1_takeNumber_24 [.long z24] [(h0, .inr (1, [.ref h3, .ref h4, .ref h1, .int z3, .long z4, .long y1, .int x2, .int x3, .long y2, .long y3])), (h1, .inr (4, [.ref h2, .int x4])), (h2, .inl (gB g, 1500, .inl fn0))] [] (fun sz => c52_X1_take l g h0 h1 h2 h3 h4 z3 z4 y1 x2 x3 y2 y3 x4 fn0 ⟨i11a, i11b⟩ ⟨i12a, i12b⟩ i_x2 i_x3 i_y2 i_y3 i_x4 sz) gX1_takeNumber_X1_take rfl ⟨rfl, rfl⟩ 0 (by decide) ⟨Nat.le_of_ble_eq_true rfl, Nat.le_of_ble_eq_true rfl⟩ 0 rfl rfl [0, 1, 2] [] rfl rfl (by decide) (by decide) (by decide) rfl rfl (Nat.le_of_ble_eq_true rfl) ⟨Nat.le_of_ble_eq_true rfl, Nat.le_of_ble_eq_true rfl⟩ (fun r27 u29 w28 => ?_)
          obtain ⟨z25, z26⟩ := u29
          refine r_ws [(h0, .inr (1, [.ref h3, .ref h4, .ref h1, .int z25, .long z26, .long y1, .int x2, .int x3, .long y2, .long y3])), (h1, .inr (4, [.ref h2, .int x4])), (h2, .inl (gB g, 1500, .inl fn0))] rfl ?_
          have p30 : -1 ≤ (Int32.toInt r27) := w28.1
          have p31 : (Int32.toInt r27) ≤ 255 := w28.2.1
          have p32 : 0 ≤ (Int32.toInt z25) := w28.2.2.1
          have p33 : (Int32.toInt z25) ≤ 2 := w28.2.2.2.1
          have p34 : -8589934592 ≤ (Int64.toInt z26) := w28.2.2.2.2.1
          have p35 : (Int64.toInt z26) ≤ 8589934592 := w28.2.2.2.2.2.1
          have p36 : SEQ (Int32.toInt z3) (Int32.toInt z25) (BYT (GB fn0 (Int32.toInt x4)) (Int32.toInt x4) (Int64.toInt y1) (Int64.toInt z4)) (fun v => v = (Int32.toInt r27) ∧ (Int64.toInt z26) = (Int64.toInt z4) + 1) := w28.2.2.2.2.2.2.1
          have p37 : (((Int32.toInt r27) = -1 ∧ 1 ≤ (Int32.toInt z25) ∧ (Int64.toInt z26) = (Int64.toInt z4)) ∨ ((Int32.toInt z3) = 0 ∧ (Int32.toInt z25) = 0 ∧ 0 ≤ (Int64.toInt z4) ∧ (Int64.toInt z4) < (Int32.toInt x4) ∧ (Int64.toInt z4) < (Int64.toInt y1) ∧ (Int64.toInt z26) = (Int64.toInt z4) + 1 ∧ 0 ≤ (Int32.toInt r27))) := w28.2.2.2.2.2.2.2
          rcases p37 with ⟨k38, k39, k40⟩ | p37
          · skip
            obtain ⟨z41, ez41⟩ : ∃ z_9, Int32.toInt64 r27 = z_9 := ⟨_, rfl⟩
            have tz41 : (Int64.toInt z41) = (Int32.toInt r27) := by rw [← ez41]; exact Int32.toInt_toInt64 _
            refine r_i2l 27 z41 C dX1_takeNumber_27 ez41 ?_
            obtain ⟨z42, ez42⟩ : ∃ z_9, z24 + z41 = z_9 := ⟨_, rfl⟩
            have tz42 : (Int64.toInt z42) = (Int64.toInt z24) + (Int64.toInt z41) := by rw [← ez42]; exact fb_addLv (a := (-256)) (b := 281474976710656) (c := (-1)) (d := 255) (iv_wide (c := (-256)) (d := 281474976710656) (iv_mul (a := (-1)) (b := 1099511627776) (c := 256) ⟨i10a, i10b⟩ (by decide) tz24) (by decide) (by decide)) (iv_eq ⟨p30, p31⟩ tz41) (by decide) (by decide)
            refine r_ladd 28 z42 C dX1_takeNumber_28 ez42 ?_
            refine r_lstore_n 29 C dX1_takeNumber_29 [(2, .long z42), (4, .int z1), (0, .ref h0), (1, .int x0)] (by decide) rfl ?_
            obtain ⟨z43, ez43⟩ : ∃ z_9, z1 + Int32.ofInt 1 = z_9 := ⟨_, rfl⟩
            have tz43 : (Int32.toInt z43) = (Int32.toInt z1) + 1 := by rw [← ez43]; exact fb_addIv (a := 0) (b := 300) (c := 1) (d := 1) ⟨i9a, i9b⟩ ⟨by decide, by decide⟩ (by decide) (by decide)
            refine r_iinc 30 1 z43 C dX1_takeNumber_30 rfl ez43 [(4, .int z43), (2, .long z42), (0, .ref h0), (1, .int x0)] (by decide) rfl ?_
            refine r_goto 33 5 C dX1_takeNumber_33 (by decide) ?_
            exact ih7 z43 z42 z25 z26 ⟨by omega, by omega⟩ ⟨by omega, by omega⟩ ⟨p32, p33⟩ ⟨p34, p35⟩ (by show (Int64.toInt y0) ≤ (Int64.toInt z26) ∧ ((Int64.toInt z26) = (Int64.toInt y0) ∨ (Int64.toInt z26) ≤ (Int32.toInt x4)) ∧ (¬ ((Int32.toInt z25) = 0) ∨ (Int32.toInt x1) = 0) ∧ ((Int32.toInt z43) ≤ (Int32.toInt x0) ∨ (Int32.toInt z43) = 0) ∧ (Int32.toInt z43) ≤ 300 ∧ (¬ ((Int32.toInt z25) = 0) ∨ ((((Int32.toInt z43) = 0 ∧ 0 ≤ (Int64.toInt z42) ∧ (Int64.toInt z42) ≤ 0) ∨ ((Int32.toInt z43) = 1 ∧ 0 ≤ (Int64.toInt z42) ∧ (Int64.toInt z42) ≤ 255) ∨ ((Int32.toInt z43) = 2 ∧ 0 ≤ (Int64.toInt z42) ∧ (Int64.toInt z42) ≤ 65535) ∨ ((Int32.toInt z43) = 3 ∧ 0 ≤ (Int64.toInt z42) ∧ (Int64.toInt z42) ≤ 16777215) ∨ ((Int32.toInt z43) = 4 ∧ 0 ≤ (Int64.toInt z42) ∧ (Int64.toInt z42) ≤ 4294967295)) ∧ (Int64.toInt z26) = (Int64.toInt y0) + (Int32.toInt z43) ∧ ((Int32.toInt z43) = 0 ∨ (0 ≤ (Int64.toInt y0) ∧ (Int64.toInt z26) ≤ (Int32.toInt x4))))); omega) (num_stepI (show SEQ (Int32.toInt x1) (Int32.toInt z3) (NUMO (GB fn0 (Int32.toInt x4)) (Int32.toInt x4) (Int64.toInt y1) (Int64.toInt y0) (Int.toNat (Int32.toInt z1))) (fun v => v = (Int64.toInt z2) ∧ (Int64.toInt z4) = (Int64.toInt y0) + (Int32.toInt z1)) by assumption) p36 (by omega) (by omega) (by omega)) (by omega)
          obtain ⟨k44, k45, k46, k47, k48, k49, k50⟩ := p37
          obtain ⟨z51, ez51⟩ : ∃ z_9, Int32.toInt64 r27 = z_9 := ⟨_, rfl⟩
          have tz51 : (Int64.toInt z51) = (Int32.toInt r27) := by rw [← ez51]; exact Int32.toInt_toInt64 _
          refine r_i2l 27 z51 C dX1_takeNumber_27 ez51 ?_
          obtain ⟨z52, ez52⟩ : ∃ z_9, z24 + z51 = z_9 := ⟨_, rfl⟩
          have tz52 : (Int64.toInt z52) = (Int64.toInt z24) + (Int64.toInt z51) := by rw [← ez52]; exact fb_addLv (a := (-256)) (b := 281474976710656) (c := (-1)) (d := 255) (iv_wide (c := (-256)) (d := 281474976710656) (iv_mul (a := (-1)) (b := 1099511627776) (c := 256) ⟨i10a, i10b⟩ (by decide) tz24) (by decide) (by decide)) (iv_eq ⟨p30, p31⟩ tz51) (by decide) (by decide)
          refine r_ladd 28 z52 C dX1_takeNumber_28 ez52 ?_
          refine r_lstore_n 29 C dX1_takeNumber_29 [(2, .long z52), (4, .int z1), (0, .ref h0), (1, .int x0)] (by decide) rfl ?_
          obtain ⟨z53, ez53⟩ : ∃ z_9, z1 + Int32.ofInt 1 = z_9 := ⟨_, rfl⟩
          have tz53 : (Int32.toInt z53) = (Int32.toInt z1) + 1 := by rw [← ez53]; exact fb_addIv (a := 0) (b := 300) (c := 1) (d := 1) ⟨i9a, i9b⟩ ⟨by decide, by decide⟩ (by decide) (by decide)
          refine r_iinc 30 1 z53 C dX1_takeNumber_30 rfl ez53 [(4, .int z53), (2, .long z52), (0, .ref h0), (1, .int x0)] (by decide) rfl ?_
          refine r_goto 33 5 C dX1_takeNumber_33 (by decide) ?_
          exact ih7 z53 z52 z25 z26 ⟨by omega, by omega⟩ ⟨by omega, by omega⟩ ⟨p32, p33⟩ ⟨p34, p35⟩ (by show (Int64.toInt y0) ≤ (Int64.toInt z26) ∧ ((Int64.toInt z26) = (Int64.toInt y0) ∨ (Int64.toInt z26) ≤ (Int32.toInt x4)) ∧ (¬ ((Int32.toInt z25) = 0) ∨ (Int32.toInt x1) = 0) ∧ ((Int32.toInt z53) ≤ (Int32.toInt x0) ∨ (Int32.toInt z53) = 0) ∧ (Int32.toInt z53) ≤ 300 ∧ (¬ ((Int32.toInt z25) = 0) ∨ ((((Int32.toInt z53) = 0 ∧ 0 ≤ (Int64.toInt z52) ∧ (Int64.toInt z52) ≤ 0) ∨ ((Int32.toInt z53) = 1 ∧ 0 ≤ (Int64.toInt z52) ∧ (Int64.toInt z52) ≤ 255) ∨ ((Int32.toInt z53) = 2 ∧ 0 ≤ (Int64.toInt z52) ∧ (Int64.toInt z52) ≤ 65535) ∨ ((Int32.toInt z53) = 3 ∧ 0 ≤ (Int64.toInt z52) ∧ (Int64.toInt z52) ≤ 16777215) ∨ ((Int32.toInt z53) = 4 ∧ 0 ≤ (Int64.toInt z52) ∧ (Int64.toInt z52) ≤ 4294967295)) ∧ (Int64.toInt z26) = (Int64.toInt y0) + (Int32.toInt z53) ∧ ((Int32.toInt z53) = 0 ∨ (0 ≤ (Int64.toInt y0) ∧ (Int64.toInt z26) ≤ (Int32.toInt x4))))); omega) (num_stepI (show SEQ (Int32.toInt x1) (Int32.toInt z3) (NUMO (GB fn0 (Int32.toInt x4)) (Int32.toInt x4) (Int64.toInt y1) (Int64.toInt y0) (Int.toNat (Int32.toInt z1))) (fun v => v = (Int64.toInt z2) ∧ (Int64.toInt z4) = (Int64.toInt y0) + (Int32.toInt z1)) by assumption) p36 (by omega) (by omega) (by omega)) (by omega)
  exact lp6 _ 0 0 x1 y0 (by decide) (by decide) i_x1 i_y0 (by show (Int64.toInt y0) ≤ (Int64.toInt y0) ∧ ((Int64.toInt y0) = (Int64.toInt y0) ∨ (Int64.toInt y0) ≤ (Int32.toInt x4)) ∧ (¬ ((Int32.toInt x1) = 0) ∨ (Int32.toInt x1) = 0) ∧ ((0 : Int) ≤ (Int32.toInt x0) ∨ (0 : Int) = 0) ∧ (0 : Int) ≤ 300 ∧ (¬ ((Int32.toInt x1) = 0) ∨ ((((0 : Int) = 0 ∧ 0 ≤ (0 : Int) ∧ (0 : Int) ≤ 0) ∨ ((0 : Int) = 1 ∧ 0 ≤ (0 : Int) ∧ (0 : Int) ≤ 255) ∨ ((0 : Int) = 2 ∧ 0 ≤ (0 : Int) ∧ (0 : Int) ≤ 65535) ∨ ((0 : Int) = 3 ∧ 0 ≤ (0 : Int) ∧ (0 : Int) ≤ 16777215) ∨ ((0 : Int) = 4 ∧ 0 ≤ (0 : Int) ∧ (0 : Int) ≤ 4294967295)) ∧ (Int64.toInt y0) = (Int64.toInt y0) + (0 : Int) ∧ ((0 : Int) = 0 ∨ (0 ≤ (Int64.toInt y0) ∧ (Int64.toInt y0) ≤ (Int32.toInt x4))))); omega) (by exact num_0I) (Nat.lt_succ_self _)
set_option maxHeartbeats 4000000 in
set_option maxRecDepth 100000 in
theorem c57_X1_takeIndex (l : Launch) (g : GD) (h0 : Nat) (h1 : Nat) (h2 : Nat) (x0 : Int32) (x1 : Int32) (h3 : Nat) (h4 : Nat) (x2 : Int32) (y0 : Int64) (y1 : Int64) (x3 : Int32) (x4 : Int32) (y2 : Int64) (y3 : Int64) (x5 : Int32) (fn0 : Nat → Int32) (i_x2 : (0 ≤ (Int32.toInt x2) ∧ (Int32.toInt x2) ≤ 2)) (i_y0 : (-8589934592 ≤ (Int64.toInt y0) ∧ (Int64.toInt y0) ≤ 8589934592)) (i_x3 : (-257 ≤ (Int32.toInt x3) ∧ (Int32.toInt x3) ≤ 65535)) (i_x4 : (-1 ≤ (Int32.toInt x4) ∧ (Int32.toInt x4) ≤ 255)) (i_y2 : (-8589934592 ≤ (Int64.toInt y2) ∧ (Int64.toInt y2) ≤ 8589934592)) (i_y3 : (-8589934592 ≤ (Int64.toInt y3) ∧ (Int64.toInt y3) ≤ 8589934592)) (i_x5 : (0 ≤ (Int32.toInt x5) ∧ (Int32.toInt x5) ≤ 1500)) (pre0 : ((Int32.toInt x5) ≤ (Int64.toInt y1))) (sz : Nat) : Met l yX1_takeIndex wsX1_takeIndex ({ frames := 3, cells := 0, slots := 0, locals := 67 }) (va_Pc [.ref h0, .int x0, .int x1] (PW g [(h0, .inr (1, [.ref h3, .ref h4, .ref h1, .int x2, .long y0, .long y1, .int x3, .int x4, .long y2, .long y3])), (h1, .inr (4, [.ref h2, .int x5])), (h2, .inl (gB g, 1500, .inl fn0))] sz)) (va_Qv (fun (u : (Int32) × (Int64) × (Int32) × (Int32) × (Int64) × (Int64)) => 0 ≤ (Int32.toInt (u.1)) ∧ (Int32.toInt (u.1)) ≤ 2 ∧ -8589934592 ≤ (Int64.toInt (u.2.1)) ∧ (Int64.toInt (u.2.1)) ≤ 8589934592 ∧ -257 ≤ (Int32.toInt (u.2.2.1)) ∧ (Int32.toInt (u.2.2.1)) ≤ 65535 ∧ -1 ≤ (Int32.toInt (u.2.2.2.1)) ∧ (Int32.toInt (u.2.2.2.1)) ≤ 255 ∧ -8589934592 ≤ (Int64.toInt (u.2.2.2.2.1)) ∧ (Int64.toInt (u.2.2.2.2.1)) ≤ 8589934592 ∧ -8589934592 ≤ (Int64.toInt (u.2.2.2.2.2)) ∧ (Int64.toInt (u.2.2.2.2.2)) ≤ 8589934592 ∧ SEQ (Int32.toInt x2) (Int32.toInt (u.1)) (IDX (GB fn0 (Int32.toInt x5)) (Int32.toInt x5) (Int64.toInt y0) (Int32.toInt x0) (Int32.toInt x1)) (IXR (Int32.toInt (u.2.2.1)) (Int64.toInt (u.2.1)) (Int32.toInt (u.2.2.2.1)) (Int64.toInt (u.2.2.2.2.1)) (Int64.toInt (u.2.2.2.2.2)) (Int64.toInt y0)) ∧ IXN (Int32.toInt x2) (Int32.toInt (u.1)) (Int32.toInt x0) (Int32.toInt x1) (Int32.toInt (u.2.2.1)) (Int64.toInt (u.2.2.2.2.2)) ∧ IXO (Int32.toInt (u.1)) (Int32.toInt (u.2.2.1)) (Int64.toInt (u.2.2.2.2.1)) (Int32.toInt x5) (Int32.toInt (u.2.2.2.1))) (BW g (va_A [(h0, .inr (1, [.ref h3, .ref h4, .ref h1, .int x2, .long y0, .long y1, .int x3, .int x4, .long y2, .long y3])), (h1, .inr (4, [.ref h2, .int x5])), (h2, .inl (gB g, 1500, .inl fn0))] sz) (fun u : (Int32) × (Int64) × (Int32) × (Int32) × (Int64) × (Int64) => [(h0, .inr (1, [.ref h3, .ref h4, .ref h1, .int u.1, .long u.2.1, .long y1, .int u.2.2.1, .int u.2.2.2.1, .long u.2.2.2.2.1, .long u.2.2.2.2.2])), (h1, .inr (4, [.ref h2, .int x5])), (h2, .inl (gB g, 1500, .inl fn0))])) (va_A [(h0, .inr (1, [.ref h3, .ref h4, .ref h1, .int x2, .long y0, .long y1, .int x3, .int x4, .long y2, .long y3])), (h1, .inr (4, [.ref h2, .int x5])), (h2, .inl (gB g, 1500, .inl fn0))] sz)) 0 0 (va_A [(h0, .inr (1, [.ref h3, .ref h4, .ref h1, .int x2, .long y0, .long y1, .int x3, .int x4, .long y2, .long y3])), (h1, .inr (4, [.ref h2, .int x5])), (h2, .inl (gB g, 1500, .inl fn0))] sz) := by
  refine met_v RX1 (by decide) rfl rfl (Nat.le_of_ble_eq_true rfl) [(0, .ref h0), (1, .int x0), (2, .int x1)] rfl ?_
  intro p e s m args below meth c A Q C hnm Rt
  have gx0 := fb_rng x0
  have gx1 := fb_rng x1
  have gy1 := fb_rngL y1
  have hiX1 : ∀ w ∈ wsX10, w ∈ wsX1_takeIndex := fun w h => List.mem_cons_of_mem _ (List.mem_append_left _ (List.mem_append_right _ (h)))
  refine r_aload_n 0 0 C dX1_takeIndex_0 rfl ?_
  refine r_aload_n 1 0 C dX1_takeIndex_1 rfl ?_
  refine r_iconst 2 2 C dX1_takeIndex_2 (by decide) ?_
  refine r_callVl 3 C dX1_takeIndex_3 [.ref h0] [(h0, .inr (1, [.ref h3, .ref h4, .ref h1, .int x2, .long y0, .long y1, .int x3, .int x4, .long y2, .long y3])), (h1, .inr (4, [.ref h2, .int x5])), (h2, .inl (gB g, 1500, .inl fn0))] [] (fun sz => c55_X1_takeNumber l g h0 h1 h2 h3 h4 x2 y0 y1 x3 x4 y2 y3 x5 fn0 i_x2 i_y0 i_x3 i_x4 i_y2 i_y3 i_x5 sz) gX1_takeIndex_X1_takeNumber rfl ⟨rfl, rfl⟩ 1 (by decide) ⟨Nat.le_of_ble_eq_true rfl, Nat.le_of_ble_eq_true rfl⟩ 0 rfl rfl [0, 1, 2] [] rfl rfl (by decide) (by decide) (by decide) rfl rfl (Nat.le_of_ble_eq_true rfl) ⟨Nat.le_of_ble_eq_true rfl, Nat.le_of_ble_eq_true rfl⟩ (fun r3 u5 w4 => ?_)
  obtain ⟨z1, z2⟩ := u5
  refine r_ws [(h0, .inr (1, [.ref h3, .ref h4, .ref h1, .int z1, .long z2, .long y1, .int x3, .int x4, .long y2, .long y3])), (h1, .inr (4, [.ref h2, .int x5])), (h2, .inl (gB g, 1500, .inl fn0))] rfl ?_
  have p6 : 0 ≤ (Int64.toInt r3) := w4.1
  have p7 : (Int64.toInt r3) ≤ 65535 := w4.2.1
  have p8 : 0 ≤ (Int32.toInt z1) := w4.2.2.1
  have p9 : (Int32.toInt z1) ≤ 2 := w4.2.2.2.1
  have p10 : -8589934592 ≤ (Int64.toInt z2) := w4.2.2.2.2.1
  have p11 : (Int64.toInt z2) ≤ 8589934592 := w4.2.2.2.2.2.1
  have p12 : SEQ (Int32.toInt x2) (Int32.toInt z1) (NUMO (GB fn0 (Int32.toInt x5)) (Int32.toInt x5) (Int64.toInt y1) (Int64.toInt y0) 2) (fun v => v = (Int64.toInt r3) ∧ (Int64.toInt z2) = (Int64.toInt y0) + (2 : Int)) := w4.2.2.2.2.2.2.1
  have p13 : (0 ≤ (Int64.toInt r3) ∧ (Int64.toInt r3) ≤ 65535) := w4.2.2.2.2.2.2.2.1
  have p14 : NBND (2 : Int) (Int64.toInt r3) := w4.2.2.2.2.2.2.2.2.1
  have p15 : (¬ ((Int32.toInt z1) = 0) ∨ ((Int32.toInt x2) = 0 ∧ ((2 : Int) ≤ 0 ∨ (0 ≤ (Int64.toInt y0) ∧ (Int64.toInt z2) ≤ (Int32.toInt x5) ∧ (Int64.toInt z2) = (Int64.toInt y0) + (2 : Int))))) := w4.2.2.2.2.2.2.2.2.2.1
  have p16 : ((Int64.toInt y0) ≤ (Int64.toInt z2) ∧ ((Int64.toInt z2) = (Int64.toInt y0) ∨ (Int64.toInt z2) ≤ (Int32.toInt x5))) := w4.2.2.2.2.2.2.2.2.2.2
  obtain ⟨z17, ez17⟩ : ∃ z_9, Int64.toInt32 r3 = z_9 := ⟨_, rfl⟩
  have tz17 : (Int32.toInt z17) = (Int64.toInt r3) := by rw [← ez17]; exact l2i_in (by omega) (by omega)
  refine r_l2i 6 z17 C dX1_takeIndex_6 ez17 ?_
  refine r_put 7 C dX1_takeIndex_7 (k := 6) 0 rfl rfl hiX1 tyX1 tyX1_ok nmX1 (by decide) rfl (mg 1 rfl) (Or.inl rfl) rfl rfl rfl rfl (Nat.le_of_ble_eq_true rfl) [(h0, .inr (1, [.ref h3, .ref h4, .ref h1, .int z1, .long z2, .long y1, .int z17, .int x4, .long y2, .long y3])), (h1, .inr (4, [.ref h2, .int x5])), (h2, .inl (gB g, 1500, .inl fn0))] rfl ?_
  refine r_aload_n 10 0 C dX1_takeIndex_10 rfl ?_
  refine r_aload_n 11 0 C dX1_takeIndex_11 rfl ?_
  refine r_get 12 C dX1_takeIndex_12 (k := 6) 0 rfl rfl hiX1 (by decide) rfl (mg 1 rfl) (Or.inl rfl) rfl ?_
  refine r_iload_n 15 1 C dX1_takeIndex_15 rfl ?_
  refine r_icmp_lt 16 31 C dX1_takeIndex_16 (by decide) (fun c18 => ?_) (fun c18 => ?_)
  · skip
    have k19 : (Int32.toInt z17) < (Int32.toInt x0) := (fa_lt z17 x0).mp c18
    refine r_iconst 31 0 C dX1_takeIndex_31 (by decide) ?_
    refine r_callVv 32 C dX1_takeIndex_32 [] [(h0, .inr (1, [.ref h3, .ref h4, .ref h1, .int z1, .long z2, .long y1, .int z17, .int x4, .long y2, .long y3]))] [(h1, .inr (4, [.ref h2, .int x5])), (h2, .inl (gB g, 1500, .inl fn0))] (fun sz => c53_X1_want l g h0 0 h3 h4 h1 z1 z2 y1 z17 x4 y2 y3 (by decide) ⟨p8, p9⟩ ⟨p10, p11⟩ (iv_wide (c := (-257)) (d := 65535) (iv_eq ⟨p6, p7⟩ tz17) (by decide) (by decide)) i_x4 i_y2 i_y3 sz) gX1_takeIndex_X1_want rfl ⟨rfl, rfl⟩ 1 (by decide) ⟨Nat.le_of_ble_eq_true rfl, Nat.le_of_ble_eq_true rfl⟩ 0 rfl rfl [0] [1, 2] rfl rfl (by decide) (by decide) (by decide) rfl rfl (Nat.le_of_ble_eq_true rfl) ⟨Nat.le_of_ble_eq_true rfl, Nat.le_of_ble_eq_true rfl⟩ (fun  z20 w21 => ?_)
    refine r_ws [(h1, .inr (4, [.ref h2, .int x5])), (h2, .inl (gB g, 1500, .inl fn0)), (h0, .inr (1, [.ref h3, .ref h4, .ref h1, .int z20, .long z2, .long y1, .int z17, .int x4, .long y2, .long y3]))] rfl ?_
    have p22 : 0 ≤ (Int32.toInt z20) := w21.1
    have p23 : (Int32.toInt z20) ≤ 2 := w21.2.1
    have p24 : WNT (0 : Int) (Int32.toInt z1) (Int32.toInt z20) := w21.2.2.1
    have p25 : (((0 : Int) = 1 ∧ (Int32.toInt z20) = (Int32.toInt z1)) ∨ ((0 : Int) = 0 ∧ 1 ≤ (Int32.toInt z20))) := w21.2.2.2
    rcases p25 with ⟨k26, k27⟩ | p25
    · skip
      exact absurd trivial (by omega)
    obtain ⟨k28, k29⟩ := p25
    refine r_aload_n 35 0 C dX1_takeIndex_35 rfl ?_
    refine r_get 36 C dX1_takeIndex_36 (k := 3) 2 rfl rfl hiX1 (by decide) rfl (mg 2 rfl) (Or.inl rfl) rfl ?_
    refine r_if_ne_t 39 49 C dX1_takeIndex_39 (by decide) (fun h_9 => by have h_8 : (Int32.toInt z20) = 0 := (fa_eq z20 0).mp h_9; omega) ?_
    exact r_vret 49 Rt dX1_takeIndex_49 (z20, z2, z17, x4, y2, y3) (show 0 ≤ (Int32.toInt z20) ∧ (Int32.toInt z20) ≤ 2 ∧ -8589934592 ≤ (Int64.toInt z2) ∧ (Int64.toInt z2) ≤ 8589934592 ∧ -257 ≤ (Int32.toInt z17) ∧ (Int32.toInt z17) ≤ 65535 ∧ -1 ≤ (Int32.toInt x4) ∧ (Int32.toInt x4) ≤ 255 ∧ -8589934592 ≤ (Int64.toInt y2) ∧ (Int64.toInt y2) ≤ 8589934592 ∧ -8589934592 ≤ (Int64.toInt y3) ∧ (Int64.toInt y3) ≤ 8589934592 ∧ SEQ (Int32.toInt x2) (Int32.toInt z20) (IDX (GB fn0 (Int32.toInt x5)) (Int32.toInt x5) (Int64.toInt y0) (Int32.toInt x0) (Int32.toInt x1)) (IXR (Int32.toInt z17) (Int64.toInt z2) (Int32.toInt x4) (Int64.toInt y2) (Int64.toInt y3) (Int64.toInt y0)) ∧ IXN (Int32.toInt x2) (Int32.toInt z20) (Int32.toInt x0) (Int32.toInt x1) (Int32.toInt z17) (Int64.toInt y3) ∧ IXO (Int32.toInt z20) (Int32.toInt z17) (Int64.toInt y2) (Int32.toInt x5) (Int32.toInt x4) from ⟨(show _ ∧ _ from ⟨p22, p23⟩).1, (show _ ∧ _ from ⟨p22, p23⟩).2, (show _ ∧ _ from ⟨p10, p11⟩).1, (show _ ∧ _ from ⟨p10, p11⟩).2, (iv_wide (c := (-257)) (d := 65535) (iv_eq ⟨p6, p7⟩ tz17) (by decide) (by decide)).1, (iv_wide (c := (-257)) (d := 65535) (iv_eq ⟨p6, p7⟩ tz17) (by decide) (by decide)).2, i_x4.1, i_x4.2, i_y2.1, i_y2.2, i_y3.1, i_y3.2, (by exact idx_e1 (ic := (Int32.toInt z17)) pre0 p12 p24 (by omega) (by omega) (by first | exact Or.inl (by omega) | exact Or.inr ⟨by omega, ixr_0 (by omega) (by omega)⟩)), (by unfold IXN; omega), (by unfold IXO; omega)⟩) [2, 0, 1] (by decide) rfl (Nat.le_of_ble_eq_true rfl) (Nat.le_of_ble_eq_true rfl)
  · skip
    have k30 : ¬ ((Int32.toInt z17) < (Int32.toInt x0)) := fun h_9 => c18 ((fa_lt z17 x0).mpr h_9)
    refine r_aload_n 19 0 C dX1_takeIndex_19 rfl ?_
    refine r_get 20 C dX1_takeIndex_20 (k := 6) 0 rfl rfl hiX1 (by decide) rfl (mg 1 rfl) (Or.inl rfl) rfl ?_
    refine r_iload_n 23 2 C dX1_takeIndex_23 rfl ?_
    refine r_icmp_gt 24 31 C dX1_takeIndex_24 (by decide) (fun c31 => ?_) (fun c31 => ?_)
    · skip
      have k32 : (Int32.toInt x1) < (Int32.toInt z17) := (fa_lt x1 z17).mp c31
      refine r_iconst 31 0 C dX1_takeIndex_31 (by decide) ?_
      refine r_callVv 32 C dX1_takeIndex_32 [] [(h0, .inr (1, [.ref h3, .ref h4, .ref h1, .int z1, .long z2, .long y1, .int z17, .int x4, .long y2, .long y3]))] [(h1, .inr (4, [.ref h2, .int x5])), (h2, .inl (gB g, 1500, .inl fn0))] (fun sz => c53_X1_want l g h0 0 h3 h4 h1 z1 z2 y1 z17 x4 y2 y3 (by decide) ⟨p8, p9⟩ ⟨p10, p11⟩ (iv_wide (c := (-257)) (d := 65535) (iv_eq ⟨p6, p7⟩ tz17) (by decide) (by decide)) i_x4 i_y2 i_y3 sz) gX1_takeIndex_X1_want rfl ⟨rfl, rfl⟩ 1 (by decide) ⟨Nat.le_of_ble_eq_true rfl, Nat.le_of_ble_eq_true rfl⟩ 0 rfl rfl [0] [1, 2] rfl rfl (by decide) (by decide) (by decide) rfl rfl (Nat.le_of_ble_eq_true rfl) ⟨Nat.le_of_ble_eq_true rfl, Nat.le_of_ble_eq_true rfl⟩ (fun  z33 w34 => ?_)
      refine r_ws [(h1, .inr (4, [.ref h2, .int x5])), (h2, .inl (gB g, 1500, .inl fn0)), (h0, .inr (1, [.ref h3, .ref h4, .ref h1, .int z33, .long z2, .long y1, .int z17, .int x4, .long y2, .long y3]))] rfl ?_
      have p35 : 0 ≤ (Int32.toInt z33) := w34.1
      have p36 : (Int32.toInt z33) ≤ 2 := w34.2.1
      have p37 : WNT (0 : Int) (Int32.toInt z1) (Int32.toInt z33) := w34.2.2.1
      have p38 : (((0 : Int) = 1 ∧ (Int32.toInt z33) = (Int32.toInt z1)) ∨ ((0 : Int) = 0 ∧ 1 ≤ (Int32.toInt z33))) := w34.2.2.2
      rcases p38 with ⟨k39, k40⟩ | p38
      · skip
        exact absurd trivial (by omega)
      obtain ⟨k41, k42⟩ := p38
      refine r_aload_n 35 0 C dX1_takeIndex_35 rfl ?_
      refine r_get 36 C dX1_takeIndex_36 (k := 3) 2 rfl rfl hiX1 (by decide) rfl (mg 2 rfl) (Or.inl rfl) rfl ?_
      refine r_if_ne_t 39 49 C dX1_takeIndex_39 (by decide) (fun h_9 => by have h_8 : (Int32.toInt z33) = 0 := (fa_eq z33 0).mp h_9; omega) ?_
      exact r_vret 49 Rt dX1_takeIndex_49 (z33, z2, z17, x4, y2, y3) (show 0 ≤ (Int32.toInt z33) ∧ (Int32.toInt z33) ≤ 2 ∧ -8589934592 ≤ (Int64.toInt z2) ∧ (Int64.toInt z2) ≤ 8589934592 ∧ -257 ≤ (Int32.toInt z17) ∧ (Int32.toInt z17) ≤ 65535 ∧ -1 ≤ (Int32.toInt x4) ∧ (Int32.toInt x4) ≤ 255 ∧ -8589934592 ≤ (Int64.toInt y2) ∧ (Int64.toInt y2) ≤ 8589934592 ∧ -8589934592 ≤ (Int64.toInt y3) ∧ (Int64.toInt y3) ≤ 8589934592 ∧ SEQ (Int32.toInt x2) (Int32.toInt z33) (IDX (GB fn0 (Int32.toInt x5)) (Int32.toInt x5) (Int64.toInt y0) (Int32.toInt x0) (Int32.toInt x1)) (IXR (Int32.toInt z17) (Int64.toInt z2) (Int32.toInt x4) (Int64.toInt y2) (Int64.toInt y3) (Int64.toInt y0)) ∧ IXN (Int32.toInt x2) (Int32.toInt z33) (Int32.toInt x0) (Int32.toInt x1) (Int32.toInt z17) (Int64.toInt y3) ∧ IXO (Int32.toInt z33) (Int32.toInt z17) (Int64.toInt y2) (Int32.toInt x5) (Int32.toInt x4) from ⟨(show _ ∧ _ from ⟨p35, p36⟩).1, (show _ ∧ _ from ⟨p35, p36⟩).2, (show _ ∧ _ from ⟨p10, p11⟩).1, (show _ ∧ _ from ⟨p10, p11⟩).2, (iv_wide (c := (-257)) (d := 65535) (iv_eq ⟨p6, p7⟩ tz17) (by decide) (by decide)).1, (iv_wide (c := (-257)) (d := 65535) (iv_eq ⟨p6, p7⟩ tz17) (by decide) (by decide)).2, i_x4.1, i_x4.2, i_y2.1, i_y2.2, i_y3.1, i_y3.2, (by exact idx_e1 (ic := (Int32.toInt z17)) pre0 p12 p37 (by omega) (by omega) (by first | exact Or.inl (by omega) | exact Or.inr ⟨by omega, ixr_0 (by omega) (by omega)⟩)), (by unfold IXN; omega), (by unfold IXO; omega)⟩) [2, 0, 1] (by decide) rfl (Nat.le_of_ble_eq_true rfl) (Nat.le_of_ble_eq_true rfl)
    · skip
      have k43 : ¬ ((Int32.toInt x1) < (Int32.toInt z17)) := fun h_9 => c31 ((fa_lt x1 z17).mpr h_9)
      refine r_iconst 27 1 C dX1_takeIndex_27 (by decide) ?_
      refine r_goto 28 32 C dX1_takeIndex_28 (by decide) ?_
      refine r_callVv 32 C dX1_takeIndex_32 [] [(h0, .inr (1, [.ref h3, .ref h4, .ref h1, .int z1, .long z2, .long y1, .int z17, .int x4, .long y2, .long y3]))] [(h1, .inr (4, [.ref h2, .int x5])), (h2, .inl (gB g, 1500, .inl fn0))] (fun sz => c53_X1_want l g h0 1 h3 h4 h1 z1 z2 y1 z17 x4 y2 y3 (by decide) ⟨p8, p9⟩ ⟨p10, p11⟩ (iv_wide (c := (-257)) (d := 65535) (iv_eq ⟨p6, p7⟩ tz17) (by decide) (by decide)) i_x4 i_y2 i_y3 sz) gX1_takeIndex_X1_want rfl ⟨rfl, rfl⟩ 1 (by decide) ⟨Nat.le_of_ble_eq_true rfl, Nat.le_of_ble_eq_true rfl⟩ 0 rfl rfl [0] [1, 2] rfl rfl (by decide) (by decide) (by decide) rfl rfl (Nat.le_of_ble_eq_true rfl) ⟨Nat.le_of_ble_eq_true rfl, Nat.le_of_ble_eq_true rfl⟩ (fun  z44 w45 => ?_)
      refine r_ws [(h1, .inr (4, [.ref h2, .int x5])), (h2, .inl (gB g, 1500, .inl fn0)), (h0, .inr (1, [.ref h3, .ref h4, .ref h1, .int z44, .long z2, .long y1, .int z17, .int x4, .long y2, .long y3]))] rfl ?_
      have p46 : 0 ≤ (Int32.toInt z44) := w45.1
      have p47 : (Int32.toInt z44) ≤ 2 := w45.2.1
      have p48 : WNT (1 : Int) (Int32.toInt z1) (Int32.toInt z44) := w45.2.2.1
      have p49 : (((1 : Int) = 1 ∧ (Int32.toInt z44) = (Int32.toInt z1)) ∨ ((1 : Int) = 0 ∧ 1 ≤ (Int32.toInt z44))) := w45.2.2.2
      rcases p49 with ⟨k50, k51⟩ | p49
      · skip
        refine r_aload_n 35 0 C dX1_takeIndex_35 rfl ?_
        refine r_get 36 C dX1_takeIndex_36 (k := 3) 2 rfl rfl hiX1 (by decide) rfl (mg 2 rfl) (Or.inl rfl) rfl ?_
        refine r_if_ne 39 49 C dX1_takeIndex_39 (by decide) (fun c52 => ?_) (fun c52 => ?_)
        · skip
          have k53 : ¬ ((Int32.toInt z44) = 0) := fun h_9 => c52 ((fa_eq z44 0).mpr h_9)
          exact r_vret 49 Rt dX1_takeIndex_49 (z44, z2, z17, x4, y2, y3) (show 0 ≤ (Int32.toInt z44) ∧ (Int32.toInt z44) ≤ 2 ∧ -8589934592 ≤ (Int64.toInt z2) ∧ (Int64.toInt z2) ≤ 8589934592 ∧ -257 ≤ (Int32.toInt z17) ∧ (Int32.toInt z17) ≤ 65535 ∧ -1 ≤ (Int32.toInt x4) ∧ (Int32.toInt x4) ≤ 255 ∧ -8589934592 ≤ (Int64.toInt y2) ∧ (Int64.toInt y2) ≤ 8589934592 ∧ -8589934592 ≤ (Int64.toInt y3) ∧ (Int64.toInt y3) ≤ 8589934592 ∧ SEQ (Int32.toInt x2) (Int32.toInt z44) (IDX (GB fn0 (Int32.toInt x5)) (Int32.toInt x5) (Int64.toInt y0) (Int32.toInt x0) (Int32.toInt x1)) (IXR (Int32.toInt z17) (Int64.toInt z2) (Int32.toInt x4) (Int64.toInt y2) (Int64.toInt y3) (Int64.toInt y0)) ∧ IXN (Int32.toInt x2) (Int32.toInt z44) (Int32.toInt x0) (Int32.toInt x1) (Int32.toInt z17) (Int64.toInt y3) ∧ IXO (Int32.toInt z44) (Int32.toInt z17) (Int64.toInt y2) (Int32.toInt x5) (Int32.toInt x4) from ⟨(show _ ∧ _ from ⟨p46, p47⟩).1, (show _ ∧ _ from ⟨p46, p47⟩).2, (show _ ∧ _ from ⟨p10, p11⟩).1, (show _ ∧ _ from ⟨p10, p11⟩).2, (iv_wide (c := (-257)) (d := 65535) (iv_eq ⟨p6, p7⟩ tz17) (by decide) (by decide)).1, (iv_wide (c := (-257)) (d := 65535) (iv_eq ⟨p6, p7⟩ tz17) (by decide) (by decide)).2, i_x4.1, i_x4.2, i_y2.1, i_y2.2, i_y3.1, i_y3.2, (by exact idx_e1 (ic := (Int32.toInt z17)) pre0 p12 p48 (by omega) (by omega) (by first | exact Or.inl (by omega) | exact Or.inr ⟨by omega, ixr_0 (by omega) (by omega)⟩)), (by unfold IXN; omega), (by unfold IXO; omega)⟩) [2, 0, 1] (by decide) rfl (Nat.le_of_ble_eq_true rfl) (Nat.le_of_ble_eq_true rfl)
        · skip
          have k54 : (Int32.toInt z44) = 0 := (fa_eq z44 0).mp c52
          refine r_aload_n 42 0 C dX1_takeIndex_42 rfl ?_
          refine r_get 43 C dX1_takeIndex_43 (k := 6) 2 rfl rfl hiX1 (by decide) rfl (mg 1 rfl) (Or.inl rfl) rfl ?_
          refine r_if_ne 46 50 C dX1_takeIndex_46 (by decide) (fun c55 => ?_) (fun c55 => ?_)
          · skip
            have k56 : ¬ ((Int32.toInt z17) = 0) := fun h_9 => c55 ((fa_eq z17 0).mpr h_9)
            refine r_aload_n 50 0 C dX1_takeIndex_50 rfl ?_
            refine r_aload_n 51 0 C dX1_takeIndex_51 rfl ?_
            refine r_callVi 52 C dX1_takeIndex_52 [.ref h0] [(h0, .inr (1, [.ref h3, .ref h4, .ref h1, .int z44, .long z2, .long y1, .int z17, .int x4, .long y2, .long y3])), (h1, .inr (4, [.ref h2, .int x5])), (h2, .inl (gB g, 1500, .inl fn0))] [] (fun sz => c52_X1_take l g h0 h1 h2 h3 h4 z44 z2 y1 z17 x4 y2 y3 x5 fn0 ⟨p46, p47⟩ ⟨p10, p11⟩ (iv_wide (c := (-257)) (d := 65535) (iv_eq ⟨p6, p7⟩ tz17) (by decide) (by decide)) i_x4 i_y2 i_y3 i_x5 sz) gX1_takeIndex_X1_take rfl ⟨rfl, rfl⟩ 0 (by decide) ⟨Nat.le_of_ble_eq_true rfl, Nat.le_of_ble_eq_true rfl⟩ 2 rfl rfl [2, 0, 1] [] rfl rfl (by decide) (by decide) (by decide) rfl rfl (Nat.le_of_ble_eq_true rfl) ⟨Nat.le_of_ble_eq_true rfl, Nat.le_of_ble_eq_true rfl⟩ (fun r59 u61 w60 => ?_)
            obtain ⟨z57, z58⟩ := u61
            refine r_ws [(h0, .inr (1, [.ref h3, .ref h4, .ref h1, .int z57, .long z58, .long y1, .int z17, .int x4, .long y2, .long y3])), (h1, .inr (4, [.ref h2, .int x5])), (h2, .inl (gB g, 1500, .inl fn0))] rfl ?_
            have p62 : -1 ≤ (Int32.toInt r59) := w60.1
            have p63 : (Int32.toInt r59) ≤ 255 := w60.2.1
            have p64 : 0 ≤ (Int32.toInt z57) := w60.2.2.1
            have p65 : (Int32.toInt z57) ≤ 2 := w60.2.2.2.1
            have p66 : -8589934592 ≤ (Int64.toInt z58) := w60.2.2.2.2.1
            have p67 : (Int64.toInt z58) ≤ 8589934592 := w60.2.2.2.2.2.1
            have p68 : SEQ (Int32.toInt z44) (Int32.toInt z57) (BYT (GB fn0 (Int32.toInt x5)) (Int32.toInt x5) (Int64.toInt y1) (Int64.toInt z2)) (fun v => v = (Int32.toInt r59) ∧ (Int64.toInt z58) = (Int64.toInt z2) + 1) := w60.2.2.2.2.2.2.1
            have p69 : (((Int32.toInt r59) = -1 ∧ 1 ≤ (Int32.toInt z57) ∧ (Int64.toInt z58) = (Int64.toInt z2)) ∨ ((Int32.toInt z44) = 0 ∧ (Int32.toInt z57) = 0 ∧ 0 ≤ (Int64.toInt z2) ∧ (Int64.toInt z2) < (Int32.toInt x5) ∧ (Int64.toInt z2) < (Int64.toInt y1) ∧ (Int64.toInt z58) = (Int64.toInt z2) + 1 ∧ 0 ≤ (Int32.toInt r59))) := w60.2.2.2.2.2.2.2
            rcases p69 with ⟨k70, k71, k72⟩ | p69
            · skip
              refine r_put 55 C dX1_takeIndex_55 (k := 7) 0 rfl rfl hiX1 tyX1 tyX1_ok nmX1 (by decide) rfl (mg 3 rfl) (Or.inl rfl) rfl rfl rfl rfl (Nat.le_of_ble_eq_true rfl) [(h0, .inr (1, [.ref h3, .ref h4, .ref h1, .int z57, .long z58, .long y1, .int z17, .int r59, .long y2, .long y3])), (h1, .inr (4, [.ref h2, .int x5])), (h2, .inl (gB g, 1500, .inl fn0))] rfl ?_
              refine r_aload_n 58 0 C dX1_takeIndex_58 rfl ?_
              refine r_aload_n 59 0 C dX1_takeIndex_59 rfl ?_
              refine r_get 60 C dX1_takeIndex_60 (k := 7) 0 rfl rfl hiX1 (by decide) rfl (mg 3 rfl) (Or.inl rfl) rfl ?_
              refine r_iconst 63 1 C dX1_takeIndex_63 (by decide) ?_
              refine r_icmp_lt_t 64 79 C dX1_takeIndex_64 (by decide) ((fa_lt r59 1).mpr (by show (Int32.toInt r59) < 1; omega)) ?_
              refine r_iconst 79 0 C dX1_takeIndex_79 (by decide) ?_
              refine r_callVv 80 C dX1_takeIndex_80 [] [(h0, .inr (1, [.ref h3, .ref h4, .ref h1, .int z57, .long z58, .long y1, .int z17, .int r59, .long y2, .long y3]))] [(h1, .inr (4, [.ref h2, .int x5])), (h2, .inl (gB g, 1500, .inl fn0))] (fun sz => c53_X1_want l g h0 0 h3 h4 h1 z57 z58 y1 z17 r59 y2 y3 (by decide) ⟨p64, p65⟩ ⟨p66, p67⟩ (iv_wide (c := (-257)) (d := 65535) (iv_eq ⟨p6, p7⟩ tz17) (by decide) (by decide)) ⟨p62, p63⟩ i_y2 i_y3 sz) gX1_takeIndex_X1_want rfl ⟨rfl, rfl⟩ 1 (by decide) ⟨Nat.le_of_ble_eq_true rfl, Nat.le_of_ble_eq_true rfl⟩ 0 rfl rfl [0] [1, 2] rfl rfl (by decide) (by decide) (by decide) rfl rfl (Nat.le_of_ble_eq_true rfl) ⟨Nat.le_of_ble_eq_true rfl, Nat.le_of_ble_eq_true rfl⟩ (fun  z73 w74 => ?_)
              refine r_ws [(h1, .inr (4, [.ref h2, .int x5])), (h2, .inl (gB g, 1500, .inl fn0)), (h0, .inr (1, [.ref h3, .ref h4, .ref h1, .int z73, .long z58, .long y1, .int z17, .int r59, .long y2, .long y3]))] rfl ?_
              have p75 : 0 ≤ (Int32.toInt z73) := w74.1
              have p76 : (Int32.toInt z73) ≤ 2 := w74.2.1
              have p77 : WNT (0 : Int) (Int32.toInt z57) (Int32.toInt z73) := w74.2.2.1
              have p78 : (((0 : Int) = 1 ∧ (Int32.toInt z73) = (Int32.toInt z57)) ∨ ((0 : Int) = 0 ∧ 1 ≤ (Int32.toInt z73))) := w74.2.2.2
              rcases p78 with ⟨k79, k80⟩ | p78
              · skip
                exact absurd trivial (by omega)
              obtain ⟨k81, k82⟩ := p78
              refine r_aload_n 83 0 C dX1_takeIndex_83 rfl ?_
              refine r_aload_n 84 0 C dX1_takeIndex_84 rfl ?_
              refine r_get 85 C dX1_takeIndex_85 (k := 4) 2 rfl rfl hiX1 (by decide) rfl (mg 4 rfl) (Or.inl rfl) rfl ?_
              refine r_put 88 C dX1_takeIndex_88 (k := 8) 2 rfl rfl hiX1 tyX1 tyX1_ok nmX1 (by decide) rfl (mg 5 rfl) (Or.inl rfl) rfl rfl rfl rfl (Nat.le_of_ble_eq_true rfl) [(h1, .inr (4, [.ref h2, .int x5])), (h2, .inl (gB g, 1500, .inl fn0)), (h0, .inr (1, [.ref h3, .ref h4, .ref h1, .int z73, .long z58, .long y1, .int z17, .int r59, .long z58, .long y3]))] rfl ?_
              refine r_lconst 91 1 C dX1_takeIndex_91 (by decide) ?_
              refine r_lstore_n 92 C dX1_takeIndex_92 [(3, .long 1), (0, .ref h0), (1, .int x0), (2, .int x1)] (by decide) rfl ?_
              refine r_iconst 93 0 C dX1_takeIndex_93 (by decide) ?_
              refine r_istore 94 C dX1_takeIndex_94 [(5, .int 0), (3, .long 1), (0, .ref h0), (1, .int x0), (2, .int x1)] (by decide) rfl ?_
              have lp86 : ∀ (n85 : Nat) (z83 : Int32) (z84 : Int64), (0 ≤ (Int32.toInt z83) ∧ (Int32.toInt z83) ≤ 65536) → (0 ≤ (Int64.toInt z84) ∧ (Int64.toInt z84) ≤ 4294967295) → ((Int32.toInt z83) ≤ (Int32.toInt z17) + 1 ∧ 0 ≤ (Int64.toInt z58) ∧ (Int64.toInt z58) ≤ (Int32.toInt x5)) → (LPQ (Int32.toInt z73) (Int32.toInt z73) (OFS (GB fn0 (Int32.toInt x5)) (Int32.toInt x5) (Int32.toInt r59) (Int.toNat ((Int32.toInt z17) + 1)) (Int64.toInt z58) 0 1) (OFS (GB fn0 (Int32.toInt x5)) (Int32.toInt x5) (Int32.toInt r59) (Int.toNat ((Int32.toInt z17) + 1 - (Int32.toInt z83))) (Int64.toInt z58) (Int32.toInt z83) (Int64.toInt z84)) ((Int64.toInt z58) = (Int64.toInt z58) + (Int32.toInt r59) * (Int32.toInt z83))) → Int.toNat (0 - (Int32.toInt z83)) < n85 → WW p l e ({ frames := 3, cells := 0, slots := 0, locals := 67 } : Room) s m args below meth c A Q g 8 0 0 [(h1, .inr (4, [.ref h2, .int x5])), (h2, .inl (gB g, 1500, .inl fn0)), (h0, .inr (1, [.ref h3, .ref h4, .ref h1, .int z73, .long z58, .long y1, .int z17, .int r59, .long z58, .long y3]))] 96 [(5, .int z83), (3, .long z84), (0, .ref h0), (1, .int x0), (2, .int x1)] [] := by
                intro n85
                induction n85 with
                | zero => intro z83 z84 i89 i90 j91 j92 hm88; exact absurd hm88 (Nat.not_lt_zero _)
                | succ n85 ih87 =>
                  intro z83 z84 i89 i90 j91 j92 hm88
                  obtain ⟨i89a, i89b⟩ := i89
                  obtain ⟨i90a, i90b⟩ := i90
                  refine r_iload 96 0 C dX1_takeIndex_96 rfl ?_
                  refine r_aload_n 98 2 C dX1_takeIndex_98 rfl ?_
                  refine r_get 99 C dX1_takeIndex_99 (k := 6) 2 rfl rfl hiX1 (by decide) rfl (mg 1 rfl) (Or.inl rfl) rfl ?_
                  refine r_icmp_gt 102 159 C dX1_takeIndex_102 (by decide) (fun c93 => ?_) (fun c93 => ?_)
                  · skip
                    have k94 : (Int32.toInt z17) < (Int32.toInt z83) := (fa_lt z17 z83).mp c93
                    refine r_aload_n 159 2 C dX1_takeIndex_159 rfl ?_
                    refine r_aload_n 160 2 C dX1_takeIndex_160 rfl ?_
                    refine r_get 161 C dX1_takeIndex_161 (k := 4) 2 rfl rfl hiX1 (by decide) rfl (mg 4 rfl) (Or.inl rfl) rfl ?_
                    refine r_put 164 C dX1_takeIndex_164 (k := 9) 2 rfl rfl hiX1 tyX1 tyX1_ok nmX1 (by decide) rfl (mg 6 rfl) (Or.inl rfl) rfl rfl rfl rfl (Nat.le_of_ble_eq_true rfl) [(h1, .inr (4, [.ref h2, .int x5])), (h2, .inl (gB g, 1500, .inl fn0)), (h0, .inr (1, [.ref h3, .ref h4, .ref h1, .int z73, .long z58, .long y1, .int z17, .int r59, .long z58, .long z58]))] rfl ?_
                    refine r_aload_n 167 2 C dX1_takeIndex_167 rfl ?_
                    refine r_dup 168 C dX1_takeIndex_168 rfl ?_
                    refine r_get 169 C dX1_takeIndex_169 (k := 4) 2 rfl rfl hiX1 (by decide) rfl (mg 4 rfl) (Or.inl rfl) rfl ?_
                    refine r_lload_n 172 1 C dX1_takeIndex_172 rfl ?_
                    refine r_lconst 173 1 C dX1_takeIndex_173 (by decide) ?_
                    obtain ⟨z95, ez95⟩ : ∃ z_9, z84 - 1 = z_9 := ⟨_, rfl⟩
                    have tz95 : (Int64.toInt z95) = (Int64.toInt z84) - 1 := by rw [← ez95]; exact fb_subLv (a := 0) (b := 4294967295) (c := 1) (d := 1) ⟨i90a, i90b⟩ ⟨by decide, by decide⟩ (by decide) (by decide)
                    refine r_lsub 174 z95 C dX1_takeIndex_174 ez95 ?_
                    obtain ⟨z96, ez96⟩ : ∃ z_9, z58 + z95 = z_9 := ⟨_, rfl⟩
                    have tz96 : (Int64.toInt z96) = (Int64.toInt z58) + (Int64.toInt z95) := by rw [← ez96]; exact fb_addLv (a := (-8589934592)) (b := 8589934592) (c := (-1)) (d := 4294967294) ⟨p66, p67⟩ (iv_wide (c := (-1)) (d := 4294967294) (iv_sub (a := 0) (b := 4294967295) (c := 1) (d := 1) ⟨i90a, i90b⟩ ⟨by decide, by decide⟩ tz95) (by decide) (by decide)) (by decide) (by decide)
                    refine r_ladd 175 z96 C dX1_takeIndex_175 ez96 ?_
                    refine r_put 176 C dX1_takeIndex_176 (k := 4) 2 rfl rfl hiX1 tyX1 tyX1_ok nmX1 (by decide) rfl (mg 4 rfl) (Or.inl rfl) rfl rfl rfl rfl (Nat.le_of_ble_eq_true rfl) [(h1, .inr (4, [.ref h2, .int x5])), (h2, .inl (gB g, 1500, .inl fn0)), (h0, .inr (1, [.ref h3, .ref h4, .ref h1, .int z73, .long z96, .long y1, .int z17, .int r59, .long z58, .long z58]))] rfl ?_
                    refine r_aload_n 179 2 C dX1_takeIndex_179 rfl ?_
                    refine r_get 180 C dX1_takeIndex_180 (k := 4) 2 rfl rfl hiX1 (by decide) rfl (mg 4 rfl) (Or.inl rfl) rfl ?_
                    refine r_aload_n 183 2 C dX1_takeIndex_183 rfl ?_
                    refine r_get 184 C dX1_takeIndex_184 (k := 2) 2 rfl rfl hiX1 (by decide) rfl (mg 7 rfl) (Or.inl rfl) rfl ?_
                    refine r_callVi 187 C dX1_takeIndex_187 [.long z96] [(h1, .inr (4, [.ref h2, .int x5]))] [(h2, .inl (gB g, 1500, .inl fn0)), (h0, .inr (1, [.ref h3, .ref h4, .ref h1, .int z73, .long z96, .long y1, .int z17, .int r59, .long z58, .long z58]))] (fun sz => c0_X5_size l g h1 h2 x5 i_x5 sz) gX1_takeIndex_X5_size rfl ⟨rfl, rfl⟩ 0 (by decide) ⟨Nat.le_of_ble_eq_true rfl, Nat.le_of_ble_eq_true rfl⟩ 0 rfl rfl [0] [1, 2] rfl rfl (by decide) (by decide) (by decide) rfl rfl (Nat.le_of_ble_eq_true rfl) ⟨Nat.le_of_ble_eq_true rfl, Nat.le_of_ble_eq_true rfl⟩ (fun r97 _ w98 => ?_)
                    refine r_ws [(h2, .inl (gB g, 1500, .inl fn0)), (h0, .inr (1, [.ref h3, .ref h4, .ref h1, .int z73, .long z96, .long y1, .int z17, .int r59, .long z58, .long z58])), (h1, .inr (4, [.ref h2, .int x5]))] rfl ?_
                    have p99 : x5 = r97 := (w98).symm
                    subst p99
                    obtain ⟨z100, ez100⟩ : ∃ z_9, Int32.toInt64 x5 = z_9 := ⟨_, rfl⟩
                    have tz100 : (Int64.toInt z100) = (Int32.toInt x5) := by rw [← ez100]; exact Int32.toInt_toInt64 _
                    refine r_i2l 190 z100 C dX1_takeIndex_190 ez100 ?_
                    obtain ⟨z101, ez101⟩ : ∃ z_9, lg_cmp z96 z100 = z_9 := ⟨_, rfl⟩
                    have l1z101 : (Int32.toInt z101) < 0 ↔ (Int64.toInt z96) < (Int64.toInt z100) := by rw [← ez101]; exact lgI1 z96 z100
                    have l2z101 : 0 < (Int32.toInt z101) ↔ (Int64.toInt z100) < (Int64.toInt z96) := by rw [← ez101]; exact lgI2 z96 z100
                    refine r_lcmp 191 z101 C dX1_takeIndex_191 ez101 ?_
                    refine r_if_le 192 200 C dX1_takeIndex_192 (by decide) (fun c102 => ?_) (fun c102 => ?_)
                    · skip
                      have k103 : (Int32.toInt z101) ≤ 0 := (fa_le z101 0).mp c102
                      exact r_vret 200 Rt dX1_takeIndex_200 (z73, z96, z17, r59, z58, z58) (show 0 ≤ (Int32.toInt z73) ∧ (Int32.toInt z73) ≤ 2 ∧ -8589934592 ≤ (Int64.toInt z96) ∧ (Int64.toInt z96) ≤ 8589934592 ∧ -257 ≤ (Int32.toInt z17) ∧ (Int32.toInt z17) ≤ 65535 ∧ -1 ≤ (Int32.toInt r59) ∧ (Int32.toInt r59) ≤ 255 ∧ -8589934592 ≤ (Int64.toInt z58) ∧ (Int64.toInt z58) ≤ 8589934592 ∧ -8589934592 ≤ (Int64.toInt z58) ∧ (Int64.toInt z58) ≤ 8589934592 ∧ SEQ (Int32.toInt x2) (Int32.toInt z73) (IDX (GB fn0 (Int32.toInt x5)) (Int32.toInt x5) (Int64.toInt y0) (Int32.toInt x0) (Int32.toInt x1)) (IXR (Int32.toInt z17) (Int64.toInt z96) (Int32.toInt r59) (Int64.toInt z58) (Int64.toInt z58) (Int64.toInt y0)) ∧ IXN (Int32.toInt x2) (Int32.toInt z73) (Int32.toInt x0) (Int32.toInt x1) (Int32.toInt z17) (Int64.toInt z58) ∧ IXO (Int32.toInt z73) (Int32.toInt z17) (Int64.toInt z58) (Int32.toInt x5) (Int32.toInt r59) from ⟨(show _ ∧ _ from ⟨p75, p76⟩).1, (show _ ∧ _ from ⟨p75, p76⟩).2, (by ((repeat' apply And.intro) <;> first | trivial | rfl | assumption | omega | decide | exact Or.inl rfl | exact Or.inr (Or.inl rfl) | exact Or.inr (Or.inr rfl))), (by ((repeat' apply And.intro) <;> first | trivial | rfl | assumption | omega | decide | exact Or.inl rfl | exact Or.inr (Or.inl rfl) | exact Or.inr (Or.inr rfl))), (iv_wide (c := (-257)) (d := 65535) (iv_eq ⟨p6, p7⟩ tz17) (by decide) (by decide)).1, (iv_wide (c := (-257)) (d := 65535) (iv_eq ⟨p6, p7⟩ tz17) (by decide) (by decide)).2, (show _ ∧ _ from ⟨p62, p63⟩).1, (show _ ∧ _ from ⟨p62, p63⟩).2, (show _ ∧ _ from ⟨p66, p67⟩).1, (show _ ∧ _ from ⟨p66, p67⟩).2, (show _ ∧ _ from ⟨p66, p67⟩).1, (show _ ∧ _ from ⟨p66, p67⟩).2, (by exact idx_end pre0 p12 p48 (by omega) (by omega) (by omega) p68 p77 (by omega) (show LPQ (Int32.toInt z73) (Int32.toInt z73) (OFS (GB fn0 (Int32.toInt x5)) (Int32.toInt x5) (Int32.toInt r59) (Int.toNat ((Int32.toInt z17) + 1)) (Int64.toInt z58) 0 1) (OFS (GB fn0 (Int32.toInt x5)) (Int32.toInt x5) (Int32.toInt r59) (Int.toNat ((Int32.toInt z17) + 1 - (Int32.toInt z83))) (Int64.toInt z58) (Int32.toInt z83) (Int64.toInt z84)) ((Int64.toInt z58) = (Int64.toInt z58) + (Int32.toInt r59) * (Int32.toInt z83)) by assumption) (by omega) (by omega) (by omega) (by omega) (fun _ h_1 h_2 => ixr_1 (by omega) (by omega))), (by unfold IXN; omega), (by unfold IXO; omega)⟩) [1, 2, 0] (by decide) rfl (Nat.le_of_ble_eq_true rfl) (Nat.le_of_ble_eq_true rfl)
                    · skip
                      have k104 : ¬ ((Int32.toInt z101) ≤ 0) := fun h_9 => c102 ((fa_le z101 0).mpr h_9)
                      refine r_aload_n 195 2 C dX1_takeIndex_195 rfl ?_
                      refine r_iconst 196 1 C dX1_takeIndex_196 (by decide) ?_
                      refine r_callVv 197 C dX1_takeIndex_197 [] [(h0, .inr (1, [.ref h3, .ref h4, .ref h1, .int z73, .long z96, .long y1, .int z17, .int r59, .long z58, .long z58]))] [(h2, .inl (gB g, 1500, .inl fn0)), (h1, .inr (4, [.ref h2, .int x5]))] (fun sz => c51_X1_wrong l g h0 1 h3 h4 h1 z73 z96 y1 z17 r59 z58 z58 (by decide) ⟨p75, p76⟩ ⟨by omega, by omega⟩ (iv_wide (c := (-257)) (d := 65535) (iv_eq ⟨p6, p7⟩ tz17) (by decide) (by decide)) ⟨p62, p63⟩ ⟨p66, p67⟩ ⟨p66, p67⟩ sz) gX1_takeIndex_X1_wrong rfl ⟨rfl, rfl⟩ 1 (by decide) ⟨Nat.le_of_ble_eq_true rfl, Nat.le_of_ble_eq_true rfl⟩ 1 rfl rfl [1] [0, 2] rfl rfl (by decide) (by decide) (by decide) rfl rfl (Nat.le_of_ble_eq_true rfl) ⟨Nat.le_of_ble_eq_true rfl, Nat.le_of_ble_eq_true rfl⟩ (fun  z105 w106 => ?_)
                      refine r_ws [(h2, .inl (gB g, 1500, .inl fn0)), (h1, .inr (4, [.ref h2, .int x5])), (h0, .inr (1, [.ref h3, .ref h4, .ref h1, .int z105, .long z96, .long y1, .int z17, .int r59, .long z58, .long z58]))] rfl ?_
                      have p107 : 0 ≤ (Int32.toInt z105) := w106.1
                      have p108 : (Int32.toInt z105) ≤ 2 := w106.2.1
                      have p109 : ¬ ((Int32.toInt z105) = 0) := w106.2.2
                      exact r_vret 200 Rt dX1_takeIndex_200 (z105, z96, z17, r59, z58, z58) (show 0 ≤ (Int32.toInt z105) ∧ (Int32.toInt z105) ≤ 2 ∧ -8589934592 ≤ (Int64.toInt z96) ∧ (Int64.toInt z96) ≤ 8589934592 ∧ -257 ≤ (Int32.toInt z17) ∧ (Int32.toInt z17) ≤ 65535 ∧ -1 ≤ (Int32.toInt r59) ∧ (Int32.toInt r59) ≤ 255 ∧ -8589934592 ≤ (Int64.toInt z58) ∧ (Int64.toInt z58) ≤ 8589934592 ∧ -8589934592 ≤ (Int64.toInt z58) ∧ (Int64.toInt z58) ≤ 8589934592 ∧ SEQ (Int32.toInt x2) (Int32.toInt z105) (IDX (GB fn0 (Int32.toInt x5)) (Int32.toInt x5) (Int64.toInt y0) (Int32.toInt x0) (Int32.toInt x1)) (IXR (Int32.toInt z17) (Int64.toInt z96) (Int32.toInt r59) (Int64.toInt z58) (Int64.toInt z58) (Int64.toInt y0)) ∧ IXN (Int32.toInt x2) (Int32.toInt z105) (Int32.toInt x0) (Int32.toInt x1) (Int32.toInt z17) (Int64.toInt z58) ∧ IXO (Int32.toInt z105) (Int32.toInt z17) (Int64.toInt z58) (Int32.toInt x5) (Int32.toInt r59) from ⟨(show _ ∧ _ from ⟨p107, p108⟩).1, (show _ ∧ _ from ⟨p107, p108⟩).2, (by ((repeat' apply And.intro) <;> first | trivial | rfl | assumption | omega | decide | exact Or.inl rfl | exact Or.inr (Or.inl rfl) | exact Or.inr (Or.inr rfl))), (by ((repeat' apply And.intro) <;> first | trivial | rfl | assumption | omega | decide | exact Or.inl rfl | exact Or.inr (Or.inl rfl) | exact Or.inr (Or.inr rfl))), (iv_wide (c := (-257)) (d := 65535) (iv_eq ⟨p6, p7⟩ tz17) (by decide) (by decide)).1, (iv_wide (c := (-257)) (d := 65535) (iv_eq ⟨p6, p7⟩ tz17) (by decide) (by decide)).2, (show _ ∧ _ from ⟨p62, p63⟩).1, (show _ ∧ _ from ⟨p62, p63⟩).2, (show _ ∧ _ from ⟨p66, p67⟩).1, (show _ ∧ _ from ⟨p66, p67⟩).2, (show _ ∧ _ from ⟨p66, p67⟩).1, (show _ ∧ _ from ⟨p66, p67⟩).2, (by exact idx_end pre0 p12 p48 (by omega) (by omega) (by omega) p68 p77 (by omega) (show LPQ (Int32.toInt z73) (Int32.toInt z73) (OFS (GB fn0 (Int32.toInt x5)) (Int32.toInt x5) (Int32.toInt r59) (Int.toNat ((Int32.toInt z17) + 1)) (Int64.toInt z58) 0 1) (OFS (GB fn0 (Int32.toInt x5)) (Int32.toInt x5) (Int32.toInt r59) (Int.toNat ((Int32.toInt z17) + 1 - (Int32.toInt z83))) (Int64.toInt z58) (Int32.toInt z83) (Int64.toInt z84)) ((Int64.toInt z58) = (Int64.toInt z58) + (Int32.toInt r59) * (Int32.toInt z83)) by assumption) (by omega) (by omega) (by omega) (by omega) (fun _ h_1 h_2 => ixr_1 (by omega) (by omega))), (by unfold IXN; omega), (by unfold IXO; omega)⟩) [2, 1, 0] (by decide) rfl (Nat.le_of_ble_eq_true rfl) (Nat.le_of_ble_eq_true rfl)
                  · skip
                    have k110 : ¬ ((Int32.toInt z17) < (Int32.toInt z83)) := fun h_9 => c93 ((fa_lt z17 z83).mpr h_9)
                    refine r_aload_n 105 2 C dX1_takeIndex_105 rfl ?_
                    refine r_get 106 C dX1_takeIndex_106 (k := 3) 2 rfl rfl hiX1 (by decide) rfl (mg 2 rfl) (Or.inl rfl) rfl ?_
                    refine r_if_ne_t 109 159 C dX1_takeIndex_109 (by decide) (fun h_9 => by have h_8 : (Int32.toInt z73) = 0 := (fa_eq z73 0).mp h_9; omega) ?_
                    refine r_aload_n 159 2 C dX1_takeIndex_159 rfl ?_
                    refine r_aload_n 160 2 C dX1_takeIndex_160 rfl ?_
                    refine r_get 161 C dX1_takeIndex_161 (k := 4) 2 rfl rfl hiX1 (by decide) rfl (mg 4 rfl) (Or.inl rfl) rfl ?_
                    refine r_put 164 C dX1_takeIndex_164 (k := 9) 2 rfl rfl hiX1 tyX1 tyX1_ok nmX1 (by decide) rfl (mg 6 rfl) (Or.inl rfl) rfl rfl rfl rfl (Nat.le_of_ble_eq_true rfl) [(h1, .inr (4, [.ref h2, .int x5])), (h2, .inl (gB g, 1500, .inl fn0)), (h0, .inr (1, [.ref h3, .ref h4, .ref h1, .int z73, .long z58, .long y1, .int z17, .int r59, .long z58, .long z58]))] rfl ?_
                    refine r_aload_n 167 2 C dX1_takeIndex_167 rfl ?_
                    refine r_dup 168 C dX1_takeIndex_168 rfl ?_
                    refine r_get 169 C dX1_takeIndex_169 (k := 4) 2 rfl rfl hiX1 (by decide) rfl (mg 4 rfl) (Or.inl rfl) rfl ?_
                    refine r_lload_n 172 1 C dX1_takeIndex_172 rfl ?_
                    refine r_lconst 173 1 C dX1_takeIndex_173 (by decide) ?_
                    obtain ⟨z111, ez111⟩ : ∃ z_9, z84 - 1 = z_9 := ⟨_, rfl⟩
                    have tz111 : (Int64.toInt z111) = (Int64.toInt z84) - 1 := by rw [← ez111]; exact fb_subLv (a := 0) (b := 4294967295) (c := 1) (d := 1) ⟨i90a, i90b⟩ ⟨by decide, by decide⟩ (by decide) (by decide)
                    refine r_lsub 174 z111 C dX1_takeIndex_174 ez111 ?_
                    obtain ⟨z112, ez112⟩ : ∃ z_9, z58 + z111 = z_9 := ⟨_, rfl⟩
                    have tz112 : (Int64.toInt z112) = (Int64.toInt z58) + (Int64.toInt z111) := by rw [← ez112]; exact fb_addLv (a := (-8589934592)) (b := 8589934592) (c := (-1)) (d := 4294967294) ⟨p66, p67⟩ (iv_wide (c := (-1)) (d := 4294967294) (iv_sub (a := 0) (b := 4294967295) (c := 1) (d := 1) ⟨i90a, i90b⟩ ⟨by decide, by decide⟩ tz111) (by decide) (by decide)) (by decide) (by decide)
                    refine r_ladd 175 z112 C dX1_takeIndex_175 ez112 ?_
                    refine r_put 176 C dX1_takeIndex_176 (k := 4) 2 rfl rfl hiX1 tyX1 tyX1_ok nmX1 (by decide) rfl (mg 4 rfl) (Or.inl rfl) rfl rfl rfl rfl (Nat.le_of_ble_eq_true rfl) [(h1, .inr (4, [.ref h2, .int x5])), (h2, .inl (gB g, 1500, .inl fn0)), (h0, .inr (1, [.ref h3, .ref h4, .ref h1, .int z73, .long z112, .long y1, .int z17, .int r59, .long z58, .long z58]))] rfl ?_
                    refine r_aload_n 179 2 C dX1_takeIndex_179 rfl ?_
                    refine r_get 180 C dX1_takeIndex_180 (k := 4) 2 rfl rfl hiX1 (by decide) rfl (mg 4 rfl) (Or.inl rfl) rfl ?_
                    refine r_aload_n 183 2 C dX1_takeIndex_183 rfl ?_
                    refine r_get 184 C dX1_takeIndex_184 (k := 2) 2 rfl rfl hiX1 (by decide) rfl (mg 7 rfl) (Or.inl rfl) rfl ?_
                    refine r_callVi 187 C dX1_takeIndex_187 [.long z112] [(h1, .inr (4, [.ref h2, .int x5]))] [(h2, .inl (gB g, 1500, .inl fn0)), (h0, .inr (1, [.ref h3, .ref h4, .ref h1, .int z73, .long z112, .long y1, .int z17, .int r59, .long z58, .long z58]))] (fun sz => c0_X5_size l g h1 h2 x5 i_x5 sz) gX1_takeIndex_X5_size rfl ⟨rfl, rfl⟩ 0 (by decide) ⟨Nat.le_of_ble_eq_true rfl, Nat.le_of_ble_eq_true rfl⟩ 0 rfl rfl [0] [1, 2] rfl rfl (by decide) (by decide) (by decide) rfl rfl (Nat.le_of_ble_eq_true rfl) ⟨Nat.le_of_ble_eq_true rfl, Nat.le_of_ble_eq_true rfl⟩ (fun r113 _ w114 => ?_)
                    refine r_ws [(h2, .inl (gB g, 1500, .inl fn0)), (h0, .inr (1, [.ref h3, .ref h4, .ref h1, .int z73, .long z112, .long y1, .int z17, .int r59, .long z58, .long z58])), (h1, .inr (4, [.ref h2, .int x5]))] rfl ?_
                    have p115 : x5 = r113 := (w114).symm
                    subst p115
                    obtain ⟨z116, ez116⟩ : ∃ z_9, Int32.toInt64 x5 = z_9 := ⟨_, rfl⟩
                    have tz116 : (Int64.toInt z116) = (Int32.toInt x5) := by rw [← ez116]; exact Int32.toInt_toInt64 _
                    refine r_i2l 190 z116 C dX1_takeIndex_190 ez116 ?_
                    obtain ⟨z117, ez117⟩ : ∃ z_9, lg_cmp z112 z116 = z_9 := ⟨_, rfl⟩
                    have l1z117 : (Int32.toInt z117) < 0 ↔ (Int64.toInt z112) < (Int64.toInt z116) := by rw [← ez117]; exact lgI1 z112 z116
                    have l2z117 : 0 < (Int32.toInt z117) ↔ (Int64.toInt z116) < (Int64.toInt z112) := by rw [← ez117]; exact lgI2 z112 z116
                    refine r_lcmp 191 z117 C dX1_takeIndex_191 ez117 ?_
                    refine r_if_le 192 200 C dX1_takeIndex_192 (by decide) (fun c118 => ?_) (fun c118 => ?_)
                    · skip
                      have k119 : (Int32.toInt z117) ≤ 0 := (fa_le z117 0).mp c118
                      exact r_vret 200 Rt dX1_takeIndex_200 (z73, z112, z17, r59, z58, z58) (show 0 ≤ (Int32.toInt z73) ∧ (Int32.toInt z73) ≤ 2 ∧ -8589934592 ≤ (Int64.toInt z112) ∧ (Int64.toInt z112) ≤ 8589934592 ∧ -257 ≤ (Int32.toInt z17) ∧ (Int32.toInt z17) ≤ 65535 ∧ -1 ≤ (Int32.toInt r59) ∧ (Int32.toInt r59) ≤ 255 ∧ -8589934592 ≤ (Int64.toInt z58) ∧ (Int64.toInt z58) ≤ 8589934592 ∧ -8589934592 ≤ (Int64.toInt z58) ∧ (Int64.toInt z58) ≤ 8589934592 ∧ SEQ (Int32.toInt x2) (Int32.toInt z73) (IDX (GB fn0 (Int32.toInt x5)) (Int32.toInt x5) (Int64.toInt y0) (Int32.toInt x0) (Int32.toInt x1)) (IXR (Int32.toInt z17) (Int64.toInt z112) (Int32.toInt r59) (Int64.toInt z58) (Int64.toInt z58) (Int64.toInt y0)) ∧ IXN (Int32.toInt x2) (Int32.toInt z73) (Int32.toInt x0) (Int32.toInt x1) (Int32.toInt z17) (Int64.toInt z58) ∧ IXO (Int32.toInt z73) (Int32.toInt z17) (Int64.toInt z58) (Int32.toInt x5) (Int32.toInt r59) from ⟨(show _ ∧ _ from ⟨p75, p76⟩).1, (show _ ∧ _ from ⟨p75, p76⟩).2, (by ((repeat' apply And.intro) <;> first | trivial | rfl | assumption | omega | decide | exact Or.inl rfl | exact Or.inr (Or.inl rfl) | exact Or.inr (Or.inr rfl))), (by ((repeat' apply And.intro) <;> first | trivial | rfl | assumption | omega | decide | exact Or.inl rfl | exact Or.inr (Or.inl rfl) | exact Or.inr (Or.inr rfl))), (iv_wide (c := (-257)) (d := 65535) (iv_eq ⟨p6, p7⟩ tz17) (by decide) (by decide)).1, (iv_wide (c := (-257)) (d := 65535) (iv_eq ⟨p6, p7⟩ tz17) (by decide) (by decide)).2, (show _ ∧ _ from ⟨p62, p63⟩).1, (show _ ∧ _ from ⟨p62, p63⟩).2, (show _ ∧ _ from ⟨p66, p67⟩).1, (show _ ∧ _ from ⟨p66, p67⟩).2, (show _ ∧ _ from ⟨p66, p67⟩).1, (show _ ∧ _ from ⟨p66, p67⟩).2, (by exact idx_end pre0 p12 p48 (by omega) (by omega) (by omega) p68 p77 (by omega) (show LPQ (Int32.toInt z73) (Int32.toInt z73) (OFS (GB fn0 (Int32.toInt x5)) (Int32.toInt x5) (Int32.toInt r59) (Int.toNat ((Int32.toInt z17) + 1)) (Int64.toInt z58) 0 1) (OFS (GB fn0 (Int32.toInt x5)) (Int32.toInt x5) (Int32.toInt r59) (Int.toNat ((Int32.toInt z17) + 1 - (Int32.toInt z83))) (Int64.toInt z58) (Int32.toInt z83) (Int64.toInt z84)) ((Int64.toInt z58) = (Int64.toInt z58) + (Int32.toInt r59) * (Int32.toInt z83)) by assumption) (by omega) (by omega) (by omega) (by omega) (fun _ h_1 h_2 => ixr_1 (by omega) (by omega))), (by unfold IXN; omega), (by unfold IXO; omega)⟩) [1, 2, 0] (by decide) rfl (Nat.le_of_ble_eq_true rfl) (Nat.le_of_ble_eq_true rfl)
                    · skip
                      have k120 : ¬ ((Int32.toInt z117) ≤ 0) := fun h_9 => c118 ((fa_le z117 0).mpr h_9)
                      refine r_aload_n 195 2 C dX1_takeIndex_195 rfl ?_
                      refine r_iconst 196 1 C dX1_takeIndex_196 (by decide) ?_
                      refine r_callVv 197 C dX1_takeIndex_197 [] [(h0, .inr (1, [.ref h3, .ref h4, .ref h1, .int z73, .long z112, .long y1, .int z17, .int r59, .long z58, .long z58]))] [(h2, .inl (gB g, 1500, .inl fn0)), (h1, .inr (4, [.ref h2, .int x5]))] (fun sz => c51_X1_wrong l g h0 1 h3 h4 h1 z73 z112 y1 z17 r59 z58 z58 (by decide) ⟨p75, p76⟩ ⟨by omega, by omega⟩ (iv_wide (c := (-257)) (d := 65535) (iv_eq ⟨p6, p7⟩ tz17) (by decide) (by decide)) ⟨p62, p63⟩ ⟨p66, p67⟩ ⟨p66, p67⟩ sz) gX1_takeIndex_X1_wrong rfl ⟨rfl, rfl⟩ 1 (by decide) ⟨Nat.le_of_ble_eq_true rfl, Nat.le_of_ble_eq_true rfl⟩ 1 rfl rfl [1] [0, 2] rfl rfl (by decide) (by decide) (by decide) rfl rfl (Nat.le_of_ble_eq_true rfl) ⟨Nat.le_of_ble_eq_true rfl, Nat.le_of_ble_eq_true rfl⟩ (fun  z121 w122 => ?_)
                      refine r_ws [(h2, .inl (gB g, 1500, .inl fn0)), (h1, .inr (4, [.ref h2, .int x5])), (h0, .inr (1, [.ref h3, .ref h4, .ref h1, .int z121, .long z112, .long y1, .int z17, .int r59, .long z58, .long z58]))] rfl ?_
                      have p123 : 0 ≤ (Int32.toInt z121) := w122.1
                      have p124 : (Int32.toInt z121) ≤ 2 := w122.2.1
                      have p125 : ¬ ((Int32.toInt z121) = 0) := w122.2.2
                      exact r_vret 200 Rt dX1_takeIndex_200 (z121, z112, z17, r59, z58, z58) (show 0 ≤ (Int32.toInt z121) ∧ (Int32.toInt z121) ≤ 2 ∧ -8589934592 ≤ (Int64.toInt z112) ∧ (Int64.toInt z112) ≤ 8589934592 ∧ -257 ≤ (Int32.toInt z17) ∧ (Int32.toInt z17) ≤ 65535 ∧ -1 ≤ (Int32.toInt r59) ∧ (Int32.toInt r59) ≤ 255 ∧ -8589934592 ≤ (Int64.toInt z58) ∧ (Int64.toInt z58) ≤ 8589934592 ∧ -8589934592 ≤ (Int64.toInt z58) ∧ (Int64.toInt z58) ≤ 8589934592 ∧ SEQ (Int32.toInt x2) (Int32.toInt z121) (IDX (GB fn0 (Int32.toInt x5)) (Int32.toInt x5) (Int64.toInt y0) (Int32.toInt x0) (Int32.toInt x1)) (IXR (Int32.toInt z17) (Int64.toInt z112) (Int32.toInt r59) (Int64.toInt z58) (Int64.toInt z58) (Int64.toInt y0)) ∧ IXN (Int32.toInt x2) (Int32.toInt z121) (Int32.toInt x0) (Int32.toInt x1) (Int32.toInt z17) (Int64.toInt z58) ∧ IXO (Int32.toInt z121) (Int32.toInt z17) (Int64.toInt z58) (Int32.toInt x5) (Int32.toInt r59) from ⟨(show _ ∧ _ from ⟨p123, p124⟩).1, (show _ ∧ _ from ⟨p123, p124⟩).2, (by ((repeat' apply And.intro) <;> first | trivial | rfl | assumption | omega | decide | exact Or.inl rfl | exact Or.inr (Or.inl rfl) | exact Or.inr (Or.inr rfl))), (by ((repeat' apply And.intro) <;> first | trivial | rfl | assumption | omega | decide | exact Or.inl rfl | exact Or.inr (Or.inl rfl) | exact Or.inr (Or.inr rfl))), (iv_wide (c := (-257)) (d := 65535) (iv_eq ⟨p6, p7⟩ tz17) (by decide) (by decide)).1, (iv_wide (c := (-257)) (d := 65535) (iv_eq ⟨p6, p7⟩ tz17) (by decide) (by decide)).2, (show _ ∧ _ from ⟨p62, p63⟩).1, (show _ ∧ _ from ⟨p62, p63⟩).2, (show _ ∧ _ from ⟨p66, p67⟩).1, (show _ ∧ _ from ⟨p66, p67⟩).2, (show _ ∧ _ from ⟨p66, p67⟩).1, (show _ ∧ _ from ⟨p66, p67⟩).2, (by exact idx_end pre0 p12 p48 (by omega) (by omega) (by omega) p68 p77 (by omega) (show LPQ (Int32.toInt z73) (Int32.toInt z73) (OFS (GB fn0 (Int32.toInt x5)) (Int32.toInt x5) (Int32.toInt r59) (Int.toNat ((Int32.toInt z17) + 1)) (Int64.toInt z58) 0 1) (OFS (GB fn0 (Int32.toInt x5)) (Int32.toInt x5) (Int32.toInt r59) (Int.toNat ((Int32.toInt z17) + 1 - (Int32.toInt z83))) (Int64.toInt z58) (Int32.toInt z83) (Int64.toInt z84)) ((Int64.toInt z58) = (Int64.toInt z58) + (Int32.toInt r59) * (Int32.toInt z83)) by assumption) (by omega) (by omega) (by omega) (by omega) (fun _ h_1 h_2 => ixr_1 (by omega) (by omega))), (by unfold IXN; omega), (by unfold IXO; omega)⟩) [2, 1, 0] (by decide) rfl (Nat.le_of_ble_eq_true rfl) (Nat.le_of_ble_eq_true rfl)
              exact lp86 _ 0 1 (by decide) (by decide) (by show (0 : Int) ≤ (Int32.toInt z17) + 1 ∧ 0 ≤ (Int64.toInt z58) ∧ (Int64.toInt z58) ≤ (Int32.toInt x5); omega) (by exact ofs_0) (Nat.lt_succ_self _)
            obtain ⟨k126, k127, k128, k129, k130, k131, k132⟩ := p69
            refine r_put 55 C dX1_takeIndex_55 (k := 7) 0 rfl rfl hiX1 tyX1 tyX1_ok nmX1 (by decide) rfl (mg 3 rfl) (Or.inl rfl) rfl rfl rfl rfl (Nat.le_of_ble_eq_true rfl) [(h0, .inr (1, [.ref h3, .ref h4, .ref h1, .int z57, .long z58, .long y1, .int z17, .int r59, .long y2, .long y3])), (h1, .inr (4, [.ref h2, .int x5])), (h2, .inl (gB g, 1500, .inl fn0))] rfl ?_
            refine r_aload_n 58 0 C dX1_takeIndex_58 rfl ?_
            refine r_aload_n 59 0 C dX1_takeIndex_59 rfl ?_
            refine r_get 60 C dX1_takeIndex_60 (k := 7) 0 rfl rfl hiX1 (by decide) rfl (mg 3 rfl) (Or.inl rfl) rfl ?_
            refine r_iconst 63 1 C dX1_takeIndex_63 (by decide) ?_
            refine r_icmp_lt 64 79 C dX1_takeIndex_64 (by decide) (fun c133 => ?_) (fun c133 => ?_)
            · skip
              have k134 : (Int32.toInt r59) < 1 := (fa_lt r59 1).mp c133
              refine r_iconst 79 0 C dX1_takeIndex_79 (by decide) ?_
              refine r_callVv 80 C dX1_takeIndex_80 [] [(h0, .inr (1, [.ref h3, .ref h4, .ref h1, .int z57, .long z58, .long y1, .int z17, .int r59, .long y2, .long y3]))] [(h1, .inr (4, [.ref h2, .int x5])), (h2, .inl (gB g, 1500, .inl fn0))] (fun sz => c53_X1_want l g h0 0 h3 h4 h1 z57 z58 y1 z17 r59 y2 y3 (by decide) ⟨p64, p65⟩ ⟨p66, p67⟩ (iv_wide (c := (-257)) (d := 65535) (iv_eq ⟨p6, p7⟩ tz17) (by decide) (by decide)) ⟨p62, p63⟩ i_y2 i_y3 sz) gX1_takeIndex_X1_want rfl ⟨rfl, rfl⟩ 1 (by decide) ⟨Nat.le_of_ble_eq_true rfl, Nat.le_of_ble_eq_true rfl⟩ 0 rfl rfl [0] [1, 2] rfl rfl (by decide) (by decide) (by decide) rfl rfl (Nat.le_of_ble_eq_true rfl) ⟨Nat.le_of_ble_eq_true rfl, Nat.le_of_ble_eq_true rfl⟩ (fun  z135 w136 => ?_)
              refine r_ws [(h1, .inr (4, [.ref h2, .int x5])), (h2, .inl (gB g, 1500, .inl fn0)), (h0, .inr (1, [.ref h3, .ref h4, .ref h1, .int z135, .long z58, .long y1, .int z17, .int r59, .long y2, .long y3]))] rfl ?_
              have p137 : 0 ≤ (Int32.toInt z135) := w136.1
              have p138 : (Int32.toInt z135) ≤ 2 := w136.2.1
              have p139 : WNT (0 : Int) (Int32.toInt z57) (Int32.toInt z135) := w136.2.2.1
              have p140 : (((0 : Int) = 1 ∧ (Int32.toInt z135) = (Int32.toInt z57)) ∨ ((0 : Int) = 0 ∧ 1 ≤ (Int32.toInt z135))) := w136.2.2.2
              rcases p140 with ⟨k141, k142⟩ | p140
              · skip
                exact absurd trivial (by omega)
              obtain ⟨k143, k144⟩ := p140
              refine r_aload_n 83 0 C dX1_takeIndex_83 rfl ?_
              refine r_aload_n 84 0 C dX1_takeIndex_84 rfl ?_
              refine r_get 85 C dX1_takeIndex_85 (k := 4) 2 rfl rfl hiX1 (by decide) rfl (mg 4 rfl) (Or.inl rfl) rfl ?_
              refine r_put 88 C dX1_takeIndex_88 (k := 8) 2 rfl rfl hiX1 tyX1 tyX1_ok nmX1 (by decide) rfl (mg 5 rfl) (Or.inl rfl) rfl rfl rfl rfl (Nat.le_of_ble_eq_true rfl) [(h1, .inr (4, [.ref h2, .int x5])), (h2, .inl (gB g, 1500, .inl fn0)), (h0, .inr (1, [.ref h3, .ref h4, .ref h1, .int z135, .long z58, .long y1, .int z17, .int r59, .long z58, .long y3]))] rfl ?_
              refine r_lconst 91 1 C dX1_takeIndex_91 (by decide) ?_
              refine r_lstore_n 92 C dX1_takeIndex_92 [(3, .long 1), (0, .ref h0), (1, .int x0), (2, .int x1)] (by decide) rfl ?_
              refine r_iconst 93 0 C dX1_takeIndex_93 (by decide) ?_
              refine r_istore 94 C dX1_takeIndex_94 [(5, .int 0), (3, .long 1), (0, .ref h0), (1, .int x0), (2, .int x1)] (by decide) rfl ?_
              have lp148 : ∀ (n147 : Nat) (z145 : Int32) (z146 : Int64), (0 ≤ (Int32.toInt z145) ∧ (Int32.toInt z145) ≤ 65536) → (0 ≤ (Int64.toInt z146) ∧ (Int64.toInt z146) ≤ 4294967295) → ((Int32.toInt z145) ≤ (Int32.toInt z17) + 1 ∧ 0 ≤ (Int64.toInt z58) ∧ (Int64.toInt z58) ≤ (Int32.toInt x5)) → (LPQ (Int32.toInt z135) (Int32.toInt z135) (OFS (GB fn0 (Int32.toInt x5)) (Int32.toInt x5) (Int32.toInt r59) (Int.toNat ((Int32.toInt z17) + 1)) (Int64.toInt z58) 0 1) (OFS (GB fn0 (Int32.toInt x5)) (Int32.toInt x5) (Int32.toInt r59) (Int.toNat ((Int32.toInt z17) + 1 - (Int32.toInt z145))) (Int64.toInt z58) (Int32.toInt z145) (Int64.toInt z146)) ((Int64.toInt z58) = (Int64.toInt z58) + (Int32.toInt r59) * (Int32.toInt z145))) → Int.toNat (0 - (Int32.toInt z145)) < n147 → WW p l e ({ frames := 3, cells := 0, slots := 0, locals := 67 } : Room) s m args below meth c A Q g 8 0 0 [(h1, .inr (4, [.ref h2, .int x5])), (h2, .inl (gB g, 1500, .inl fn0)), (h0, .inr (1, [.ref h3, .ref h4, .ref h1, .int z135, .long z58, .long y1, .int z17, .int r59, .long z58, .long y3]))] 96 [(5, .int z145), (3, .long z146), (0, .ref h0), (1, .int x0), (2, .int x1)] [] := by
                intro n147
                induction n147 with
                | zero => intro z145 z146 i151 i152 j153 j154 hm150; exact absurd hm150 (Nat.not_lt_zero _)
                | succ n147 ih149 =>
                  intro z145 z146 i151 i152 j153 j154 hm150
                  obtain ⟨i151a, i151b⟩ := i151
                  obtain ⟨i152a, i152b⟩ := i152
                  refine r_iload 96 0 C dX1_takeIndex_96 rfl ?_
                  refine r_aload_n 98 2 C dX1_takeIndex_98 rfl ?_
                  refine r_get 99 C dX1_takeIndex_99 (k := 6) 2 rfl rfl hiX1 (by decide) rfl (mg 1 rfl) (Or.inl rfl) rfl ?_
                  refine r_icmp_gt 102 159 C dX1_takeIndex_102 (by decide) (fun c155 => ?_) (fun c155 => ?_)
                  · skip
                    have k156 : (Int32.toInt z17) < (Int32.toInt z145) := (fa_lt z17 z145).mp c155
                    refine r_aload_n 159 2 C dX1_takeIndex_159 rfl ?_
                    refine r_aload_n 160 2 C dX1_takeIndex_160 rfl ?_
                    refine r_get 161 C dX1_takeIndex_161 (k := 4) 2 rfl rfl hiX1 (by decide) rfl (mg 4 rfl) (Or.inl rfl) rfl ?_
                    refine r_put 164 C dX1_takeIndex_164 (k := 9) 2 rfl rfl hiX1 tyX1 tyX1_ok nmX1 (by decide) rfl (mg 6 rfl) (Or.inl rfl) rfl rfl rfl rfl (Nat.le_of_ble_eq_true rfl) [(h1, .inr (4, [.ref h2, .int x5])), (h2, .inl (gB g, 1500, .inl fn0)), (h0, .inr (1, [.ref h3, .ref h4, .ref h1, .int z135, .long z58, .long y1, .int z17, .int r59, .long z58, .long z58]))] rfl ?_
                    refine r_aload_n 167 2 C dX1_takeIndex_167 rfl ?_
                    refine r_dup 168 C dX1_takeIndex_168 rfl ?_
                    refine r_get 169 C dX1_takeIndex_169 (k := 4) 2 rfl rfl hiX1 (by decide) rfl (mg 4 rfl) (Or.inl rfl) rfl ?_
                    refine r_lload_n 172 1 C dX1_takeIndex_172 rfl ?_
                    refine r_lconst 173 1 C dX1_takeIndex_173 (by decide) ?_
                    obtain ⟨z157, ez157⟩ : ∃ z_9, z146 - 1 = z_9 := ⟨_, rfl⟩
                    have tz157 : (Int64.toInt z157) = (Int64.toInt z146) - 1 := by rw [← ez157]; exact fb_subLv (a := 0) (b := 4294967295) (c := 1) (d := 1) ⟨i152a, i152b⟩ ⟨by decide, by decide⟩ (by decide) (by decide)
                    refine r_lsub 174 z157 C dX1_takeIndex_174 ez157 ?_
                    obtain ⟨z158, ez158⟩ : ∃ z_9, z58 + z157 = z_9 := ⟨_, rfl⟩
                    have tz158 : (Int64.toInt z158) = (Int64.toInt z58) + (Int64.toInt z157) := by rw [← ez158]; exact fb_addLv (a := (-8589934592)) (b := 8589934592) (c := (-1)) (d := 4294967294) ⟨p66, p67⟩ (iv_wide (c := (-1)) (d := 4294967294) (iv_sub (a := 0) (b := 4294967295) (c := 1) (d := 1) ⟨i152a, i152b⟩ ⟨by decide, by decide⟩ tz157) (by decide) (by decide)) (by decide) (by decide)
                    refine r_ladd 175 z158 C dX1_takeIndex_175 ez158 ?_
                    refine r_put 176 C dX1_takeIndex_176 (k := 4) 2 rfl rfl hiX1 tyX1 tyX1_ok nmX1 (by decide) rfl (mg 4 rfl) (Or.inl rfl) rfl rfl rfl rfl (Nat.le_of_ble_eq_true rfl) [(h1, .inr (4, [.ref h2, .int x5])), (h2, .inl (gB g, 1500, .inl fn0)), (h0, .inr (1, [.ref h3, .ref h4, .ref h1, .int z135, .long z158, .long y1, .int z17, .int r59, .long z58, .long z58]))] rfl ?_
                    refine r_aload_n 179 2 C dX1_takeIndex_179 rfl ?_
                    refine r_get 180 C dX1_takeIndex_180 (k := 4) 2 rfl rfl hiX1 (by decide) rfl (mg 4 rfl) (Or.inl rfl) rfl ?_
                    refine r_aload_n 183 2 C dX1_takeIndex_183 rfl ?_
                    refine r_get 184 C dX1_takeIndex_184 (k := 2) 2 rfl rfl hiX1 (by decide) rfl (mg 7 rfl) (Or.inl rfl) rfl ?_
                    refine r_callVi 187 C dX1_takeIndex_187 [.long z158] [(h1, .inr (4, [.ref h2, .int x5]))] [(h2, .inl (gB g, 1500, .inl fn0)), (h0, .inr (1, [.ref h3, .ref h4, .ref h1, .int z135, .long z158, .long y1, .int z17, .int r59, .long z58, .long z58]))] (fun sz => c0_X5_size l g h1 h2 x5 i_x5 sz) gX1_takeIndex_X5_size rfl ⟨rfl, rfl⟩ 0 (by decide) ⟨Nat.le_of_ble_eq_true rfl, Nat.le_of_ble_eq_true rfl⟩ 0 rfl rfl [0] [1, 2] rfl rfl (by decide) (by decide) (by decide) rfl rfl (Nat.le_of_ble_eq_true rfl) ⟨Nat.le_of_ble_eq_true rfl, Nat.le_of_ble_eq_true rfl⟩ (fun r159 _ w160 => ?_)
                    refine r_ws [(h2, .inl (gB g, 1500, .inl fn0)), (h0, .inr (1, [.ref h3, .ref h4, .ref h1, .int z135, .long z158, .long y1, .int z17, .int r59, .long z58, .long z58])), (h1, .inr (4, [.ref h2, .int x5]))] rfl ?_
                    have p161 : x5 = r159 := (w160).symm
                    subst p161
                    obtain ⟨z162, ez162⟩ : ∃ z_9, Int32.toInt64 x5 = z_9 := ⟨_, rfl⟩
                    have tz162 : (Int64.toInt z162) = (Int32.toInt x5) := by rw [← ez162]; exact Int32.toInt_toInt64 _
                    refine r_i2l 190 z162 C dX1_takeIndex_190 ez162 ?_
                    obtain ⟨z163, ez163⟩ : ∃ z_9, lg_cmp z158 z162 = z_9 := ⟨_, rfl⟩
                    have l1z163 : (Int32.toInt z163) < 0 ↔ (Int64.toInt z158) < (Int64.toInt z162) := by rw [← ez163]; exact lgI1 z158 z162
                    have l2z163 : 0 < (Int32.toInt z163) ↔ (Int64.toInt z162) < (Int64.toInt z158) := by rw [← ez163]; exact lgI2 z158 z162
                    refine r_lcmp 191 z163 C dX1_takeIndex_191 ez163 ?_
                    refine r_if_le 192 200 C dX1_takeIndex_192 (by decide) (fun c164 => ?_) (fun c164 => ?_)
                    · skip
                      have k165 : (Int32.toInt z163) ≤ 0 := (fa_le z163 0).mp c164
                      exact r_vret 200 Rt dX1_takeIndex_200 (z135, z158, z17, r59, z58, z58) (show 0 ≤ (Int32.toInt z135) ∧ (Int32.toInt z135) ≤ 2 ∧ -8589934592 ≤ (Int64.toInt z158) ∧ (Int64.toInt z158) ≤ 8589934592 ∧ -257 ≤ (Int32.toInt z17) ∧ (Int32.toInt z17) ≤ 65535 ∧ -1 ≤ (Int32.toInt r59) ∧ (Int32.toInt r59) ≤ 255 ∧ -8589934592 ≤ (Int64.toInt z58) ∧ (Int64.toInt z58) ≤ 8589934592 ∧ -8589934592 ≤ (Int64.toInt z58) ∧ (Int64.toInt z58) ≤ 8589934592 ∧ SEQ (Int32.toInt x2) (Int32.toInt z135) (IDX (GB fn0 (Int32.toInt x5)) (Int32.toInt x5) (Int64.toInt y0) (Int32.toInt x0) (Int32.toInt x1)) (IXR (Int32.toInt z17) (Int64.toInt z158) (Int32.toInt r59) (Int64.toInt z58) (Int64.toInt z58) (Int64.toInt y0)) ∧ IXN (Int32.toInt x2) (Int32.toInt z135) (Int32.toInt x0) (Int32.toInt x1) (Int32.toInt z17) (Int64.toInt z58) ∧ IXO (Int32.toInt z135) (Int32.toInt z17) (Int64.toInt z58) (Int32.toInt x5) (Int32.toInt r59) from ⟨(show _ ∧ _ from ⟨p137, p138⟩).1, (show _ ∧ _ from ⟨p137, p138⟩).2, (by ((repeat' apply And.intro) <;> first | trivial | rfl | assumption | omega | decide | exact Or.inl rfl | exact Or.inr (Or.inl rfl) | exact Or.inr (Or.inr rfl))), (by ((repeat' apply And.intro) <;> first | trivial | rfl | assumption | omega | decide | exact Or.inl rfl | exact Or.inr (Or.inl rfl) | exact Or.inr (Or.inr rfl))), (iv_wide (c := (-257)) (d := 65535) (iv_eq ⟨p6, p7⟩ tz17) (by decide) (by decide)).1, (iv_wide (c := (-257)) (d := 65535) (iv_eq ⟨p6, p7⟩ tz17) (by decide) (by decide)).2, (show _ ∧ _ from ⟨p62, p63⟩).1, (show _ ∧ _ from ⟨p62, p63⟩).2, (show _ ∧ _ from ⟨p66, p67⟩).1, (show _ ∧ _ from ⟨p66, p67⟩).2, (show _ ∧ _ from ⟨p66, p67⟩).1, (show _ ∧ _ from ⟨p66, p67⟩).2, (by exact idx_end pre0 p12 p48 (by omega) (by omega) (by omega) p68 p139 (by omega) (show LPQ (Int32.toInt z135) (Int32.toInt z135) (OFS (GB fn0 (Int32.toInt x5)) (Int32.toInt x5) (Int32.toInt r59) (Int.toNat ((Int32.toInt z17) + 1)) (Int64.toInt z58) 0 1) (OFS (GB fn0 (Int32.toInt x5)) (Int32.toInt x5) (Int32.toInt r59) (Int.toNat ((Int32.toInt z17) + 1 - (Int32.toInt z145))) (Int64.toInt z58) (Int32.toInt z145) (Int64.toInt z146)) ((Int64.toInt z58) = (Int64.toInt z58) + (Int32.toInt r59) * (Int32.toInt z145)) by assumption) (by omega) (by omega) (by omega) (by omega) (fun _ h_1 h_2 => ixr_1 (by omega) (by omega))), (by unfold IXN; omega), (by unfold IXO; omega)⟩) [1, 2, 0] (by decide) rfl (Nat.le_of_ble_eq_true rfl) (Nat.le_of_ble_eq_true rfl)
                    · skip
                      have k166 : ¬ ((Int32.toInt z163) ≤ 0) := fun h_9 => c164 ((fa_le z163 0).mpr h_9)
                      refine r_aload_n 195 2 C dX1_takeIndex_195 rfl ?_
                      refine r_iconst 196 1 C dX1_takeIndex_196 (by decide) ?_
                      refine r_callVv 197 C dX1_takeIndex_197 [] [(h0, .inr (1, [.ref h3, .ref h4, .ref h1, .int z135, .long z158, .long y1, .int z17, .int r59, .long z58, .long z58]))] [(h2, .inl (gB g, 1500, .inl fn0)), (h1, .inr (4, [.ref h2, .int x5]))] (fun sz => c51_X1_wrong l g h0 1 h3 h4 h1 z135 z158 y1 z17 r59 z58 z58 (by decide) ⟨p137, p138⟩ ⟨by omega, by omega⟩ (iv_wide (c := (-257)) (d := 65535) (iv_eq ⟨p6, p7⟩ tz17) (by decide) (by decide)) ⟨p62, p63⟩ ⟨p66, p67⟩ ⟨p66, p67⟩ sz) gX1_takeIndex_X1_wrong rfl ⟨rfl, rfl⟩ 1 (by decide) ⟨Nat.le_of_ble_eq_true rfl, Nat.le_of_ble_eq_true rfl⟩ 1 rfl rfl [1] [0, 2] rfl rfl (by decide) (by decide) (by decide) rfl rfl (Nat.le_of_ble_eq_true rfl) ⟨Nat.le_of_ble_eq_true rfl, Nat.le_of_ble_eq_true rfl⟩ (fun  z167 w168 => ?_)
                      refine r_ws [(h2, .inl (gB g, 1500, .inl fn0)), (h1, .inr (4, [.ref h2, .int x5])), (h0, .inr (1, [.ref h3, .ref h4, .ref h1, .int z167, .long z158, .long y1, .int z17, .int r59, .long z58, .long z58]))] rfl ?_
                      have p169 : 0 ≤ (Int32.toInt z167) := w168.1
                      have p170 : (Int32.toInt z167) ≤ 2 := w168.2.1
                      have p171 : ¬ ((Int32.toInt z167) = 0) := w168.2.2
                      exact r_vret 200 Rt dX1_takeIndex_200 (z167, z158, z17, r59, z58, z58) (show 0 ≤ (Int32.toInt z167) ∧ (Int32.toInt z167) ≤ 2 ∧ -8589934592 ≤ (Int64.toInt z158) ∧ (Int64.toInt z158) ≤ 8589934592 ∧ -257 ≤ (Int32.toInt z17) ∧ (Int32.toInt z17) ≤ 65535 ∧ -1 ≤ (Int32.toInt r59) ∧ (Int32.toInt r59) ≤ 255 ∧ -8589934592 ≤ (Int64.toInt z58) ∧ (Int64.toInt z58) ≤ 8589934592 ∧ -8589934592 ≤ (Int64.toInt z58) ∧ (Int64.toInt z58) ≤ 8589934592 ∧ SEQ (Int32.toInt x2) (Int32.toInt z167) (IDX (GB fn0 (Int32.toInt x5)) (Int32.toInt x5) (Int64.toInt y0) (Int32.toInt x0) (Int32.toInt x1)) (IXR (Int32.toInt z17) (Int64.toInt z158) (Int32.toInt r59) (Int64.toInt z58) (Int64.toInt z58) (Int64.toInt y0)) ∧ IXN (Int32.toInt x2) (Int32.toInt z167) (Int32.toInt x0) (Int32.toInt x1) (Int32.toInt z17) (Int64.toInt z58) ∧ IXO (Int32.toInt z167) (Int32.toInt z17) (Int64.toInt z58) (Int32.toInt x5) (Int32.toInt r59) from ⟨(show _ ∧ _ from ⟨p169, p170⟩).1, (show _ ∧ _ from ⟨p169, p170⟩).2, (by ((repeat' apply And.intro) <;> first | trivial | rfl | assumption | omega | decide | exact Or.inl rfl | exact Or.inr (Or.inl rfl) | exact Or.inr (Or.inr rfl))), (by ((repeat' apply And.intro) <;> first | trivial | rfl | assumption | omega | decide | exact Or.inl rfl | exact Or.inr (Or.inl rfl) | exact Or.inr (Or.inr rfl))), (iv_wide (c := (-257)) (d := 65535) (iv_eq ⟨p6, p7⟩ tz17) (by decide) (by decide)).1, (iv_wide (c := (-257)) (d := 65535) (iv_eq ⟨p6, p7⟩ tz17) (by decide) (by decide)).2, (show _ ∧ _ from ⟨p62, p63⟩).1, (show _ ∧ _ from ⟨p62, p63⟩).2, (show _ ∧ _ from ⟨p66, p67⟩).1, (show _ ∧ _ from ⟨p66, p67⟩).2, (show _ ∧ _ from ⟨p66, p67⟩).1, (show _ ∧ _ from ⟨p66, p67⟩).2, (by exact idx_end pre0 p12 p48 (by omega) (by omega) (by omega) p68 p139 (by omega) (show LPQ (Int32.toInt z135) (Int32.toInt z135) (OFS (GB fn0 (Int32.toInt x5)) (Int32.toInt x5) (Int32.toInt r59) (Int.toNat ((Int32.toInt z17) + 1)) (Int64.toInt z58) 0 1) (OFS (GB fn0 (Int32.toInt x5)) (Int32.toInt x5) (Int32.toInt r59) (Int.toNat ((Int32.toInt z17) + 1 - (Int32.toInt z145))) (Int64.toInt z58) (Int32.toInt z145) (Int64.toInt z146)) ((Int64.toInt z58) = (Int64.toInt z58) + (Int32.toInt r59) * (Int32.toInt z145)) by assumption) (by omega) (by omega) (by omega) (by omega) (fun _ h_1 h_2 => ixr_1 (by omega) (by omega))), (by unfold IXN; omega), (by unfold IXO; omega)⟩) [2, 1, 0] (by decide) rfl (Nat.le_of_ble_eq_true rfl) (Nat.le_of_ble_eq_true rfl)
                  · skip
                    have k172 : ¬ ((Int32.toInt z17) < (Int32.toInt z145)) := fun h_9 => c155 ((fa_lt z17 z145).mpr h_9)
                    refine r_aload_n 105 2 C dX1_takeIndex_105 rfl ?_
                    refine r_get 106 C dX1_takeIndex_106 (k := 3) 2 rfl rfl hiX1 (by decide) rfl (mg 2 rfl) (Or.inl rfl) rfl ?_
                    refine r_if_ne_t 109 159 C dX1_takeIndex_109 (by decide) (fun h_9 => by have h_8 : (Int32.toInt z135) = 0 := (fa_eq z135 0).mp h_9; omega) ?_
                    refine r_aload_n 159 2 C dX1_takeIndex_159 rfl ?_
                    refine r_aload_n 160 2 C dX1_takeIndex_160 rfl ?_
                    refine r_get 161 C dX1_takeIndex_161 (k := 4) 2 rfl rfl hiX1 (by decide) rfl (mg 4 rfl) (Or.inl rfl) rfl ?_
                    refine r_put 164 C dX1_takeIndex_164 (k := 9) 2 rfl rfl hiX1 tyX1 tyX1_ok nmX1 (by decide) rfl (mg 6 rfl) (Or.inl rfl) rfl rfl rfl rfl (Nat.le_of_ble_eq_true rfl) [(h1, .inr (4, [.ref h2, .int x5])), (h2, .inl (gB g, 1500, .inl fn0)), (h0, .inr (1, [.ref h3, .ref h4, .ref h1, .int z135, .long z58, .long y1, .int z17, .int r59, .long z58, .long z58]))] rfl ?_
                    refine r_aload_n 167 2 C dX1_takeIndex_167 rfl ?_
                    refine r_dup 168 C dX1_takeIndex_168 rfl ?_
                    refine r_get 169 C dX1_takeIndex_169 (k := 4) 2 rfl rfl hiX1 (by decide) rfl (mg 4 rfl) (Or.inl rfl) rfl ?_
                    refine r_lload_n 172 1 C dX1_takeIndex_172 rfl ?_
                    refine r_lconst 173 1 C dX1_takeIndex_173 (by decide) ?_
                    obtain ⟨z173, ez173⟩ : ∃ z_9, z146 - 1 = z_9 := ⟨_, rfl⟩
                    have tz173 : (Int64.toInt z173) = (Int64.toInt z146) - 1 := by rw [← ez173]; exact fb_subLv (a := 0) (b := 4294967295) (c := 1) (d := 1) ⟨i152a, i152b⟩ ⟨by decide, by decide⟩ (by decide) (by decide)
                    refine r_lsub 174 z173 C dX1_takeIndex_174 ez173 ?_
                    obtain ⟨z174, ez174⟩ : ∃ z_9, z58 + z173 = z_9 := ⟨_, rfl⟩
                    have tz174 : (Int64.toInt z174) = (Int64.toInt z58) + (Int64.toInt z173) := by rw [← ez174]; exact fb_addLv (a := (-8589934592)) (b := 8589934592) (c := (-1)) (d := 4294967294) ⟨p66, p67⟩ (iv_wide (c := (-1)) (d := 4294967294) (iv_sub (a := 0) (b := 4294967295) (c := 1) (d := 1) ⟨i152a, i152b⟩ ⟨by decide, by decide⟩ tz173) (by decide) (by decide)) (by decide) (by decide)
                    refine r_ladd 175 z174 C dX1_takeIndex_175 ez174 ?_
                    refine r_put 176 C dX1_takeIndex_176 (k := 4) 2 rfl rfl hiX1 tyX1 tyX1_ok nmX1 (by decide) rfl (mg 4 rfl) (Or.inl rfl) rfl rfl rfl rfl (Nat.le_of_ble_eq_true rfl) [(h1, .inr (4, [.ref h2, .int x5])), (h2, .inl (gB g, 1500, .inl fn0)), (h0, .inr (1, [.ref h3, .ref h4, .ref h1, .int z135, .long z174, .long y1, .int z17, .int r59, .long z58, .long z58]))] rfl ?_
                    refine r_aload_n 179 2 C dX1_takeIndex_179 rfl ?_
                    refine r_get 180 C dX1_takeIndex_180 (k := 4) 2 rfl rfl hiX1 (by decide) rfl (mg 4 rfl) (Or.inl rfl) rfl ?_
                    refine r_aload_n 183 2 C dX1_takeIndex_183 rfl ?_
                    refine r_get 184 C dX1_takeIndex_184 (k := 2) 2 rfl rfl hiX1 (by decide) rfl (mg 7 rfl) (Or.inl rfl) rfl ?_
                    refine r_callVi 187 C dX1_takeIndex_187 [.long z174] [(h1, .inr (4, [.ref h2, .int x5]))] [(h2, .inl (gB g, 1500, .inl fn0)), (h0, .inr (1, [.ref h3, .ref h4, .ref h1, .int z135, .long z174, .long y1, .int z17, .int r59, .long z58, .long z58]))] (fun sz => c0_X5_size l g h1 h2 x5 i_x5 sz) gX1_takeIndex_X5_size rfl ⟨rfl, rfl⟩ 0 (by decide) ⟨Nat.le_of_ble_eq_true rfl, Nat.le_of_ble_eq_true rfl⟩ 0 rfl rfl [0] [1, 2] rfl rfl (by decide) (by decide) (by decide) rfl rfl (Nat.le_of_ble_eq_true rfl) ⟨Nat.le_of_ble_eq_true rfl, Nat.le_of_ble_eq_true rfl⟩ (fun r175 _ w176 => ?_)
                    refine r_ws [(h2, .inl (gB g, 1500, .inl fn0)), (h0, .inr (1, [.ref h3, .ref h4, .ref h1, .int z135, .long z174, .long y1, .int z17, .int r59, .long z58, .long z58])), (h1, .inr (4, [.ref h2, .int x5]))] rfl ?_
                    have p177 : x5 = r175 := (w176).symm
                    subst p177
                    obtain ⟨z178, ez178⟩ : ∃ z_9, Int32.toInt64 x5 = z_9 := ⟨_, rfl⟩
                    have tz178 : (Int64.toInt z178) = (Int32.toInt x5) := by rw [← ez178]; exact Int32.toInt_toInt64 _
                    refine r_i2l 190 z178 C dX1_takeIndex_190 ez178 ?_
                    obtain ⟨z179, ez179⟩ : ∃ z_9, lg_cmp z174 z178 = z_9 := ⟨_, rfl⟩
                    have l1z179 : (Int32.toInt z179) < 0 ↔ (Int64.toInt z174) < (Int64.toInt z178) := by rw [← ez179]; exact lgI1 z174 z178
                    have l2z179 : 0 < (Int32.toInt z179) ↔ (Int64.toInt z178) < (Int64.toInt z174) := by rw [← ez179]; exact lgI2 z174 z178
                    refine r_lcmp 191 z179 C dX1_takeIndex_191 ez179 ?_
                    refine r_if_le 192 200 C dX1_takeIndex_192 (by decide) (fun c180 => ?_) (fun c180 => ?_)
                    · skip
                      have k181 : (Int32.toInt z179) ≤ 0 := (fa_le z179 0).mp c180
                      exact r_vret 200 Rt dX1_takeIndex_200 (z135, z174, z17, r59, z58, z58) (show 0 ≤ (Int32.toInt z135) ∧ (Int32.toInt z135) ≤ 2 ∧ -8589934592 ≤ (Int64.toInt z174) ∧ (Int64.toInt z174) ≤ 8589934592 ∧ -257 ≤ (Int32.toInt z17) ∧ (Int32.toInt z17) ≤ 65535 ∧ -1 ≤ (Int32.toInt r59) ∧ (Int32.toInt r59) ≤ 255 ∧ -8589934592 ≤ (Int64.toInt z58) ∧ (Int64.toInt z58) ≤ 8589934592 ∧ -8589934592 ≤ (Int64.toInt z58) ∧ (Int64.toInt z58) ≤ 8589934592 ∧ SEQ (Int32.toInt x2) (Int32.toInt z135) (IDX (GB fn0 (Int32.toInt x5)) (Int32.toInt x5) (Int64.toInt y0) (Int32.toInt x0) (Int32.toInt x1)) (IXR (Int32.toInt z17) (Int64.toInt z174) (Int32.toInt r59) (Int64.toInt z58) (Int64.toInt z58) (Int64.toInt y0)) ∧ IXN (Int32.toInt x2) (Int32.toInt z135) (Int32.toInt x0) (Int32.toInt x1) (Int32.toInt z17) (Int64.toInt z58) ∧ IXO (Int32.toInt z135) (Int32.toInt z17) (Int64.toInt z58) (Int32.toInt x5) (Int32.toInt r59) from ⟨(show _ ∧ _ from ⟨p137, p138⟩).1, (show _ ∧ _ from ⟨p137, p138⟩).2, (by ((repeat' apply And.intro) <;> first | trivial | rfl | assumption | omega | decide | exact Or.inl rfl | exact Or.inr (Or.inl rfl) | exact Or.inr (Or.inr rfl))), (by ((repeat' apply And.intro) <;> first | trivial | rfl | assumption | omega | decide | exact Or.inl rfl | exact Or.inr (Or.inl rfl) | exact Or.inr (Or.inr rfl))), (iv_wide (c := (-257)) (d := 65535) (iv_eq ⟨p6, p7⟩ tz17) (by decide) (by decide)).1, (iv_wide (c := (-257)) (d := 65535) (iv_eq ⟨p6, p7⟩ tz17) (by decide) (by decide)).2, (show _ ∧ _ from ⟨p62, p63⟩).1, (show _ ∧ _ from ⟨p62, p63⟩).2, (show _ ∧ _ from ⟨p66, p67⟩).1, (show _ ∧ _ from ⟨p66, p67⟩).2, (show _ ∧ _ from ⟨p66, p67⟩).1, (show _ ∧ _ from ⟨p66, p67⟩).2, (by exact idx_end pre0 p12 p48 (by omega) (by omega) (by omega) p68 p139 (by omega) (show LPQ (Int32.toInt z135) (Int32.toInt z135) (OFS (GB fn0 (Int32.toInt x5)) (Int32.toInt x5) (Int32.toInt r59) (Int.toNat ((Int32.toInt z17) + 1)) (Int64.toInt z58) 0 1) (OFS (GB fn0 (Int32.toInt x5)) (Int32.toInt x5) (Int32.toInt r59) (Int.toNat ((Int32.toInt z17) + 1 - (Int32.toInt z145))) (Int64.toInt z58) (Int32.toInt z145) (Int64.toInt z146)) ((Int64.toInt z58) = (Int64.toInt z58) + (Int32.toInt r59) * (Int32.toInt z145)) by assumption) (by omega) (by omega) (by omega) (by omega) (fun _ h_1 h_2 => ixr_1 (by omega) (by omega))), (by unfold IXN; omega), (by unfold IXO; omega)⟩) [1, 2, 0] (by decide) rfl (Nat.le_of_ble_eq_true rfl) (Nat.le_of_ble_eq_true rfl)
                    · skip
                      have k182 : ¬ ((Int32.toInt z179) ≤ 0) := fun h_9 => c180 ((fa_le z179 0).mpr h_9)
                      refine r_aload_n 195 2 C dX1_takeIndex_195 rfl ?_
                      refine r_iconst 196 1 C dX1_takeIndex_196 (by decide) ?_
                      refine r_callVv 197 C dX1_takeIndex_197 [] [(h0, .inr (1, [.ref h3, .ref h4, .ref h1, .int z135, .long z174, .long y1, .int z17, .int r59, .long z58, .long z58]))] [(h2, .inl (gB g, 1500, .inl fn0)), (h1, .inr (4, [.ref h2, .int x5]))] (fun sz => c51_X1_wrong l g h0 1 h3 h4 h1 z135 z174 y1 z17 r59 z58 z58 (by decide) ⟨p137, p138⟩ ⟨by omega, by omega⟩ (iv_wide (c := (-257)) (d := 65535) (iv_eq ⟨p6, p7⟩ tz17) (by decide) (by decide)) ⟨p62, p63⟩ ⟨p66, p67⟩ ⟨p66, p67⟩ sz) gX1_takeIndex_X1_wrong rfl ⟨rfl, rfl⟩ 1 (by decide) ⟨Nat.le_of_ble_eq_true rfl, Nat.le_of_ble_eq_true rfl⟩ 1 rfl rfl [1] [0, 2] rfl rfl (by decide) (by decide) (by decide) rfl rfl (Nat.le_of_ble_eq_true rfl) ⟨Nat.le_of_ble_eq_true rfl, Nat.le_of_ble_eq_true rfl⟩ (fun  z183 w184 => ?_)
                      refine r_ws [(h2, .inl (gB g, 1500, .inl fn0)), (h1, .inr (4, [.ref h2, .int x5])), (h0, .inr (1, [.ref h3, .ref h4, .ref h1, .int z183, .long z174, .long y1, .int z17, .int r59, .long z58, .long z58]))] rfl ?_
                      have p185 : 0 ≤ (Int32.toInt z183) := w184.1
                      have p186 : (Int32.toInt z183) ≤ 2 := w184.2.1
                      have p187 : ¬ ((Int32.toInt z183) = 0) := w184.2.2
                      exact r_vret 200 Rt dX1_takeIndex_200 (z183, z174, z17, r59, z58, z58) (show 0 ≤ (Int32.toInt z183) ∧ (Int32.toInt z183) ≤ 2 ∧ -8589934592 ≤ (Int64.toInt z174) ∧ (Int64.toInt z174) ≤ 8589934592 ∧ -257 ≤ (Int32.toInt z17) ∧ (Int32.toInt z17) ≤ 65535 ∧ -1 ≤ (Int32.toInt r59) ∧ (Int32.toInt r59) ≤ 255 ∧ -8589934592 ≤ (Int64.toInt z58) ∧ (Int64.toInt z58) ≤ 8589934592 ∧ -8589934592 ≤ (Int64.toInt z58) ∧ (Int64.toInt z58) ≤ 8589934592 ∧ SEQ (Int32.toInt x2) (Int32.toInt z183) (IDX (GB fn0 (Int32.toInt x5)) (Int32.toInt x5) (Int64.toInt y0) (Int32.toInt x0) (Int32.toInt x1)) (IXR (Int32.toInt z17) (Int64.toInt z174) (Int32.toInt r59) (Int64.toInt z58) (Int64.toInt z58) (Int64.toInt y0)) ∧ IXN (Int32.toInt x2) (Int32.toInt z183) (Int32.toInt x0) (Int32.toInt x1) (Int32.toInt z17) (Int64.toInt z58) ∧ IXO (Int32.toInt z183) (Int32.toInt z17) (Int64.toInt z58) (Int32.toInt x5) (Int32.toInt r59) from ⟨(show _ ∧ _ from ⟨p185, p186⟩).1, (show _ ∧ _ from ⟨p185, p186⟩).2, (by ((repeat' apply And.intro) <;> first | trivial | rfl | assumption | omega | decide | exact Or.inl rfl | exact Or.inr (Or.inl rfl) | exact Or.inr (Or.inr rfl))), (by ((repeat' apply And.intro) <;> first | trivial | rfl | assumption | omega | decide | exact Or.inl rfl | exact Or.inr (Or.inl rfl) | exact Or.inr (Or.inr rfl))), (iv_wide (c := (-257)) (d := 65535) (iv_eq ⟨p6, p7⟩ tz17) (by decide) (by decide)).1, (iv_wide (c := (-257)) (d := 65535) (iv_eq ⟨p6, p7⟩ tz17) (by decide) (by decide)).2, (show _ ∧ _ from ⟨p62, p63⟩).1, (show _ ∧ _ from ⟨p62, p63⟩).2, (show _ ∧ _ from ⟨p66, p67⟩).1, (show _ ∧ _ from ⟨p66, p67⟩).2, (show _ ∧ _ from ⟨p66, p67⟩).1, (show _ ∧ _ from ⟨p66, p67⟩).2, (by exact idx_end pre0 p12 p48 (by omega) (by omega) (by omega) p68 p139 (by omega) (show LPQ (Int32.toInt z135) (Int32.toInt z135) (OFS (GB fn0 (Int32.toInt x5)) (Int32.toInt x5) (Int32.toInt r59) (Int.toNat ((Int32.toInt z17) + 1)) (Int64.toInt z58) 0 1) (OFS (GB fn0 (Int32.toInt x5)) (Int32.toInt x5) (Int32.toInt r59) (Int.toNat ((Int32.toInt z17) + 1 - (Int32.toInt z145))) (Int64.toInt z58) (Int32.toInt z145) (Int64.toInt z146)) ((Int64.toInt z58) = (Int64.toInt z58) + (Int32.toInt r59) * (Int32.toInt z145)) by assumption) (by omega) (by omega) (by omega) (by omega) (fun _ h_1 h_2 => ixr_1 (by omega) (by omega))), (by unfold IXN; omega), (by unfold IXO; omega)⟩) [2, 1, 0] (by decide) rfl (Nat.le_of_ble_eq_true rfl) (Nat.le_of_ble_eq_true rfl)
              exact lp148 _ 0 1 (by decide) (by decide) (by show (0 : Int) ≤ (Int32.toInt z17) + 1 ∧ 0 ≤ (Int64.toInt z58) ∧ (Int64.toInt z58) ≤ (Int32.toInt x5); omega) (by exact ofs_0) (Nat.lt_succ_self _)
            · skip
              have k188 : ¬ ((Int32.toInt r59) < 1) := fun h_9 => c133 ((fa_lt r59 1).mpr h_9)
              refine r_aload_n 67 0 C dX1_takeIndex_67 rfl ?_
              refine r_get 68 C dX1_takeIndex_68 (k := 7) 0 rfl rfl hiX1 (by decide) rfl (mg 3 rfl) (Or.inl rfl) rfl ?_
              refine r_iconst 71 4 C dX1_takeIndex_71 (by decide) ?_
              refine r_icmp_gt 72 79 C dX1_takeIndex_72 (by decide) (fun c189 => ?_) (fun c189 => ?_)
              · skip
                have k190 : 4 < (Int32.toInt r59) := (fa_lt 4 r59).mp c189
                refine r_iconst 79 0 C dX1_takeIndex_79 (by decide) ?_
                refine r_callVv 80 C dX1_takeIndex_80 [] [(h0, .inr (1, [.ref h3, .ref h4, .ref h1, .int z57, .long z58, .long y1, .int z17, .int r59, .long y2, .long y3]))] [(h1, .inr (4, [.ref h2, .int x5])), (h2, .inl (gB g, 1500, .inl fn0))] (fun sz => c53_X1_want l g h0 0 h3 h4 h1 z57 z58 y1 z17 r59 y2 y3 (by decide) ⟨p64, p65⟩ ⟨p66, p67⟩ (iv_wide (c := (-257)) (d := 65535) (iv_eq ⟨p6, p7⟩ tz17) (by decide) (by decide)) ⟨p62, p63⟩ i_y2 i_y3 sz) gX1_takeIndex_X1_want rfl ⟨rfl, rfl⟩ 1 (by decide) ⟨Nat.le_of_ble_eq_true rfl, Nat.le_of_ble_eq_true rfl⟩ 0 rfl rfl [0] [1, 2] rfl rfl (by decide) (by decide) (by decide) rfl rfl (Nat.le_of_ble_eq_true rfl) ⟨Nat.le_of_ble_eq_true rfl, Nat.le_of_ble_eq_true rfl⟩ (fun  z191 w192 => ?_)
                refine r_ws [(h1, .inr (4, [.ref h2, .int x5])), (h2, .inl (gB g, 1500, .inl fn0)), (h0, .inr (1, [.ref h3, .ref h4, .ref h1, .int z191, .long z58, .long y1, .int z17, .int r59, .long y2, .long y3]))] rfl ?_
                have p193 : 0 ≤ (Int32.toInt z191) := w192.1
                have p194 : (Int32.toInt z191) ≤ 2 := w192.2.1
                have p195 : WNT (0 : Int) (Int32.toInt z57) (Int32.toInt z191) := w192.2.2.1
                have p196 : (((0 : Int) = 1 ∧ (Int32.toInt z191) = (Int32.toInt z57)) ∨ ((0 : Int) = 0 ∧ 1 ≤ (Int32.toInt z191))) := w192.2.2.2
                rcases p196 with ⟨k197, k198⟩ | p196
                · skip
                  exact absurd trivial (by omega)
                obtain ⟨k199, k200⟩ := p196
                refine r_aload_n 83 0 C dX1_takeIndex_83 rfl ?_
                refine r_aload_n 84 0 C dX1_takeIndex_84 rfl ?_
                refine r_get 85 C dX1_takeIndex_85 (k := 4) 2 rfl rfl hiX1 (by decide) rfl (mg 4 rfl) (Or.inl rfl) rfl ?_
                refine r_put 88 C dX1_takeIndex_88 (k := 8) 2 rfl rfl hiX1 tyX1 tyX1_ok nmX1 (by decide) rfl (mg 5 rfl) (Or.inl rfl) rfl rfl rfl rfl (Nat.le_of_ble_eq_true rfl) [(h1, .inr (4, [.ref h2, .int x5])), (h2, .inl (gB g, 1500, .inl fn0)), (h0, .inr (1, [.ref h3, .ref h4, .ref h1, .int z191, .long z58, .long y1, .int z17, .int r59, .long z58, .long y3]))] rfl ?_
                refine r_lconst 91 1 C dX1_takeIndex_91 (by decide) ?_
                refine r_lstore_n 92 C dX1_takeIndex_92 [(3, .long 1), (0, .ref h0), (1, .int x0), (2, .int x1)] (by decide) rfl ?_
                refine r_iconst 93 0 C dX1_takeIndex_93 (by decide) ?_
                refine r_istore 94 C dX1_takeIndex_94 [(5, .int 0), (3, .long 1), (0, .ref h0), (1, .int x0), (2, .int x1)] (by decide) rfl ?_
                have lp204 : ∀ (n203 : Nat) (z201 : Int32) (z202 : Int64), (0 ≤ (Int32.toInt z201) ∧ (Int32.toInt z201) ≤ 65536) → (0 ≤ (Int64.toInt z202) ∧ (Int64.toInt z202) ≤ 4294967295) → ((Int32.toInt z201) ≤ (Int32.toInt z17) + 1 ∧ 0 ≤ (Int64.toInt z58) ∧ (Int64.toInt z58) ≤ (Int32.toInt x5)) → (LPQ (Int32.toInt z191) (Int32.toInt z191) (OFS (GB fn0 (Int32.toInt x5)) (Int32.toInt x5) (Int32.toInt r59) (Int.toNat ((Int32.toInt z17) + 1)) (Int64.toInt z58) 0 1) (OFS (GB fn0 (Int32.toInt x5)) (Int32.toInt x5) (Int32.toInt r59) (Int.toNat ((Int32.toInt z17) + 1 - (Int32.toInt z201))) (Int64.toInt z58) (Int32.toInt z201) (Int64.toInt z202)) ((Int64.toInt z58) = (Int64.toInt z58) + (Int32.toInt r59) * (Int32.toInt z201))) → Int.toNat (0 - (Int32.toInt z201)) < n203 → WW p l e ({ frames := 3, cells := 0, slots := 0, locals := 67 } : Room) s m args below meth c A Q g 8 0 0 [(h1, .inr (4, [.ref h2, .int x5])), (h2, .inl (gB g, 1500, .inl fn0)), (h0, .inr (1, [.ref h3, .ref h4, .ref h1, .int z191, .long z58, .long y1, .int z17, .int r59, .long z58, .long y3]))] 96 [(5, .int z201), (3, .long z202), (0, .ref h0), (1, .int x0), (2, .int x1)] [] := by
                  intro n203
                  induction n203 with
                  | zero => intro z201 z202 i207 i208 j209 j210 hm206; exact absurd hm206 (Nat.not_lt_zero _)
                  | succ n203 ih205 =>
                    intro z201 z202 i207 i208 j209 j210 hm206
                    obtain ⟨i207a, i207b⟩ := i207
                    obtain ⟨i208a, i208b⟩ := i208
                    refine r_iload 96 0 C dX1_takeIndex_96 rfl ?_
                    refine r_aload_n 98 2 C dX1_takeIndex_98 rfl ?_
                    refine r_get 99 C dX1_takeIndex_99 (k := 6) 2 rfl rfl hiX1 (by decide) rfl (mg 1 rfl) (Or.inl rfl) rfl ?_
                    refine r_icmp_gt 102 159 C dX1_takeIndex_102 (by decide) (fun c211 => ?_) (fun c211 => ?_)
                    · skip
                      have k212 : (Int32.toInt z17) < (Int32.toInt z201) := (fa_lt z17 z201).mp c211
                      refine r_aload_n 159 2 C dX1_takeIndex_159 rfl ?_
                      refine r_aload_n 160 2 C dX1_takeIndex_160 rfl ?_
                      refine r_get 161 C dX1_takeIndex_161 (k := 4) 2 rfl rfl hiX1 (by decide) rfl (mg 4 rfl) (Or.inl rfl) rfl ?_
                      refine r_put 164 C dX1_takeIndex_164 (k := 9) 2 rfl rfl hiX1 tyX1 tyX1_ok nmX1 (by decide) rfl (mg 6 rfl) (Or.inl rfl) rfl rfl rfl rfl (Nat.le_of_ble_eq_true rfl) [(h1, .inr (4, [.ref h2, .int x5])), (h2, .inl (gB g, 1500, .inl fn0)), (h0, .inr (1, [.ref h3, .ref h4, .ref h1, .int z191, .long z58, .long y1, .int z17, .int r59, .long z58, .long z58]))] rfl ?_
                      refine r_aload_n 167 2 C dX1_takeIndex_167 rfl ?_
                      refine r_dup 168 C dX1_takeIndex_168 rfl ?_
                      refine r_get 169 C dX1_takeIndex_169 (k := 4) 2 rfl rfl hiX1 (by decide) rfl (mg 4 rfl) (Or.inl rfl) rfl ?_
                      refine r_lload_n 172 1 C dX1_takeIndex_172 rfl ?_
                      refine r_lconst 173 1 C dX1_takeIndex_173 (by decide) ?_
                      obtain ⟨z213, ez213⟩ : ∃ z_9, z202 - 1 = z_9 := ⟨_, rfl⟩
                      have tz213 : (Int64.toInt z213) = (Int64.toInt z202) - 1 := by rw [← ez213]; exact fb_subLv (a := 0) (b := 4294967295) (c := 1) (d := 1) ⟨i208a, i208b⟩ ⟨by decide, by decide⟩ (by decide) (by decide)
                      refine r_lsub 174 z213 C dX1_takeIndex_174 ez213 ?_
                      obtain ⟨z214, ez214⟩ : ∃ z_9, z58 + z213 = z_9 := ⟨_, rfl⟩
                      have tz214 : (Int64.toInt z214) = (Int64.toInt z58) + (Int64.toInt z213) := by rw [← ez214]; exact fb_addLv (a := (-8589934592)) (b := 8589934592) (c := (-1)) (d := 4294967294) ⟨p66, p67⟩ (iv_wide (c := (-1)) (d := 4294967294) (iv_sub (a := 0) (b := 4294967295) (c := 1) (d := 1) ⟨i208a, i208b⟩ ⟨by decide, by decide⟩ tz213) (by decide) (by decide)) (by decide) (by decide)
                      refine r_ladd 175 z214 C dX1_takeIndex_175 ez214 ?_
                      refine r_put 176 C dX1_takeIndex_176 (k := 4) 2 rfl rfl hiX1 tyX1 tyX1_ok nmX1 (by decide) rfl (mg 4 rfl) (Or.inl rfl) rfl rfl rfl rfl (Nat.le_of_ble_eq_true rfl) [(h1, .inr (4, [.ref h2, .int x5])), (h2, .inl (gB g, 1500, .inl fn0)), (h0, .inr (1, [.ref h3, .ref h4, .ref h1, .int z191, .long z214, .long y1, .int z17, .int r59, .long z58, .long z58]))] rfl ?_
                      refine r_aload_n 179 2 C dX1_takeIndex_179 rfl ?_
                      refine r_get 180 C dX1_takeIndex_180 (k := 4) 2 rfl rfl hiX1 (by decide) rfl (mg 4 rfl) (Or.inl rfl) rfl ?_
                      refine r_aload_n 183 2 C dX1_takeIndex_183 rfl ?_
                      refine r_get 184 C dX1_takeIndex_184 (k := 2) 2 rfl rfl hiX1 (by decide) rfl (mg 7 rfl) (Or.inl rfl) rfl ?_
                      refine r_callVi 187 C dX1_takeIndex_187 [.long z214] [(h1, .inr (4, [.ref h2, .int x5]))] [(h2, .inl (gB g, 1500, .inl fn0)), (h0, .inr (1, [.ref h3, .ref h4, .ref h1, .int z191, .long z214, .long y1, .int z17, .int r59, .long z58, .long z58]))] (fun sz => c0_X5_size l g h1 h2 x5 i_x5 sz) gX1_takeIndex_X5_size rfl ⟨rfl, rfl⟩ 0 (by decide) ⟨Nat.le_of_ble_eq_true rfl, Nat.le_of_ble_eq_true rfl⟩ 0 rfl rfl [0] [1, 2] rfl rfl (by decide) (by decide) (by decide) rfl rfl (Nat.le_of_ble_eq_true rfl) ⟨Nat.le_of_ble_eq_true rfl, Nat.le_of_ble_eq_true rfl⟩ (fun r215 _ w216 => ?_)
                      refine r_ws [(h2, .inl (gB g, 1500, .inl fn0)), (h0, .inr (1, [.ref h3, .ref h4, .ref h1, .int z191, .long z214, .long y1, .int z17, .int r59, .long z58, .long z58])), (h1, .inr (4, [.ref h2, .int x5]))] rfl ?_
                      have p217 : x5 = r215 := (w216).symm
                      subst p217
                      obtain ⟨z218, ez218⟩ : ∃ z_9, Int32.toInt64 x5 = z_9 := ⟨_, rfl⟩
                      have tz218 : (Int64.toInt z218) = (Int32.toInt x5) := by rw [← ez218]; exact Int32.toInt_toInt64 _
                      refine r_i2l 190 z218 C dX1_takeIndex_190 ez218 ?_
                      obtain ⟨z219, ez219⟩ : ∃ z_9, lg_cmp z214 z218 = z_9 := ⟨_, rfl⟩
                      have l1z219 : (Int32.toInt z219) < 0 ↔ (Int64.toInt z214) < (Int64.toInt z218) := by rw [← ez219]; exact lgI1 z214 z218
                      have l2z219 : 0 < (Int32.toInt z219) ↔ (Int64.toInt z218) < (Int64.toInt z214) := by rw [← ez219]; exact lgI2 z214 z218
                      refine r_lcmp 191 z219 C dX1_takeIndex_191 ez219 ?_
                      refine r_if_le 192 200 C dX1_takeIndex_192 (by decide) (fun c220 => ?_) (fun c220 => ?_)
                      · skip
                        have k221 : (Int32.toInt z219) ≤ 0 := (fa_le z219 0).mp c220
                        exact r_vret 200 Rt dX1_takeIndex_200 (z191, z214, z17, r59, z58, z58) (show 0 ≤ (Int32.toInt z191) ∧ (Int32.toInt z191) ≤ 2 ∧ -8589934592 ≤ (Int64.toInt z214) ∧ (Int64.toInt z214) ≤ 8589934592 ∧ -257 ≤ (Int32.toInt z17) ∧ (Int32.toInt z17) ≤ 65535 ∧ -1 ≤ (Int32.toInt r59) ∧ (Int32.toInt r59) ≤ 255 ∧ -8589934592 ≤ (Int64.toInt z58) ∧ (Int64.toInt z58) ≤ 8589934592 ∧ -8589934592 ≤ (Int64.toInt z58) ∧ (Int64.toInt z58) ≤ 8589934592 ∧ SEQ (Int32.toInt x2) (Int32.toInt z191) (IDX (GB fn0 (Int32.toInt x5)) (Int32.toInt x5) (Int64.toInt y0) (Int32.toInt x0) (Int32.toInt x1)) (IXR (Int32.toInt z17) (Int64.toInt z214) (Int32.toInt r59) (Int64.toInt z58) (Int64.toInt z58) (Int64.toInt y0)) ∧ IXN (Int32.toInt x2) (Int32.toInt z191) (Int32.toInt x0) (Int32.toInt x1) (Int32.toInt z17) (Int64.toInt z58) ∧ IXO (Int32.toInt z191) (Int32.toInt z17) (Int64.toInt z58) (Int32.toInt x5) (Int32.toInt r59) from ⟨(show _ ∧ _ from ⟨p193, p194⟩).1, (show _ ∧ _ from ⟨p193, p194⟩).2, (by ((repeat' apply And.intro) <;> first | trivial | rfl | assumption | omega | decide | exact Or.inl rfl | exact Or.inr (Or.inl rfl) | exact Or.inr (Or.inr rfl))), (by ((repeat' apply And.intro) <;> first | trivial | rfl | assumption | omega | decide | exact Or.inl rfl | exact Or.inr (Or.inl rfl) | exact Or.inr (Or.inr rfl))), (iv_wide (c := (-257)) (d := 65535) (iv_eq ⟨p6, p7⟩ tz17) (by decide) (by decide)).1, (iv_wide (c := (-257)) (d := 65535) (iv_eq ⟨p6, p7⟩ tz17) (by decide) (by decide)).2, (show _ ∧ _ from ⟨p62, p63⟩).1, (show _ ∧ _ from ⟨p62, p63⟩).2, (show _ ∧ _ from ⟨p66, p67⟩).1, (show _ ∧ _ from ⟨p66, p67⟩).2, (show _ ∧ _ from ⟨p66, p67⟩).1, (show _ ∧ _ from ⟨p66, p67⟩).2, (by exact idx_end pre0 p12 p48 (by omega) (by omega) (by omega) p68 p195 (by omega) (show LPQ (Int32.toInt z191) (Int32.toInt z191) (OFS (GB fn0 (Int32.toInt x5)) (Int32.toInt x5) (Int32.toInt r59) (Int.toNat ((Int32.toInt z17) + 1)) (Int64.toInt z58) 0 1) (OFS (GB fn0 (Int32.toInt x5)) (Int32.toInt x5) (Int32.toInt r59) (Int.toNat ((Int32.toInt z17) + 1 - (Int32.toInt z201))) (Int64.toInt z58) (Int32.toInt z201) (Int64.toInt z202)) ((Int64.toInt z58) = (Int64.toInt z58) + (Int32.toInt r59) * (Int32.toInt z201)) by assumption) (by omega) (by omega) (by omega) (by omega) (fun _ h_1 h_2 => ixr_1 (by omega) (by omega))), (by unfold IXN; omega), (by unfold IXO; omega)⟩) [1, 2, 0] (by decide) rfl (Nat.le_of_ble_eq_true rfl) (Nat.le_of_ble_eq_true rfl)
                      · skip
                        have k222 : ¬ ((Int32.toInt z219) ≤ 0) := fun h_9 => c220 ((fa_le z219 0).mpr h_9)
                        refine r_aload_n 195 2 C dX1_takeIndex_195 rfl ?_
                        refine r_iconst 196 1 C dX1_takeIndex_196 (by decide) ?_
                        refine r_callVv 197 C dX1_takeIndex_197 [] [(h0, .inr (1, [.ref h3, .ref h4, .ref h1, .int z191, .long z214, .long y1, .int z17, .int r59, .long z58, .long z58]))] [(h2, .inl (gB g, 1500, .inl fn0)), (h1, .inr (4, [.ref h2, .int x5]))] (fun sz => c51_X1_wrong l g h0 1 h3 h4 h1 z191 z214 y1 z17 r59 z58 z58 (by decide) ⟨p193, p194⟩ ⟨by omega, by omega⟩ (iv_wide (c := (-257)) (d := 65535) (iv_eq ⟨p6, p7⟩ tz17) (by decide) (by decide)) ⟨p62, p63⟩ ⟨p66, p67⟩ ⟨p66, p67⟩ sz) gX1_takeIndex_X1_wrong rfl ⟨rfl, rfl⟩ 1 (by decide) ⟨Nat.le_of_ble_eq_true rfl, Nat.le_of_ble_eq_true rfl⟩ 1 rfl rfl [1] [0, 2] rfl rfl (by decide) (by decide) (by decide) rfl rfl (Nat.le_of_ble_eq_true rfl) ⟨Nat.le_of_ble_eq_true rfl, Nat.le_of_ble_eq_true rfl⟩ (fun  z223 w224 => ?_)
                        refine r_ws [(h2, .inl (gB g, 1500, .inl fn0)), (h1, .inr (4, [.ref h2, .int x5])), (h0, .inr (1, [.ref h3, .ref h4, .ref h1, .int z223, .long z214, .long y1, .int z17, .int r59, .long z58, .long z58]))] rfl ?_
                        have p225 : 0 ≤ (Int32.toInt z223) := w224.1
                        have p226 : (Int32.toInt z223) ≤ 2 := w224.2.1
                        have p227 : ¬ ((Int32.toInt z223) = 0) := w224.2.2
                        exact r_vret 200 Rt dX1_takeIndex_200 (z223, z214, z17, r59, z58, z58) (show 0 ≤ (Int32.toInt z223) ∧ (Int32.toInt z223) ≤ 2 ∧ -8589934592 ≤ (Int64.toInt z214) ∧ (Int64.toInt z214) ≤ 8589934592 ∧ -257 ≤ (Int32.toInt z17) ∧ (Int32.toInt z17) ≤ 65535 ∧ -1 ≤ (Int32.toInt r59) ∧ (Int32.toInt r59) ≤ 255 ∧ -8589934592 ≤ (Int64.toInt z58) ∧ (Int64.toInt z58) ≤ 8589934592 ∧ -8589934592 ≤ (Int64.toInt z58) ∧ (Int64.toInt z58) ≤ 8589934592 ∧ SEQ (Int32.toInt x2) (Int32.toInt z223) (IDX (GB fn0 (Int32.toInt x5)) (Int32.toInt x5) (Int64.toInt y0) (Int32.toInt x0) (Int32.toInt x1)) (IXR (Int32.toInt z17) (Int64.toInt z214) (Int32.toInt r59) (Int64.toInt z58) (Int64.toInt z58) (Int64.toInt y0)) ∧ IXN (Int32.toInt x2) (Int32.toInt z223) (Int32.toInt x0) (Int32.toInt x1) (Int32.toInt z17) (Int64.toInt z58) ∧ IXO (Int32.toInt z223) (Int32.toInt z17) (Int64.toInt z58) (Int32.toInt x5) (Int32.toInt r59) from ⟨(show _ ∧ _ from ⟨p225, p226⟩).1, (show _ ∧ _ from ⟨p225, p226⟩).2, (by ((repeat' apply And.intro) <;> first | trivial | rfl | assumption | omega | decide | exact Or.inl rfl | exact Or.inr (Or.inl rfl) | exact Or.inr (Or.inr rfl))), (by ((repeat' apply And.intro) <;> first | trivial | rfl | assumption | omega | decide | exact Or.inl rfl | exact Or.inr (Or.inl rfl) | exact Or.inr (Or.inr rfl))), (iv_wide (c := (-257)) (d := 65535) (iv_eq ⟨p6, p7⟩ tz17) (by decide) (by decide)).1, (iv_wide (c := (-257)) (d := 65535) (iv_eq ⟨p6, p7⟩ tz17) (by decide) (by decide)).2, (show _ ∧ _ from ⟨p62, p63⟩).1, (show _ ∧ _ from ⟨p62, p63⟩).2, (show _ ∧ _ from ⟨p66, p67⟩).1, (show _ ∧ _ from ⟨p66, p67⟩).2, (show _ ∧ _ from ⟨p66, p67⟩).1, (show _ ∧ _ from ⟨p66, p67⟩).2, (by exact idx_end pre0 p12 p48 (by omega) (by omega) (by omega) p68 p195 (by omega) (show LPQ (Int32.toInt z191) (Int32.toInt z191) (OFS (GB fn0 (Int32.toInt x5)) (Int32.toInt x5) (Int32.toInt r59) (Int.toNat ((Int32.toInt z17) + 1)) (Int64.toInt z58) 0 1) (OFS (GB fn0 (Int32.toInt x5)) (Int32.toInt x5) (Int32.toInt r59) (Int.toNat ((Int32.toInt z17) + 1 - (Int32.toInt z201))) (Int64.toInt z58) (Int32.toInt z201) (Int64.toInt z202)) ((Int64.toInt z58) = (Int64.toInt z58) + (Int32.toInt r59) * (Int32.toInt z201)) by assumption) (by omega) (by omega) (by omega) (by omega) (fun _ h_1 h_2 => ixr_1 (by omega) (by omega))), (by unfold IXN; omega), (by unfold IXO; omega)⟩) [2, 1, 0] (by decide) rfl (Nat.le_of_ble_eq_true rfl) (Nat.le_of_ble_eq_true rfl)
                    · skip
                      have k228 : ¬ ((Int32.toInt z17) < (Int32.toInt z201)) := fun h_9 => c211 ((fa_lt z17 z201).mpr h_9)
                      refine r_aload_n 105 2 C dX1_takeIndex_105 rfl ?_
                      refine r_get 106 C dX1_takeIndex_106 (k := 3) 2 rfl rfl hiX1 (by decide) rfl (mg 2 rfl) (Or.inl rfl) rfl ?_
                      refine r_if_ne_t 109 159 C dX1_takeIndex_109 (by decide) (fun h_9 => by have h_8 : (Int32.toInt z191) = 0 := (fa_eq z191 0).mp h_9; omega) ?_
                      refine r_aload_n 159 2 C dX1_takeIndex_159 rfl ?_
                      refine r_aload_n 160 2 C dX1_takeIndex_160 rfl ?_
                      refine r_get 161 C dX1_takeIndex_161 (k := 4) 2 rfl rfl hiX1 (by decide) rfl (mg 4 rfl) (Or.inl rfl) rfl ?_
                      refine r_put 164 C dX1_takeIndex_164 (k := 9) 2 rfl rfl hiX1 tyX1 tyX1_ok nmX1 (by decide) rfl (mg 6 rfl) (Or.inl rfl) rfl rfl rfl rfl (Nat.le_of_ble_eq_true rfl) [(h1, .inr (4, [.ref h2, .int x5])), (h2, .inl (gB g, 1500, .inl fn0)), (h0, .inr (1, [.ref h3, .ref h4, .ref h1, .int z191, .long z58, .long y1, .int z17, .int r59, .long z58, .long z58]))] rfl ?_
                      refine r_aload_n 167 2 C dX1_takeIndex_167 rfl ?_
                      refine r_dup 168 C dX1_takeIndex_168 rfl ?_
                      refine r_get 169 C dX1_takeIndex_169 (k := 4) 2 rfl rfl hiX1 (by decide) rfl (mg 4 rfl) (Or.inl rfl) rfl ?_
                      refine r_lload_n 172 1 C dX1_takeIndex_172 rfl ?_
                      refine r_lconst 173 1 C dX1_takeIndex_173 (by decide) ?_
                      obtain ⟨z229, ez229⟩ : ∃ z_9, z202 - 1 = z_9 := ⟨_, rfl⟩
                      have tz229 : (Int64.toInt z229) = (Int64.toInt z202) - 1 := by rw [← ez229]; exact fb_subLv (a := 0) (b := 4294967295) (c := 1) (d := 1) ⟨i208a, i208b⟩ ⟨by decide, by decide⟩ (by decide) (by decide)
                      refine r_lsub 174 z229 C dX1_takeIndex_174 ez229 ?_
                      obtain ⟨z230, ez230⟩ : ∃ z_9, z58 + z229 = z_9 := ⟨_, rfl⟩
                      have tz230 : (Int64.toInt z230) = (Int64.toInt z58) + (Int64.toInt z229) := by rw [← ez230]; exact fb_addLv (a := (-8589934592)) (b := 8589934592) (c := (-1)) (d := 4294967294) ⟨p66, p67⟩ (iv_wide (c := (-1)) (d := 4294967294) (iv_sub (a := 0) (b := 4294967295) (c := 1) (d := 1) ⟨i208a, i208b⟩ ⟨by decide, by decide⟩ tz229) (by decide) (by decide)) (by decide) (by decide)
                      refine r_ladd 175 z230 C dX1_takeIndex_175 ez230 ?_
                      refine r_put 176 C dX1_takeIndex_176 (k := 4) 2 rfl rfl hiX1 tyX1 tyX1_ok nmX1 (by decide) rfl (mg 4 rfl) (Or.inl rfl) rfl rfl rfl rfl (Nat.le_of_ble_eq_true rfl) [(h1, .inr (4, [.ref h2, .int x5])), (h2, .inl (gB g, 1500, .inl fn0)), (h0, .inr (1, [.ref h3, .ref h4, .ref h1, .int z191, .long z230, .long y1, .int z17, .int r59, .long z58, .long z58]))] rfl ?_
                      refine r_aload_n 179 2 C dX1_takeIndex_179 rfl ?_
                      refine r_get 180 C dX1_takeIndex_180 (k := 4) 2 rfl rfl hiX1 (by decide) rfl (mg 4 rfl) (Or.inl rfl) rfl ?_
                      refine r_aload_n 183 2 C dX1_takeIndex_183 rfl ?_
                      refine r_get 184 C dX1_takeIndex_184 (k := 2) 2 rfl rfl hiX1 (by decide) rfl (mg 7 rfl) (Or.inl rfl) rfl ?_
                      refine r_callVi 187 C dX1_takeIndex_187 [.long z230] [(h1, .inr (4, [.ref h2, .int x5]))] [(h2, .inl (gB g, 1500, .inl fn0)), (h0, .inr (1, [.ref h3, .ref h4, .ref h1, .int z191, .long z230, .long y1, .int z17, .int r59, .long z58, .long z58]))] (fun sz => c0_X5_size l g h1 h2 x5 i_x5 sz) gX1_takeIndex_X5_size rfl ⟨rfl, rfl⟩ 0 (by decide) ⟨Nat.le_of_ble_eq_true rfl, Nat.le_of_ble_eq_true rfl⟩ 0 rfl rfl [0] [1, 2] rfl rfl (by decide) (by decide) (by decide) rfl rfl (Nat.le_of_ble_eq_true rfl) ⟨Nat.le_of_ble_eq_true rfl, Nat.le_of_ble_eq_true rfl⟩ (fun r231 _ w232 => ?_)
                      refine r_ws [(h2, .inl (gB g, 1500, .inl fn0)), (h0, .inr (1, [.ref h3, .ref h4, .ref h1, .int z191, .long z230, .long y1, .int z17, .int r59, .long z58, .long z58])), (h1, .inr (4, [.ref h2, .int x5]))] rfl ?_
                      have p233 : x5 = r231 := (w232).symm
                      subst p233
                      obtain ⟨z234, ez234⟩ : ∃ z_9, Int32.toInt64 x5 = z_9 := ⟨_, rfl⟩
                      have tz234 : (Int64.toInt z234) = (Int32.toInt x5) := by rw [← ez234]; exact Int32.toInt_toInt64 _
                      refine r_i2l 190 z234 C dX1_takeIndex_190 ez234 ?_
                      obtain ⟨z235, ez235⟩ : ∃ z_9, lg_cmp z230 z234 = z_9 := ⟨_, rfl⟩
                      have l1z235 : (Int32.toInt z235) < 0 ↔ (Int64.toInt z230) < (Int64.toInt z234) := by rw [← ez235]; exact lgI1 z230 z234
                      have l2z235 : 0 < (Int32.toInt z235) ↔ (Int64.toInt z234) < (Int64.toInt z230) := by rw [← ez235]; exact lgI2 z230 z234
                      refine r_lcmp 191 z235 C dX1_takeIndex_191 ez235 ?_
                      refine r_if_le 192 200 C dX1_takeIndex_192 (by decide) (fun c236 => ?_) (fun c236 => ?_)
                      · skip
                        have k237 : (Int32.toInt z235) ≤ 0 := (fa_le z235 0).mp c236
                        exact r_vret 200 Rt dX1_takeIndex_200 (z191, z230, z17, r59, z58, z58) (show 0 ≤ (Int32.toInt z191) ∧ (Int32.toInt z191) ≤ 2 ∧ -8589934592 ≤ (Int64.toInt z230) ∧ (Int64.toInt z230) ≤ 8589934592 ∧ -257 ≤ (Int32.toInt z17) ∧ (Int32.toInt z17) ≤ 65535 ∧ -1 ≤ (Int32.toInt r59) ∧ (Int32.toInt r59) ≤ 255 ∧ -8589934592 ≤ (Int64.toInt z58) ∧ (Int64.toInt z58) ≤ 8589934592 ∧ -8589934592 ≤ (Int64.toInt z58) ∧ (Int64.toInt z58) ≤ 8589934592 ∧ SEQ (Int32.toInt x2) (Int32.toInt z191) (IDX (GB fn0 (Int32.toInt x5)) (Int32.toInt x5) (Int64.toInt y0) (Int32.toInt x0) (Int32.toInt x1)) (IXR (Int32.toInt z17) (Int64.toInt z230) (Int32.toInt r59) (Int64.toInt z58) (Int64.toInt z58) (Int64.toInt y0)) ∧ IXN (Int32.toInt x2) (Int32.toInt z191) (Int32.toInt x0) (Int32.toInt x1) (Int32.toInt z17) (Int64.toInt z58) ∧ IXO (Int32.toInt z191) (Int32.toInt z17) (Int64.toInt z58) (Int32.toInt x5) (Int32.toInt r59) from ⟨(show _ ∧ _ from ⟨p193, p194⟩).1, (show _ ∧ _ from ⟨p193, p194⟩).2, (by ((repeat' apply And.intro) <;> first | trivial | rfl | assumption | omega | decide | exact Or.inl rfl | exact Or.inr (Or.inl rfl) | exact Or.inr (Or.inr rfl))), (by ((repeat' apply And.intro) <;> first | trivial | rfl | assumption | omega | decide | exact Or.inl rfl | exact Or.inr (Or.inl rfl) | exact Or.inr (Or.inr rfl))), (iv_wide (c := (-257)) (d := 65535) (iv_eq ⟨p6, p7⟩ tz17) (by decide) (by decide)).1, (iv_wide (c := (-257)) (d := 65535) (iv_eq ⟨p6, p7⟩ tz17) (by decide) (by decide)).2, (show _ ∧ _ from ⟨p62, p63⟩).1, (show _ ∧ _ from ⟨p62, p63⟩).2, (show _ ∧ _ from ⟨p66, p67⟩).1, (show _ ∧ _ from ⟨p66, p67⟩).2, (show _ ∧ _ from ⟨p66, p67⟩).1, (show _ ∧ _ from ⟨p66, p67⟩).2, (by exact idx_end pre0 p12 p48 (by omega) (by omega) (by omega) p68 p195 (by omega) (show LPQ (Int32.toInt z191) (Int32.toInt z191) (OFS (GB fn0 (Int32.toInt x5)) (Int32.toInt x5) (Int32.toInt r59) (Int.toNat ((Int32.toInt z17) + 1)) (Int64.toInt z58) 0 1) (OFS (GB fn0 (Int32.toInt x5)) (Int32.toInt x5) (Int32.toInt r59) (Int.toNat ((Int32.toInt z17) + 1 - (Int32.toInt z201))) (Int64.toInt z58) (Int32.toInt z201) (Int64.toInt z202)) ((Int64.toInt z58) = (Int64.toInt z58) + (Int32.toInt r59) * (Int32.toInt z201)) by assumption) (by omega) (by omega) (by omega) (by omega) (fun _ h_1 h_2 => ixr_1 (by omega) (by omega))), (by unfold IXN; omega), (by unfold IXO; omega)⟩) [1, 2, 0] (by decide) rfl (Nat.le_of_ble_eq_true rfl) (Nat.le_of_ble_eq_true rfl)
                      · skip
                        have k238 : ¬ ((Int32.toInt z235) ≤ 0) := fun h_9 => c236 ((fa_le z235 0).mpr h_9)
                        refine r_aload_n 195 2 C dX1_takeIndex_195 rfl ?_
                        refine r_iconst 196 1 C dX1_takeIndex_196 (by decide) ?_
                        refine r_callVv 197 C dX1_takeIndex_197 [] [(h0, .inr (1, [.ref h3, .ref h4, .ref h1, .int z191, .long z230, .long y1, .int z17, .int r59, .long z58, .long z58]))] [(h2, .inl (gB g, 1500, .inl fn0)), (h1, .inr (4, [.ref h2, .int x5]))] (fun sz => c51_X1_wrong l g h0 1 h3 h4 h1 z191 z230 y1 z17 r59 z58 z58 (by decide) ⟨p193, p194⟩ ⟨by omega, by omega⟩ (iv_wide (c := (-257)) (d := 65535) (iv_eq ⟨p6, p7⟩ tz17) (by decide) (by decide)) ⟨p62, p63⟩ ⟨p66, p67⟩ ⟨p66, p67⟩ sz) gX1_takeIndex_X1_wrong rfl ⟨rfl, rfl⟩ 1 (by decide) ⟨Nat.le_of_ble_eq_true rfl, Nat.le_of_ble_eq_true rfl⟩ 1 rfl rfl [1] [0, 2] rfl rfl (by decide) (by decide) (by decide) rfl rfl (Nat.le_of_ble_eq_true rfl) ⟨Nat.le_of_ble_eq_true rfl, Nat.le_of_ble_eq_true rfl⟩ (fun  z239 w240 => ?_)
                        refine r_ws [(h2, .inl (gB g, 1500, .inl fn0)), (h1, .inr (4, [.ref h2, .int x5])), (h0, .inr (1, [.ref h3, .ref h4, .ref h1, .int z239, .long z230, .long y1, .int z17, .int r59, .long z58, .long z58]))] rfl ?_
                        have p241 : 0 ≤ (Int32.toInt z239) := w240.1
                        have p242 : (Int32.toInt z239) ≤ 2 := w240.2.1
                        have p243 : ¬ ((Int32.toInt z239) = 0) := w240.2.2
                        exact r_vret 200 Rt dX1_takeIndex_200 (z239, z230, z17, r59, z58, z58) (show 0 ≤ (Int32.toInt z239) ∧ (Int32.toInt z239) ≤ 2 ∧ -8589934592 ≤ (Int64.toInt z230) ∧ (Int64.toInt z230) ≤ 8589934592 ∧ -257 ≤ (Int32.toInt z17) ∧ (Int32.toInt z17) ≤ 65535 ∧ -1 ≤ (Int32.toInt r59) ∧ (Int32.toInt r59) ≤ 255 ∧ -8589934592 ≤ (Int64.toInt z58) ∧ (Int64.toInt z58) ≤ 8589934592 ∧ -8589934592 ≤ (Int64.toInt z58) ∧ (Int64.toInt z58) ≤ 8589934592 ∧ SEQ (Int32.toInt x2) (Int32.toInt z239) (IDX (GB fn0 (Int32.toInt x5)) (Int32.toInt x5) (Int64.toInt y0) (Int32.toInt x0) (Int32.toInt x1)) (IXR (Int32.toInt z17) (Int64.toInt z230) (Int32.toInt r59) (Int64.toInt z58) (Int64.toInt z58) (Int64.toInt y0)) ∧ IXN (Int32.toInt x2) (Int32.toInt z239) (Int32.toInt x0) (Int32.toInt x1) (Int32.toInt z17) (Int64.toInt z58) ∧ IXO (Int32.toInt z239) (Int32.toInt z17) (Int64.toInt z58) (Int32.toInt x5) (Int32.toInt r59) from ⟨(show _ ∧ _ from ⟨p241, p242⟩).1, (show _ ∧ _ from ⟨p241, p242⟩).2, (by ((repeat' apply And.intro) <;> first | trivial | rfl | assumption | omega | decide | exact Or.inl rfl | exact Or.inr (Or.inl rfl) | exact Or.inr (Or.inr rfl))), (by ((repeat' apply And.intro) <;> first | trivial | rfl | assumption | omega | decide | exact Or.inl rfl | exact Or.inr (Or.inl rfl) | exact Or.inr (Or.inr rfl))), (iv_wide (c := (-257)) (d := 65535) (iv_eq ⟨p6, p7⟩ tz17) (by decide) (by decide)).1, (iv_wide (c := (-257)) (d := 65535) (iv_eq ⟨p6, p7⟩ tz17) (by decide) (by decide)).2, (show _ ∧ _ from ⟨p62, p63⟩).1, (show _ ∧ _ from ⟨p62, p63⟩).2, (show _ ∧ _ from ⟨p66, p67⟩).1, (show _ ∧ _ from ⟨p66, p67⟩).2, (show _ ∧ _ from ⟨p66, p67⟩).1, (show _ ∧ _ from ⟨p66, p67⟩).2, (by exact idx_end pre0 p12 p48 (by omega) (by omega) (by omega) p68 p195 (by omega) (show LPQ (Int32.toInt z191) (Int32.toInt z191) (OFS (GB fn0 (Int32.toInt x5)) (Int32.toInt x5) (Int32.toInt r59) (Int.toNat ((Int32.toInt z17) + 1)) (Int64.toInt z58) 0 1) (OFS (GB fn0 (Int32.toInt x5)) (Int32.toInt x5) (Int32.toInt r59) (Int.toNat ((Int32.toInt z17) + 1 - (Int32.toInt z201))) (Int64.toInt z58) (Int32.toInt z201) (Int64.toInt z202)) ((Int64.toInt z58) = (Int64.toInt z58) + (Int32.toInt r59) * (Int32.toInt z201)) by assumption) (by omega) (by omega) (by omega) (by omega) (fun _ h_1 h_2 => ixr_1 (by omega) (by omega))), (by unfold IXN; omega), (by unfold IXO; omega)⟩) [2, 1, 0] (by decide) rfl (Nat.le_of_ble_eq_true rfl) (Nat.le_of_ble_eq_true rfl)
                exact lp204 _ 0 1 (by decide) (by decide) (by show (0 : Int) ≤ (Int32.toInt z17) + 1 ∧ 0 ≤ (Int64.toInt z58) ∧ (Int64.toInt z58) ≤ (Int32.toInt x5); omega) (by exact ofs_0) (Nat.lt_succ_self _)
              · skip
                have k244 : ¬ (4 < (Int32.toInt r59)) := fun h_9 => c189 ((fa_lt 4 r59).mpr h_9)
                refine r_iconst 75 1 C dX1_takeIndex_75 (by decide) ?_
                refine r_goto 76 80 C dX1_takeIndex_76 (by decide) ?_
                refine r_callVv 80 C dX1_takeIndex_80 [] [(h0, .inr (1, [.ref h3, .ref h4, .ref h1, .int z57, .long z58, .long y1, .int z17, .int r59, .long y2, .long y3]))] [(h1, .inr (4, [.ref h2, .int x5])), (h2, .inl (gB g, 1500, .inl fn0))] (fun sz => c53_X1_want l g h0 1 h3 h4 h1 z57 z58 y1 z17 r59 y2 y3 (by decide) ⟨p64, p65⟩ ⟨p66, p67⟩ (iv_wide (c := (-257)) (d := 65535) (iv_eq ⟨p6, p7⟩ tz17) (by decide) (by decide)) ⟨p62, p63⟩ i_y2 i_y3 sz) gX1_takeIndex_X1_want rfl ⟨rfl, rfl⟩ 1 (by decide) ⟨Nat.le_of_ble_eq_true rfl, Nat.le_of_ble_eq_true rfl⟩ 0 rfl rfl [0] [1, 2] rfl rfl (by decide) (by decide) (by decide) rfl rfl (Nat.le_of_ble_eq_true rfl) ⟨Nat.le_of_ble_eq_true rfl, Nat.le_of_ble_eq_true rfl⟩ (fun  z245 w246 => ?_)
                refine r_ws [(h1, .inr (4, [.ref h2, .int x5])), (h2, .inl (gB g, 1500, .inl fn0)), (h0, .inr (1, [.ref h3, .ref h4, .ref h1, .int z245, .long z58, .long y1, .int z17, .int r59, .long y2, .long y3]))] rfl ?_
                have p247 : 0 ≤ (Int32.toInt z245) := w246.1
                have p248 : (Int32.toInt z245) ≤ 2 := w246.2.1
                have p249 : WNT (1 : Int) (Int32.toInt z57) (Int32.toInt z245) := w246.2.2.1
                have p250 : (((1 : Int) = 1 ∧ (Int32.toInt z245) = (Int32.toInt z57)) ∨ ((1 : Int) = 0 ∧ 1 ≤ (Int32.toInt z245))) := w246.2.2.2
                rcases p250 with ⟨k251, k252⟩ | p250
                · skip
                  refine r_aload_n 83 0 C dX1_takeIndex_83 rfl ?_
                  refine r_aload_n 84 0 C dX1_takeIndex_84 rfl ?_
                  refine r_get 85 C dX1_takeIndex_85 (k := 4) 2 rfl rfl hiX1 (by decide) rfl (mg 4 rfl) (Or.inl rfl) rfl ?_
                  refine r_put 88 C dX1_takeIndex_88 (k := 8) 2 rfl rfl hiX1 tyX1 tyX1_ok nmX1 (by decide) rfl (mg 5 rfl) (Or.inl rfl) rfl rfl rfl rfl (Nat.le_of_ble_eq_true rfl) [(h1, .inr (4, [.ref h2, .int x5])), (h2, .inl (gB g, 1500, .inl fn0)), (h0, .inr (1, [.ref h3, .ref h4, .ref h1, .int z245, .long z58, .long y1, .int z17, .int r59, .long z58, .long y3]))] rfl ?_
                  refine r_lconst 91 1 C dX1_takeIndex_91 (by decide) ?_
                  refine r_lstore_n 92 C dX1_takeIndex_92 [(3, .long 1), (0, .ref h0), (1, .int x0), (2, .int x1)] (by decide) rfl ?_
                  refine r_iconst 93 0 C dX1_takeIndex_93 (by decide) ?_
                  refine r_istore 94 C dX1_takeIndex_94 [(5, .int 0), (3, .long 1), (0, .ref h0), (1, .int x0), (2, .int x1)] (by decide) rfl ?_
                  have lp258 : ∀ (n257 : Nat) (z253 : Int32) (z254 : Int64) (z255 : Int32) (z256 : Int64), (0 ≤ (Int32.toInt z253) ∧ (Int32.toInt z253) ≤ 65536) → (0 ≤ (Int64.toInt z254) ∧ (Int64.toInt z254) ≤ 4294967295) → (0 ≤ (Int32.toInt z255) ∧ (Int32.toInt z255) ≤ 2) → (-8589934592 ≤ (Int64.toInt z256) ∧ (Int64.toInt z256) ≤ 8589934592) → ((Int32.toInt z253) ≤ (Int32.toInt z17) + 1 ∧ 0 ≤ (Int64.toInt z256) ∧ (Int64.toInt z256) ≤ (Int32.toInt x5)) → (LPQ (Int32.toInt z245) (Int32.toInt z255) (OFS (GB fn0 (Int32.toInt x5)) (Int32.toInt x5) (Int32.toInt r59) (Int.toNat ((Int32.toInt z17) + 1)) (Int64.toInt z58) 0 1) (OFS (GB fn0 (Int32.toInt x5)) (Int32.toInt x5) (Int32.toInt r59) (Int.toNat ((Int32.toInt z17) + 1 - (Int32.toInt z253))) (Int64.toInt z256) (Int32.toInt z253) (Int64.toInt z254)) ((Int64.toInt z256) = (Int64.toInt z58) + (Int32.toInt r59) * (Int32.toInt z253))) → Int.toNat (65536 - (Int32.toInt z253)) < n257 → WW p l e ({ frames := 3, cells := 0, slots := 0, locals := 67 } : Room) s m args below meth c A Q g 8 0 0 [(h1, .inr (4, [.ref h2, .int x5])), (h2, .inl (gB g, 1500, .inl fn0)), (h0, .inr (1, [.ref h3, .ref h4, .ref h1, .int z255, .long z256, .long y1, .int z17, .int r59, .long z58, .long y3]))] 96 [(5, .int z253), (3, .long z254), (0, .ref h0), (1, .int x0), (2, .int x1)] [] := by
                    intro n257
                    induction n257 with
                    | zero => intro z253 z254 z255 z256 i261 i262 i263 i264 j265 j266 hm260; exact absurd hm260 (Nat.not_lt_zero _)
                    | succ n257 ih259 =>
                      intro z253 z254 z255 z256 i261 i262 i263 i264 j265 j266 hm260
                      obtain ⟨i261a, i261b⟩ := i261
                      obtain ⟨i262a, i262b⟩ := i262
                      obtain ⟨i263a, i263b⟩ := i263
                      obtain ⟨i264a, i264b⟩ := i264
                      refine r_iload 96 0 C dX1_takeIndex_96 rfl ?_
                      refine r_aload_n 98 2 C dX1_takeIndex_98 rfl ?_
                      refine r_get 99 C dX1_takeIndex_99 (k := 6) 2 rfl rfl hiX1 (by decide) rfl (mg 1 rfl) (Or.inl rfl) rfl ?_
                      refine r_icmp_gt 102 159 C dX1_takeIndex_102 (by decide) (fun c267 => ?_) (fun c267 => ?_)
                      · skip
                        have k268 : (Int32.toInt z17) < (Int32.toInt z253) := (fa_lt z17 z253).mp c267
                        refine r_aload_n 159 2 C dX1_takeIndex_159 rfl ?_
                        refine r_aload_n 160 2 C dX1_takeIndex_160 rfl ?_
                        refine r_get 161 C dX1_takeIndex_161 (k := 4) 2 rfl rfl hiX1 (by decide) rfl (mg 4 rfl) (Or.inl rfl) rfl ?_
                        refine r_put 164 C dX1_takeIndex_164 (k := 9) 2 rfl rfl hiX1 tyX1 tyX1_ok nmX1 (by decide) rfl (mg 6 rfl) (Or.inl rfl) rfl rfl rfl rfl (Nat.le_of_ble_eq_true rfl) [(h1, .inr (4, [.ref h2, .int x5])), (h2, .inl (gB g, 1500, .inl fn0)), (h0, .inr (1, [.ref h3, .ref h4, .ref h1, .int z255, .long z256, .long y1, .int z17, .int r59, .long z58, .long z256]))] rfl ?_
                        refine r_aload_n 167 2 C dX1_takeIndex_167 rfl ?_
                        refine r_dup 168 C dX1_takeIndex_168 rfl ?_
                        refine r_get 169 C dX1_takeIndex_169 (k := 4) 2 rfl rfl hiX1 (by decide) rfl (mg 4 rfl) (Or.inl rfl) rfl ?_
                        refine r_lload_n 172 1 C dX1_takeIndex_172 rfl ?_
                        refine r_lconst 173 1 C dX1_takeIndex_173 (by decide) ?_
                        obtain ⟨z269, ez269⟩ : ∃ z_9, z254 - 1 = z_9 := ⟨_, rfl⟩
                        have tz269 : (Int64.toInt z269) = (Int64.toInt z254) - 1 := by rw [← ez269]; exact fb_subLv (a := 0) (b := 4294967295) (c := 1) (d := 1) ⟨i262a, i262b⟩ ⟨by decide, by decide⟩ (by decide) (by decide)
                        refine r_lsub 174 z269 C dX1_takeIndex_174 ez269 ?_
                        obtain ⟨z270, ez270⟩ : ∃ z_9, z256 + z269 = z_9 := ⟨_, rfl⟩
                        have tz270 : (Int64.toInt z270) = (Int64.toInt z256) + (Int64.toInt z269) := by rw [← ez270]; exact fb_addLv (a := (-8589934592)) (b := 8589934592) (c := (-1)) (d := 4294967294) ⟨i264a, i264b⟩ (iv_wide (c := (-1)) (d := 4294967294) (iv_sub (a := 0) (b := 4294967295) (c := 1) (d := 1) ⟨i262a, i262b⟩ ⟨by decide, by decide⟩ tz269) (by decide) (by decide)) (by decide) (by decide)
                        refine r_ladd 175 z270 C dX1_takeIndex_175 ez270 ?_
                        refine r_put 176 C dX1_takeIndex_176 (k := 4) 2 rfl rfl hiX1 tyX1 tyX1_ok nmX1 (by decide) rfl (mg 4 rfl) (Or.inl rfl) rfl rfl rfl rfl (Nat.le_of_ble_eq_true rfl) [(h1, .inr (4, [.ref h2, .int x5])), (h2, .inl (gB g, 1500, .inl fn0)), (h0, .inr (1, [.ref h3, .ref h4, .ref h1, .int z255, .long z270, .long y1, .int z17, .int r59, .long z58, .long z256]))] rfl ?_
                        refine r_aload_n 179 2 C dX1_takeIndex_179 rfl ?_
                        refine r_get 180 C dX1_takeIndex_180 (k := 4) 2 rfl rfl hiX1 (by decide) rfl (mg 4 rfl) (Or.inl rfl) rfl ?_
                        refine r_aload_n 183 2 C dX1_takeIndex_183 rfl ?_
                        refine r_get 184 C dX1_takeIndex_184 (k := 2) 2 rfl rfl hiX1 (by decide) rfl (mg 7 rfl) (Or.inl rfl) rfl ?_
                        refine r_callVi 187 C dX1_takeIndex_187 [.long z270] [(h1, .inr (4, [.ref h2, .int x5]))] [(h2, .inl (gB g, 1500, .inl fn0)), (h0, .inr (1, [.ref h3, .ref h4, .ref h1, .int z255, .long z270, .long y1, .int z17, .int r59, .long z58, .long z256]))] (fun sz => c0_X5_size l g h1 h2 x5 i_x5 sz) gX1_takeIndex_X5_size rfl ⟨rfl, rfl⟩ 0 (by decide) ⟨Nat.le_of_ble_eq_true rfl, Nat.le_of_ble_eq_true rfl⟩ 0 rfl rfl [0] [1, 2] rfl rfl (by decide) (by decide) (by decide) rfl rfl (Nat.le_of_ble_eq_true rfl) ⟨Nat.le_of_ble_eq_true rfl, Nat.le_of_ble_eq_true rfl⟩ (fun r271 _ w272 => ?_)
                        refine r_ws [(h2, .inl (gB g, 1500, .inl fn0)), (h0, .inr (1, [.ref h3, .ref h4, .ref h1, .int z255, .long z270, .long y1, .int z17, .int r59, .long z58, .long z256])), (h1, .inr (4, [.ref h2, .int x5]))] rfl ?_
                        have p273 : x5 = r271 := (w272).symm
                        subst p273
                        obtain ⟨z274, ez274⟩ : ∃ z_9, Int32.toInt64 x5 = z_9 := ⟨_, rfl⟩
                        have tz274 : (Int64.toInt z274) = (Int32.toInt x5) := by rw [← ez274]; exact Int32.toInt_toInt64 _
                        refine r_i2l 190 z274 C dX1_takeIndex_190 ez274 ?_
                        obtain ⟨z275, ez275⟩ : ∃ z_9, lg_cmp z270 z274 = z_9 := ⟨_, rfl⟩
                        have l1z275 : (Int32.toInt z275) < 0 ↔ (Int64.toInt z270) < (Int64.toInt z274) := by rw [← ez275]; exact lgI1 z270 z274
                        have l2z275 : 0 < (Int32.toInt z275) ↔ (Int64.toInt z274) < (Int64.toInt z270) := by rw [← ez275]; exact lgI2 z270 z274
                        refine r_lcmp 191 z275 C dX1_takeIndex_191 ez275 ?_
                        refine r_if_le 192 200 C dX1_takeIndex_192 (by decide) (fun c276 => ?_) (fun c276 => ?_)
                        · skip
                          have k277 : (Int32.toInt z275) ≤ 0 := (fa_le z275 0).mp c276
                          exact r_vret 200 Rt dX1_takeIndex_200 (z255, z270, z17, r59, z58, z256) (show 0 ≤ (Int32.toInt z255) ∧ (Int32.toInt z255) ≤ 2 ∧ -8589934592 ≤ (Int64.toInt z270) ∧ (Int64.toInt z270) ≤ 8589934592 ∧ -257 ≤ (Int32.toInt z17) ∧ (Int32.toInt z17) ≤ 65535 ∧ -1 ≤ (Int32.toInt r59) ∧ (Int32.toInt r59) ≤ 255 ∧ -8589934592 ≤ (Int64.toInt z58) ∧ (Int64.toInt z58) ≤ 8589934592 ∧ -8589934592 ≤ (Int64.toInt z256) ∧ (Int64.toInt z256) ≤ 8589934592 ∧ SEQ (Int32.toInt x2) (Int32.toInt z255) (IDX (GB fn0 (Int32.toInt x5)) (Int32.toInt x5) (Int64.toInt y0) (Int32.toInt x0) (Int32.toInt x1)) (IXR (Int32.toInt z17) (Int64.toInt z270) (Int32.toInt r59) (Int64.toInt z58) (Int64.toInt z256) (Int64.toInt y0)) ∧ IXN (Int32.toInt x2) (Int32.toInt z255) (Int32.toInt x0) (Int32.toInt x1) (Int32.toInt z17) (Int64.toInt z256) ∧ IXO (Int32.toInt z255) (Int32.toInt z17) (Int64.toInt z58) (Int32.toInt x5) (Int32.toInt r59) from ⟨(show _ ∧ _ from ⟨i263a, i263b⟩).1, (show _ ∧ _ from ⟨i263a, i263b⟩).2, (by ((repeat' apply And.intro) <;> first | trivial | rfl | assumption | omega | decide | exact Or.inl rfl | exact Or.inr (Or.inl rfl) | exact Or.inr (Or.inr rfl))), (by ((repeat' apply And.intro) <;> first | trivial | rfl | assumption | omega | decide | exact Or.inl rfl | exact Or.inr (Or.inl rfl) | exact Or.inr (Or.inr rfl))), (iv_wide (c := (-257)) (d := 65535) (iv_eq ⟨p6, p7⟩ tz17) (by decide) (by decide)).1, (iv_wide (c := (-257)) (d := 65535) (iv_eq ⟨p6, p7⟩ tz17) (by decide) (by decide)).2, (show _ ∧ _ from ⟨p62, p63⟩).1, (show _ ∧ _ from ⟨p62, p63⟩).2, (show _ ∧ _ from ⟨p66, p67⟩).1, (show _ ∧ _ from ⟨p66, p67⟩).2, (show _ ∧ _ from ⟨i264a, i264b⟩).1, (show _ ∧ _ from ⟨i264a, i264b⟩).2, (by exact idx_end pre0 p12 p48 (by omega) (by omega) (by omega) p68 p249 (by omega) (show LPQ (Int32.toInt z245) (Int32.toInt z255) (OFS (GB fn0 (Int32.toInt x5)) (Int32.toInt x5) (Int32.toInt r59) (Int.toNat ((Int32.toInt z17) + 1)) (Int64.toInt z58) 0 1) (OFS (GB fn0 (Int32.toInt x5)) (Int32.toInt x5) (Int32.toInt r59) (Int.toNat ((Int32.toInt z17) + 1 - (Int32.toInt z253))) (Int64.toInt z256) (Int32.toInt z253) (Int64.toInt z254)) ((Int64.toInt z256) = (Int64.toInt z58) + (Int32.toInt r59) * (Int32.toInt z253)) by assumption) (by omega) (by omega) (by omega) (by omega) (fun _ h_1 h_2 => ixr_1 (by omega) (by omega))), (by unfold IXN; omega), (by unfold IXO; omega)⟩) [1, 2, 0] (by decide) rfl (Nat.le_of_ble_eq_true rfl) (Nat.le_of_ble_eq_true rfl)
                        · skip
                          have k278 : ¬ ((Int32.toInt z275) ≤ 0) := fun h_9 => c276 ((fa_le z275 0).mpr h_9)
                          refine r_aload_n 195 2 C dX1_takeIndex_195 rfl ?_
                          refine r_iconst 196 1 C dX1_takeIndex_196 (by decide) ?_
                          refine r_callVv 197 C dX1_takeIndex_197 [] [(h0, .inr (1, [.ref h3, .ref h4, .ref h1, .int z255, .long z270, .long y1, .int z17, .int r59, .long z58, .long z256]))] [(h2, .inl (gB g, 1500, .inl fn0)), (h1, .inr (4, [.ref h2, .int x5]))] (fun sz => c51_X1_wrong l g h0 1 h3 h4 h1 z255 z270 y1 z17 r59 z58 z256 (by decide) ⟨i263a, i263b⟩ ⟨by omega, by omega⟩ (iv_wide (c := (-257)) (d := 65535) (iv_eq ⟨p6, p7⟩ tz17) (by decide) (by decide)) ⟨p62, p63⟩ ⟨p66, p67⟩ ⟨i264a, i264b⟩ sz) gX1_takeIndex_X1_wrong rfl ⟨rfl, rfl⟩ 1 (by decide) ⟨Nat.le_of_ble_eq_true rfl, Nat.le_of_ble_eq_true rfl⟩ 1 rfl rfl [1] [0, 2] rfl rfl (by decide) (by decide) (by decide) rfl rfl (Nat.le_of_ble_eq_true rfl) ⟨Nat.le_of_ble_eq_true rfl, Nat.le_of_ble_eq_true rfl⟩ (fun  z279 w280 => ?_)
                          refine r_ws [(h2, .inl (gB g, 1500, .inl fn0)), (h1, .inr (4, [.ref h2, .int x5])), (h0, .inr (1, [.ref h3, .ref h4, .ref h1, .int z279, .long z270, .long y1, .int z17, .int r59, .long z58, .long z256]))] rfl ?_
                          have p281 : 0 ≤ (Int32.toInt z279) := w280.1
                          have p282 : (Int32.toInt z279) ≤ 2 := w280.2.1
                          have p283 : ¬ ((Int32.toInt z279) = 0) := w280.2.2
                          exact r_vret 200 Rt dX1_takeIndex_200 (z279, z270, z17, r59, z58, z256) (show 0 ≤ (Int32.toInt z279) ∧ (Int32.toInt z279) ≤ 2 ∧ -8589934592 ≤ (Int64.toInt z270) ∧ (Int64.toInt z270) ≤ 8589934592 ∧ -257 ≤ (Int32.toInt z17) ∧ (Int32.toInt z17) ≤ 65535 ∧ -1 ≤ (Int32.toInt r59) ∧ (Int32.toInt r59) ≤ 255 ∧ -8589934592 ≤ (Int64.toInt z58) ∧ (Int64.toInt z58) ≤ 8589934592 ∧ -8589934592 ≤ (Int64.toInt z256) ∧ (Int64.toInt z256) ≤ 8589934592 ∧ SEQ (Int32.toInt x2) (Int32.toInt z279) (IDX (GB fn0 (Int32.toInt x5)) (Int32.toInt x5) (Int64.toInt y0) (Int32.toInt x0) (Int32.toInt x1)) (IXR (Int32.toInt z17) (Int64.toInt z270) (Int32.toInt r59) (Int64.toInt z58) (Int64.toInt z256) (Int64.toInt y0)) ∧ IXN (Int32.toInt x2) (Int32.toInt z279) (Int32.toInt x0) (Int32.toInt x1) (Int32.toInt z17) (Int64.toInt z256) ∧ IXO (Int32.toInt z279) (Int32.toInt z17) (Int64.toInt z58) (Int32.toInt x5) (Int32.toInt r59) from ⟨(show _ ∧ _ from ⟨p281, p282⟩).1, (show _ ∧ _ from ⟨p281, p282⟩).2, (by ((repeat' apply And.intro) <;> first | trivial | rfl | assumption | omega | decide | exact Or.inl rfl | exact Or.inr (Or.inl rfl) | exact Or.inr (Or.inr rfl))), (by ((repeat' apply And.intro) <;> first | trivial | rfl | assumption | omega | decide | exact Or.inl rfl | exact Or.inr (Or.inl rfl) | exact Or.inr (Or.inr rfl))), (iv_wide (c := (-257)) (d := 65535) (iv_eq ⟨p6, p7⟩ tz17) (by decide) (by decide)).1, (iv_wide (c := (-257)) (d := 65535) (iv_eq ⟨p6, p7⟩ tz17) (by decide) (by decide)).2, (show _ ∧ _ from ⟨p62, p63⟩).1, (show _ ∧ _ from ⟨p62, p63⟩).2, (show _ ∧ _ from ⟨p66, p67⟩).1, (show _ ∧ _ from ⟨p66, p67⟩).2, (show _ ∧ _ from ⟨i264a, i264b⟩).1, (show _ ∧ _ from ⟨i264a, i264b⟩).2, (by exact idx_end pre0 p12 p48 (by omega) (by omega) (by omega) p68 p249 (by omega) (show LPQ (Int32.toInt z245) (Int32.toInt z255) (OFS (GB fn0 (Int32.toInt x5)) (Int32.toInt x5) (Int32.toInt r59) (Int.toNat ((Int32.toInt z17) + 1)) (Int64.toInt z58) 0 1) (OFS (GB fn0 (Int32.toInt x5)) (Int32.toInt x5) (Int32.toInt r59) (Int.toNat ((Int32.toInt z17) + 1 - (Int32.toInt z253))) (Int64.toInt z256) (Int32.toInt z253) (Int64.toInt z254)) ((Int64.toInt z256) = (Int64.toInt z58) + (Int32.toInt r59) * (Int32.toInt z253)) by assumption) (by omega) (by omega) (by omega) (by omega) (fun _ h_1 h_2 => ixr_1 (by omega) (by omega))), (by unfold IXN; omega), (by unfold IXO; omega)⟩) [2, 1, 0] (by decide) rfl (Nat.le_of_ble_eq_true rfl) (Nat.le_of_ble_eq_true rfl)
                      · skip
                        have k284 : ¬ ((Int32.toInt z17) < (Int32.toInt z253)) := fun h_9 => c267 ((fa_lt z17 z253).mpr h_9)
                        refine r_aload_n 105 2 C dX1_takeIndex_105 rfl ?_
                        refine r_get 106 C dX1_takeIndex_106 (k := 3) 2 rfl rfl hiX1 (by decide) rfl (mg 2 rfl) (Or.inl rfl) rfl ?_
                        refine r_if_ne 109 159 C dX1_takeIndex_109 (by decide) (fun c285 => ?_) (fun c285 => ?_)
                        · skip
                          have k286 : ¬ ((Int32.toInt z255) = 0) := fun h_9 => c285 ((fa_eq z255 0).mpr h_9)
                          refine r_aload_n 159 2 C dX1_takeIndex_159 rfl ?_
                          refine r_aload_n 160 2 C dX1_takeIndex_160 rfl ?_
                          refine r_get 161 C dX1_takeIndex_161 (k := 4) 2 rfl rfl hiX1 (by decide) rfl (mg 4 rfl) (Or.inl rfl) rfl ?_
                          refine r_put 164 C dX1_takeIndex_164 (k := 9) 2 rfl rfl hiX1 tyX1 tyX1_ok nmX1 (by decide) rfl (mg 6 rfl) (Or.inl rfl) rfl rfl rfl rfl (Nat.le_of_ble_eq_true rfl) [(h1, .inr (4, [.ref h2, .int x5])), (h2, .inl (gB g, 1500, .inl fn0)), (h0, .inr (1, [.ref h3, .ref h4, .ref h1, .int z255, .long z256, .long y1, .int z17, .int r59, .long z58, .long z256]))] rfl ?_
                          refine r_aload_n 167 2 C dX1_takeIndex_167 rfl ?_
                          refine r_dup 168 C dX1_takeIndex_168 rfl ?_
                          refine r_get 169 C dX1_takeIndex_169 (k := 4) 2 rfl rfl hiX1 (by decide) rfl (mg 4 rfl) (Or.inl rfl) rfl ?_
                          refine r_lload_n 172 1 C dX1_takeIndex_172 rfl ?_
                          refine r_lconst 173 1 C dX1_takeIndex_173 (by decide) ?_
                          obtain ⟨z287, ez287⟩ : ∃ z_9, z254 - 1 = z_9 := ⟨_, rfl⟩
                          have tz287 : (Int64.toInt z287) = (Int64.toInt z254) - 1 := by rw [← ez287]; exact fb_subLv (a := 0) (b := 4294967295) (c := 1) (d := 1) ⟨i262a, i262b⟩ ⟨by decide, by decide⟩ (by decide) (by decide)
                          refine r_lsub 174 z287 C dX1_takeIndex_174 ez287 ?_
                          obtain ⟨z288, ez288⟩ : ∃ z_9, z256 + z287 = z_9 := ⟨_, rfl⟩
                          have tz288 : (Int64.toInt z288) = (Int64.toInt z256) + (Int64.toInt z287) := by rw [← ez288]; exact fb_addLv (a := (-8589934592)) (b := 8589934592) (c := (-1)) (d := 4294967294) ⟨i264a, i264b⟩ (iv_wide (c := (-1)) (d := 4294967294) (iv_sub (a := 0) (b := 4294967295) (c := 1) (d := 1) ⟨i262a, i262b⟩ ⟨by decide, by decide⟩ tz287) (by decide) (by decide)) (by decide) (by decide)
                          refine r_ladd 175 z288 C dX1_takeIndex_175 ez288 ?_
                          refine r_put 176 C dX1_takeIndex_176 (k := 4) 2 rfl rfl hiX1 tyX1 tyX1_ok nmX1 (by decide) rfl (mg 4 rfl) (Or.inl rfl) rfl rfl rfl rfl (Nat.le_of_ble_eq_true rfl) [(h1, .inr (4, [.ref h2, .int x5])), (h2, .inl (gB g, 1500, .inl fn0)), (h0, .inr (1, [.ref h3, .ref h4, .ref h1, .int z255, .long z288, .long y1, .int z17, .int r59, .long z58, .long z256]))] rfl ?_
                          refine r_aload_n 179 2 C dX1_takeIndex_179 rfl ?_
                          refine r_get 180 C dX1_takeIndex_180 (k := 4) 2 rfl rfl hiX1 (by decide) rfl (mg 4 rfl) (Or.inl rfl) rfl ?_
                          refine r_aload_n 183 2 C dX1_takeIndex_183 rfl ?_
                          refine r_get 184 C dX1_takeIndex_184 (k := 2) 2 rfl rfl hiX1 (by decide) rfl (mg 7 rfl) (Or.inl rfl) rfl ?_
                          refine r_callVi 187 C dX1_takeIndex_187 [.long z288] [(h1, .inr (4, [.ref h2, .int x5]))] [(h2, .inl (gB g, 1500, .inl fn0)), (h0, .inr (1, [.ref h3, .ref h4, .ref h1, .int z255, .long z288, .long y1, .int z17, .int r59, .long z58, .long z256]))] (fun sz => c0_X5_size l g h1 h2 x5 i_x5 sz) gX1_takeIndex_X5_size rfl ⟨rfl, rfl⟩ 0 (by decide) ⟨Nat.le_of_ble_eq_true rfl, Nat.le_of_ble_eq_true rfl⟩ 0 rfl rfl [0] [1, 2] rfl rfl (by decide) (by decide) (by decide) rfl rfl (Nat.le_of_ble_eq_true rfl) ⟨Nat.le_of_ble_eq_true rfl, Nat.le_of_ble_eq_true rfl⟩ (fun r289 _ w290 => ?_)
                          refine r_ws [(h2, .inl (gB g, 1500, .inl fn0)), (h0, .inr (1, [.ref h3, .ref h4, .ref h1, .int z255, .long z288, .long y1, .int z17, .int r59, .long z58, .long z256])), (h1, .inr (4, [.ref h2, .int x5]))] rfl ?_
                          have p291 : x5 = r289 := (w290).symm
                          subst p291
                          obtain ⟨z292, ez292⟩ : ∃ z_9, Int32.toInt64 x5 = z_9 := ⟨_, rfl⟩
                          have tz292 : (Int64.toInt z292) = (Int32.toInt x5) := by rw [← ez292]; exact Int32.toInt_toInt64 _
                          refine r_i2l 190 z292 C dX1_takeIndex_190 ez292 ?_
                          obtain ⟨z293, ez293⟩ : ∃ z_9, lg_cmp z288 z292 = z_9 := ⟨_, rfl⟩
                          have l1z293 : (Int32.toInt z293) < 0 ↔ (Int64.toInt z288) < (Int64.toInt z292) := by rw [← ez293]; exact lgI1 z288 z292
                          have l2z293 : 0 < (Int32.toInt z293) ↔ (Int64.toInt z292) < (Int64.toInt z288) := by rw [← ez293]; exact lgI2 z288 z292
                          refine r_lcmp 191 z293 C dX1_takeIndex_191 ez293 ?_
                          refine r_if_le 192 200 C dX1_takeIndex_192 (by decide) (fun c294 => ?_) (fun c294 => ?_)
                          · skip
                            have k295 : (Int32.toInt z293) ≤ 0 := (fa_le z293 0).mp c294
                            exact r_vret 200 Rt dX1_takeIndex_200 (z255, z288, z17, r59, z58, z256) (show 0 ≤ (Int32.toInt z255) ∧ (Int32.toInt z255) ≤ 2 ∧ -8589934592 ≤ (Int64.toInt z288) ∧ (Int64.toInt z288) ≤ 8589934592 ∧ -257 ≤ (Int32.toInt z17) ∧ (Int32.toInt z17) ≤ 65535 ∧ -1 ≤ (Int32.toInt r59) ∧ (Int32.toInt r59) ≤ 255 ∧ -8589934592 ≤ (Int64.toInt z58) ∧ (Int64.toInt z58) ≤ 8589934592 ∧ -8589934592 ≤ (Int64.toInt z256) ∧ (Int64.toInt z256) ≤ 8589934592 ∧ SEQ (Int32.toInt x2) (Int32.toInt z255) (IDX (GB fn0 (Int32.toInt x5)) (Int32.toInt x5) (Int64.toInt y0) (Int32.toInt x0) (Int32.toInt x1)) (IXR (Int32.toInt z17) (Int64.toInt z288) (Int32.toInt r59) (Int64.toInt z58) (Int64.toInt z256) (Int64.toInt y0)) ∧ IXN (Int32.toInt x2) (Int32.toInt z255) (Int32.toInt x0) (Int32.toInt x1) (Int32.toInt z17) (Int64.toInt z256) ∧ IXO (Int32.toInt z255) (Int32.toInt z17) (Int64.toInt z58) (Int32.toInt x5) (Int32.toInt r59) from ⟨(show _ ∧ _ from ⟨i263a, i263b⟩).1, (show _ ∧ _ from ⟨i263a, i263b⟩).2, (by ((repeat' apply And.intro) <;> first | trivial | rfl | assumption | omega | decide | exact Or.inl rfl | exact Or.inr (Or.inl rfl) | exact Or.inr (Or.inr rfl))), (by ((repeat' apply And.intro) <;> first | trivial | rfl | assumption | omega | decide | exact Or.inl rfl | exact Or.inr (Or.inl rfl) | exact Or.inr (Or.inr rfl))), (iv_wide (c := (-257)) (d := 65535) (iv_eq ⟨p6, p7⟩ tz17) (by decide) (by decide)).1, (iv_wide (c := (-257)) (d := 65535) (iv_eq ⟨p6, p7⟩ tz17) (by decide) (by decide)).2, (show _ ∧ _ from ⟨p62, p63⟩).1, (show _ ∧ _ from ⟨p62, p63⟩).2, (show _ ∧ _ from ⟨p66, p67⟩).1, (show _ ∧ _ from ⟨p66, p67⟩).2, (show _ ∧ _ from ⟨i264a, i264b⟩).1, (show _ ∧ _ from ⟨i264a, i264b⟩).2, (by exact idx_end pre0 p12 p48 (by omega) (by omega) (by omega) p68 p249 (by omega) (show LPQ (Int32.toInt z245) (Int32.toInt z255) (OFS (GB fn0 (Int32.toInt x5)) (Int32.toInt x5) (Int32.toInt r59) (Int.toNat ((Int32.toInt z17) + 1)) (Int64.toInt z58) 0 1) (OFS (GB fn0 (Int32.toInt x5)) (Int32.toInt x5) (Int32.toInt r59) (Int.toNat ((Int32.toInt z17) + 1 - (Int32.toInt z253))) (Int64.toInt z256) (Int32.toInt z253) (Int64.toInt z254)) ((Int64.toInt z256) = (Int64.toInt z58) + (Int32.toInt r59) * (Int32.toInt z253)) by assumption) (by omega) (by omega) (by omega) (by omega) (fun _ h_1 h_2 => ixr_1 (by omega) (by omega))), (by unfold IXN; omega), (by unfold IXO; omega)⟩) [1, 2, 0] (by decide) rfl (Nat.le_of_ble_eq_true rfl) (Nat.le_of_ble_eq_true rfl)
                          · skip
                            have k296 : ¬ ((Int32.toInt z293) ≤ 0) := fun h_9 => c294 ((fa_le z293 0).mpr h_9)
                            refine r_aload_n 195 2 C dX1_takeIndex_195 rfl ?_
                            refine r_iconst 196 1 C dX1_takeIndex_196 (by decide) ?_
                            refine r_callVv 197 C dX1_takeIndex_197 [] [(h0, .inr (1, [.ref h3, .ref h4, .ref h1, .int z255, .long z288, .long y1, .int z17, .int r59, .long z58, .long z256]))] [(h2, .inl (gB g, 1500, .inl fn0)), (h1, .inr (4, [.ref h2, .int x5]))] (fun sz => c51_X1_wrong l g h0 1 h3 h4 h1 z255 z288 y1 z17 r59 z58 z256 (by decide) ⟨i263a, i263b⟩ ⟨by omega, by omega⟩ (iv_wide (c := (-257)) (d := 65535) (iv_eq ⟨p6, p7⟩ tz17) (by decide) (by decide)) ⟨p62, p63⟩ ⟨p66, p67⟩ ⟨i264a, i264b⟩ sz) gX1_takeIndex_X1_wrong rfl ⟨rfl, rfl⟩ 1 (by decide) ⟨Nat.le_of_ble_eq_true rfl, Nat.le_of_ble_eq_true rfl⟩ 1 rfl rfl [1] [0, 2] rfl rfl (by decide) (by decide) (by decide) rfl rfl (Nat.le_of_ble_eq_true rfl) ⟨Nat.le_of_ble_eq_true rfl, Nat.le_of_ble_eq_true rfl⟩ (fun  z297 w298 => ?_)
                            refine r_ws [(h2, .inl (gB g, 1500, .inl fn0)), (h1, .inr (4, [.ref h2, .int x5])), (h0, .inr (1, [.ref h3, .ref h4, .ref h1, .int z297, .long z288, .long y1, .int z17, .int r59, .long z58, .long z256]))] rfl ?_
                            have p299 : 0 ≤ (Int32.toInt z297) := w298.1
                            have p300 : (Int32.toInt z297) ≤ 2 := w298.2.1
                            have p301 : ¬ ((Int32.toInt z297) = 0) := w298.2.2
                            exact r_vret 200 Rt dX1_takeIndex_200 (z297, z288, z17, r59, z58, z256) (show 0 ≤ (Int32.toInt z297) ∧ (Int32.toInt z297) ≤ 2 ∧ -8589934592 ≤ (Int64.toInt z288) ∧ (Int64.toInt z288) ≤ 8589934592 ∧ -257 ≤ (Int32.toInt z17) ∧ (Int32.toInt z17) ≤ 65535 ∧ -1 ≤ (Int32.toInt r59) ∧ (Int32.toInt r59) ≤ 255 ∧ -8589934592 ≤ (Int64.toInt z58) ∧ (Int64.toInt z58) ≤ 8589934592 ∧ -8589934592 ≤ (Int64.toInt z256) ∧ (Int64.toInt z256) ≤ 8589934592 ∧ SEQ (Int32.toInt x2) (Int32.toInt z297) (IDX (GB fn0 (Int32.toInt x5)) (Int32.toInt x5) (Int64.toInt y0) (Int32.toInt x0) (Int32.toInt x1)) (IXR (Int32.toInt z17) (Int64.toInt z288) (Int32.toInt r59) (Int64.toInt z58) (Int64.toInt z256) (Int64.toInt y0)) ∧ IXN (Int32.toInt x2) (Int32.toInt z297) (Int32.toInt x0) (Int32.toInt x1) (Int32.toInt z17) (Int64.toInt z256) ∧ IXO (Int32.toInt z297) (Int32.toInt z17) (Int64.toInt z58) (Int32.toInt x5) (Int32.toInt r59) from ⟨(show _ ∧ _ from ⟨p299, p300⟩).1, (show _ ∧ _ from ⟨p299, p300⟩).2, (by ((repeat' apply And.intro) <;> first | trivial | rfl | assumption | omega | decide | exact Or.inl rfl | exact Or.inr (Or.inl rfl) | exact Or.inr (Or.inr rfl))), (by ((repeat' apply And.intro) <;> first | trivial | rfl | assumption | omega | decide | exact Or.inl rfl | exact Or.inr (Or.inl rfl) | exact Or.inr (Or.inr rfl))), (iv_wide (c := (-257)) (d := 65535) (iv_eq ⟨p6, p7⟩ tz17) (by decide) (by decide)).1, (iv_wide (c := (-257)) (d := 65535) (iv_eq ⟨p6, p7⟩ tz17) (by decide) (by decide)).2, (show _ ∧ _ from ⟨p62, p63⟩).1, (show _ ∧ _ from ⟨p62, p63⟩).2, (show _ ∧ _ from ⟨p66, p67⟩).1, (show _ ∧ _ from ⟨p66, p67⟩).2, (show _ ∧ _ from ⟨i264a, i264b⟩).1, (show _ ∧ _ from ⟨i264a, i264b⟩).2, (by exact idx_end pre0 p12 p48 (by omega) (by omega) (by omega) p68 p249 (by omega) (show LPQ (Int32.toInt z245) (Int32.toInt z255) (OFS (GB fn0 (Int32.toInt x5)) (Int32.toInt x5) (Int32.toInt r59) (Int.toNat ((Int32.toInt z17) + 1)) (Int64.toInt z58) 0 1) (OFS (GB fn0 (Int32.toInt x5)) (Int32.toInt x5) (Int32.toInt r59) (Int.toNat ((Int32.toInt z17) + 1 - (Int32.toInt z253))) (Int64.toInt z256) (Int32.toInt z253) (Int64.toInt z254)) ((Int64.toInt z256) = (Int64.toInt z58) + (Int32.toInt r59) * (Int32.toInt z253)) by assumption) (by omega) (by omega) (by omega) (by omega) (fun _ h_1 h_2 => ixr_1 (by omega) (by omega))), (by unfold IXN; omega), (by unfold IXO; omega)⟩) [2, 1, 0] (by decide) rfl (Nat.le_of_ble_eq_true rfl) (Nat.le_of_ble_eq_true rfl)
                        · skip
                          have k302 : (Int32.toInt z255) = 0 := (fa_eq z255 0).mp c285
                          refine r_aload_n 112 2 C dX1_takeIndex_112 rfl ?_
                          refine r_aload_n 113 2 C dX1_takeIndex_113 rfl ?_
                          refine r_get 114 C dX1_takeIndex_114 (k := 7) 2 rfl rfl hiX1 (by decide) rfl (mg 3 rfl) (Or.inl rfl) rfl ?_
                          refine r_callVl 117 C dX1_takeIndex_117 [] [(h0, .inr (1, [.ref h3, .ref h4, .ref h1, .int z255, .long z256, .long y1, .int z17, .int r59, .long z58, .long y3])), (h1, .inr (4, [.ref h2, .int x5])), (h2, .inl (gB g, 1500, .inl fn0))] [] (fun sz => c56_X1_takeNumber l g h0 h1 h2 r59 h3 h4 z255 z256 y1 z17 r59 z58 y3 x5 fn0 ⟨i263a, i263b⟩ ⟨i264a, i264b⟩ (iv_wide (c := (-257)) (d := 65535) (iv_eq ⟨p6, p7⟩ tz17) (by decide) (by decide)) ⟨p62, p63⟩ ⟨p66, p67⟩ i_y3 i_x5 (by show (¬ ((Int32.toInt z255) = 0) ∨ (0 ≤ (Int32.toInt r59) ∧ (Int32.toInt r59) ≤ 4)); first | assumption | omega) sz) gX1_takeIndex_X1_takeNumber rfl ⟨rfl, rfl⟩ 1 (by decide) ⟨Nat.le_of_ble_eq_true rfl, Nat.le_of_ble_eq_true rfl⟩ 2 rfl rfl [2, 0, 1] [] rfl rfl (by decide) (by decide) (by decide) rfl rfl (Nat.le_of_ble_eq_true rfl) ⟨Nat.le_of_ble_eq_true rfl, Nat.le_of_ble_eq_true rfl⟩ (fun r305 u307 w306 => ?_)
                          obtain ⟨z303, z304⟩ := u307
                          refine r_ws [(h0, .inr (1, [.ref h3, .ref h4, .ref h1, .int z303, .long z304, .long y1, .int z17, .int r59, .long z58, .long y3])), (h1, .inr (4, [.ref h2, .int x5])), (h2, .inl (gB g, 1500, .inl fn0))] rfl ?_
                          have p308 : -1 ≤ (Int64.toInt r305) := w306.1
                          have p309 : (Int64.toInt r305) ≤ 1099511627776 := w306.2.1
                          have p310 : 0 ≤ (Int32.toInt z303) := w306.2.2.1
                          have p311 : (Int32.toInt z303) ≤ 2 := w306.2.2.2.1
                          have p312 : -8589934592 ≤ (Int64.toInt z304) := w306.2.2.2.2.1
                          have p313 : (Int64.toInt z304) ≤ 8589934592 := w306.2.2.2.2.2.1
                          have p314 : SEQ (Int32.toInt z255) (Int32.toInt z303) (NUMO (GB fn0 (Int32.toInt x5)) (Int32.toInt x5) (Int64.toInt y1) (Int64.toInt z256) (Int.toNat (Int32.toInt r59))) (fun v => v = (Int64.toInt r305) ∧ ((Int32.toInt r59) < 0 ∨ (Int64.toInt z304) = (Int64.toInt z256) + (Int32.toInt r59))) := w306.2.2.2.2.2.2.1
                          have p315 : (0 ≤ (Int64.toInt r305) ∧ (Int64.toInt r305) ≤ 4294967295) := w306.2.2.2.2.2.2.2.1
                          have p316 : NBND (Int32.toInt r59) (Int64.toInt r305) := w306.2.2.2.2.2.2.2.2.1
                          have p317 : (¬ ((Int32.toInt z303) = 0) ∨ ((Int32.toInt z255) = 0 ∧ ((Int32.toInt r59) ≤ 0 ∨ (0 ≤ (Int64.toInt z256) ∧ (Int64.toInt z304) ≤ (Int32.toInt x5) ∧ (Int64.toInt z304) = (Int64.toInt z256) + (Int32.toInt r59))))) := w306.2.2.2.2.2.2.2.2.2.1
                          have p318 : ((Int64.toInt z256) ≤ (Int64.toInt z304) ∧ ((Int64.toInt z304) = (Int64.toInt z256) ∨ (Int64.toInt z304) ≤ (Int32.toInt x5))) := w306.2.2.2.2.2.2.2.2.2.2
                          refine r_lstore 120 C dX1_takeIndex_120 [(6, .long r305), (5, .int z253), (3, .long z254), (0, .ref h0), (1, .int x0), (2, .int x1)] (by decide) rfl ?_
                          refine r_aload_n 122 3 C dX1_takeIndex_122 rfl ?_
                          refine r_lload 123 0 C dX1_takeIndex_123 rfl ?_
                          refine r_lload_n 125 2 C dX1_takeIndex_125 rfl ?_
                          obtain ⟨z319, ez319⟩ : ∃ z_9, lg_cmp r305 z254 = z_9 := ⟨_, rfl⟩
                          have l1z319 : (Int32.toInt z319) < 0 ↔ (Int64.toInt r305) < (Int64.toInt z254) := by rw [← ez319]; exact lgI1 r305 z254
                          have l2z319 : 0 < (Int32.toInt z319) ↔ (Int64.toInt z254) < (Int64.toInt r305) := by rw [← ez319]; exact lgI2 r305 z254
                          refine r_lcmp 126 z319 C dX1_takeIndex_126 ez319 ?_
                          refine r_if_lt 127 146 C dX1_takeIndex_127 (by decide) (fun c320 => ?_) (fun c320 => ?_)
                          · skip
                            have k321 : (Int32.toInt z319) < 0 := (fa_lt z319 0).mp c320
                            refine r_iconst 146 0 C dX1_takeIndex_146 (by decide) ?_
                            refine r_callVv 147 C dX1_takeIndex_147 [] [(h0, .inr (1, [.ref h3, .ref h4, .ref h1, .int z303, .long z304, .long y1, .int z17, .int r59, .long z58, .long y3]))] [(h1, .inr (4, [.ref h2, .int x5])), (h2, .inl (gB g, 1500, .inl fn0))] (fun sz => c53_X1_want l g h0 0 h3 h4 h1 z303 z304 y1 z17 r59 z58 y3 (by decide) ⟨p310, p311⟩ ⟨p312, p313⟩ (iv_wide (c := (-257)) (d := 65535) (iv_eq ⟨p6, p7⟩ tz17) (by decide) (by decide)) ⟨p62, p63⟩ ⟨p66, p67⟩ i_y3 sz) gX1_takeIndex_X1_want rfl ⟨rfl, rfl⟩ 1 (by decide) ⟨Nat.le_of_ble_eq_true rfl, Nat.le_of_ble_eq_true rfl⟩ 0 rfl rfl [0] [1, 2] rfl rfl (by decide) (by decide) (by decide) rfl rfl (Nat.le_of_ble_eq_true rfl) ⟨Nat.le_of_ble_eq_true rfl, Nat.le_of_ble_eq_true rfl⟩ (fun  z322 w323 => ?_)
                            refine r_ws [(h1, .inr (4, [.ref h2, .int x5])), (h2, .inl (gB g, 1500, .inl fn0)), (h0, .inr (1, [.ref h3, .ref h4, .ref h1, .int z322, .long z304, .long y1, .int z17, .int r59, .long z58, .long y3]))] rfl ?_
                            have p324 : 0 ≤ (Int32.toInt z322) := w323.1
                            have p325 : (Int32.toInt z322) ≤ 2 := w323.2.1
                            have p326 : WNT (0 : Int) (Int32.toInt z303) (Int32.toInt z322) := w323.2.2.1
                            have p327 : (((0 : Int) = 1 ∧ (Int32.toInt z322) = (Int32.toInt z303)) ∨ ((0 : Int) = 0 ∧ 1 ≤ (Int32.toInt z322))) := w323.2.2.2
                            rcases p327 with ⟨k328, k329⟩ | p327
                            · skip
                              exact absurd trivial (by omega)
                            obtain ⟨k330, k331⟩ := p327
                            refine r_lload 150 0 C dX1_takeIndex_150 rfl ?_
                            refine r_lstore_n 152 C dX1_takeIndex_152 [(3, .long r305), (6, .long r305), (5, .int z253), (0, .ref h0), (1, .int x0), (2, .int x1)] (by decide) rfl ?_
                            obtain ⟨z332, ez332⟩ : ∃ z_9, z253 + Int32.ofInt 1 = z_9 := ⟨_, rfl⟩
                            have tz332 : (Int32.toInt z332) = (Int32.toInt z253) + 1 := by rw [← ez332]; exact fb_addIv (a := 0) (b := 65536) (c := 1) (d := 1) ⟨i261a, i261b⟩ ⟨by decide, by decide⟩ (by decide) (by decide)
                            refine r_iinc 153 2 z332 C dX1_takeIndex_153 rfl ez332 [(5, .int z332), (3, .long r305), (6, .long r305), (0, .ref h0), (1, .int x0), (2, .int x1)] (by decide) rfl ?_
                            refine r_goto 156 96 C dX1_takeIndex_156 (by decide) ?_
                            refine r_lv [(5, .int z332), (3, .long r305), (0, .ref h0), (1, .int x0), (2, .int x1)] [0, 1, 3, 4, 5] rfl ?_
                            exact ih259 z332 r305 z322 z304 ⟨by omega, by omega⟩ ⟨by omega, by omega⟩ ⟨p324, p325⟩ ⟨p312, p313⟩ (by show (Int32.toInt z332) ≤ (Int32.toInt z17) + 1 ∧ 0 ≤ (Int64.toInt z304) ∧ (Int64.toInt z304) ≤ (Int32.toInt x5); omega) (ofs_step pre0 (by omega) (by omega) (show LPQ (Int32.toInt z245) (Int32.toInt z255) (OFS (GB fn0 (Int32.toInt x5)) (Int32.toInt x5) (Int32.toInt r59) (Int.toNat ((Int32.toInt z17) + 1)) (Int64.toInt z58) 0 1) (OFS (GB fn0 (Int32.toInt x5)) (Int32.toInt x5) (Int32.toInt r59) (Int.toNat ((Int32.toInt z17) + 1 - (Int32.toInt z253))) (Int64.toInt z256) (Int32.toInt z253) (Int64.toInt z254)) ((Int64.toInt z256) = (Int64.toInt z58) + (Int32.toInt r59) * (Int32.toInt z253)) by assumption) p314 p326 (by omega) (by omega) (by omega) (by omega)) (by omega)
                          · skip
                            have k333 : ¬ ((Int32.toInt z319) < 0) := fun h_9 => c320 ((fa_lt z319 0).mpr h_9)
                            refine r_iload 130 1 C dX1_takeIndex_130 rfl ?_
                            refine r_if_gt 132 142 C dX1_takeIndex_132 (by decide) (fun c334 => ?_) (fun c334 => ?_)
                            · skip
                              have k335 : 0 < (Int32.toInt z253) := (fa_lt 0 z253).mp c334
                              refine r_iconst 142 1 C dX1_takeIndex_142 (by decide) ?_
                              refine r_goto 143 147 C dX1_takeIndex_143 (by decide) ?_
                              refine r_callVv 147 C dX1_takeIndex_147 [] [(h0, .inr (1, [.ref h3, .ref h4, .ref h1, .int z303, .long z304, .long y1, .int z17, .int r59, .long z58, .long y3]))] [(h1, .inr (4, [.ref h2, .int x5])), (h2, .inl (gB g, 1500, .inl fn0))] (fun sz => c53_X1_want l g h0 1 h3 h4 h1 z303 z304 y1 z17 r59 z58 y3 (by decide) ⟨p310, p311⟩ ⟨p312, p313⟩ (iv_wide (c := (-257)) (d := 65535) (iv_eq ⟨p6, p7⟩ tz17) (by decide) (by decide)) ⟨p62, p63⟩ ⟨p66, p67⟩ i_y3 sz) gX1_takeIndex_X1_want rfl ⟨rfl, rfl⟩ 1 (by decide) ⟨Nat.le_of_ble_eq_true rfl, Nat.le_of_ble_eq_true rfl⟩ 0 rfl rfl [0] [1, 2] rfl rfl (by decide) (by decide) (by decide) rfl rfl (Nat.le_of_ble_eq_true rfl) ⟨Nat.le_of_ble_eq_true rfl, Nat.le_of_ble_eq_true rfl⟩ (fun  z336 w337 => ?_)
                              refine r_ws [(h1, .inr (4, [.ref h2, .int x5])), (h2, .inl (gB g, 1500, .inl fn0)), (h0, .inr (1, [.ref h3, .ref h4, .ref h1, .int z336, .long z304, .long y1, .int z17, .int r59, .long z58, .long y3]))] rfl ?_
                              have p338 : 0 ≤ (Int32.toInt z336) := w337.1
                              have p339 : (Int32.toInt z336) ≤ 2 := w337.2.1
                              have p340 : WNT (1 : Int) (Int32.toInt z303) (Int32.toInt z336) := w337.2.2.1
                              have p341 : (((1 : Int) = 1 ∧ (Int32.toInt z336) = (Int32.toInt z303)) ∨ ((1 : Int) = 0 ∧ 1 ≤ (Int32.toInt z336))) := w337.2.2.2
                              rcases p341 with ⟨k342, k343⟩ | p341
                              · skip
                                refine r_lload 150 0 C dX1_takeIndex_150 rfl ?_
                                refine r_lstore_n 152 C dX1_takeIndex_152 [(3, .long r305), (6, .long r305), (5, .int z253), (0, .ref h0), (1, .int x0), (2, .int x1)] (by decide) rfl ?_
                                obtain ⟨z344, ez344⟩ : ∃ z_9, z253 + Int32.ofInt 1 = z_9 := ⟨_, rfl⟩
                                have tz344 : (Int32.toInt z344) = (Int32.toInt z253) + 1 := by rw [← ez344]; exact fb_addIv (a := 0) (b := 65536) (c := 1) (d := 1) ⟨i261a, i261b⟩ ⟨by decide, by decide⟩ (by decide) (by decide)
                                refine r_iinc 153 2 z344 C dX1_takeIndex_153 rfl ez344 [(5, .int z344), (3, .long r305), (6, .long r305), (0, .ref h0), (1, .int x0), (2, .int x1)] (by decide) rfl ?_
                                refine r_goto 156 96 C dX1_takeIndex_156 (by decide) ?_
                                refine r_lv [(5, .int z344), (3, .long r305), (0, .ref h0), (1, .int x0), (2, .int x1)] [0, 1, 3, 4, 5] rfl ?_
                                exact ih259 z344 r305 z336 z304 ⟨by omega, by omega⟩ ⟨by omega, by omega⟩ ⟨p338, p339⟩ ⟨p312, p313⟩ (by show (Int32.toInt z344) ≤ (Int32.toInt z17) + 1 ∧ 0 ≤ (Int64.toInt z304) ∧ (Int64.toInt z304) ≤ (Int32.toInt x5); omega) (ofs_step pre0 (by omega) (by omega) (show LPQ (Int32.toInt z245) (Int32.toInt z255) (OFS (GB fn0 (Int32.toInt x5)) (Int32.toInt x5) (Int32.toInt r59) (Int.toNat ((Int32.toInt z17) + 1)) (Int64.toInt z58) 0 1) (OFS (GB fn0 (Int32.toInt x5)) (Int32.toInt x5) (Int32.toInt r59) (Int.toNat ((Int32.toInt z17) + 1 - (Int32.toInt z253))) (Int64.toInt z256) (Int32.toInt z253) (Int64.toInt z254)) ((Int64.toInt z256) = (Int64.toInt z58) + (Int32.toInt r59) * (Int32.toInt z253)) by assumption) p314 p340 (by omega) (by omega) (by omega) (by omega)) (by omega)
                              obtain ⟨k345, k346⟩ := p341
                              exact absurd trivial (by omega)
                            · skip
                              have k347 : ¬ (0 < (Int32.toInt z253)) := fun h_9 => c334 ((fa_lt 0 z253).mpr h_9)
                              refine r_lload 135 0 C dX1_takeIndex_135 rfl ?_
                              refine r_lconst 137 1 C dX1_takeIndex_137 (by decide) ?_
                              obtain ⟨z348, ez348⟩ : ∃ z_9, lg_cmp r305 1 = z_9 := ⟨_, rfl⟩
                              have l1z348 : (Int32.toInt z348) < 0 ↔ (Int64.toInt r305) < 1 := by rw [← ez348]; exact lgI1 r305 1
                              have l2z348 : 0 < (Int32.toInt z348) ↔ 1 < (Int64.toInt r305) := by rw [← ez348]; exact lgI2 r305 1
                              refine r_lcmp 138 z348 C dX1_takeIndex_138 ez348 ?_
                              refine r_if_ne 139 146 C dX1_takeIndex_139 (by decide) (fun c349 => ?_) (fun c349 => ?_)
                              · skip
                                have k350 : ¬ ((Int32.toInt z348) = 0) := fun h_9 => c349 ((fa_eq z348 0).mpr h_9)
                                refine r_iconst 146 0 C dX1_takeIndex_146 (by decide) ?_
                                refine r_callVv 147 C dX1_takeIndex_147 [] [(h0, .inr (1, [.ref h3, .ref h4, .ref h1, .int z303, .long z304, .long y1, .int z17, .int r59, .long z58, .long y3]))] [(h1, .inr (4, [.ref h2, .int x5])), (h2, .inl (gB g, 1500, .inl fn0))] (fun sz => c53_X1_want l g h0 0 h3 h4 h1 z303 z304 y1 z17 r59 z58 y3 (by decide) ⟨p310, p311⟩ ⟨p312, p313⟩ (iv_wide (c := (-257)) (d := 65535) (iv_eq ⟨p6, p7⟩ tz17) (by decide) (by decide)) ⟨p62, p63⟩ ⟨p66, p67⟩ i_y3 sz) gX1_takeIndex_X1_want rfl ⟨rfl, rfl⟩ 1 (by decide) ⟨Nat.le_of_ble_eq_true rfl, Nat.le_of_ble_eq_true rfl⟩ 0 rfl rfl [0] [1, 2] rfl rfl (by decide) (by decide) (by decide) rfl rfl (Nat.le_of_ble_eq_true rfl) ⟨Nat.le_of_ble_eq_true rfl, Nat.le_of_ble_eq_true rfl⟩ (fun  z351 w352 => ?_)
                                refine r_ws [(h1, .inr (4, [.ref h2, .int x5])), (h2, .inl (gB g, 1500, .inl fn0)), (h0, .inr (1, [.ref h3, .ref h4, .ref h1, .int z351, .long z304, .long y1, .int z17, .int r59, .long z58, .long y3]))] rfl ?_
                                have p353 : 0 ≤ (Int32.toInt z351) := w352.1
                                have p354 : (Int32.toInt z351) ≤ 2 := w352.2.1
                                have p355 : WNT (0 : Int) (Int32.toInt z303) (Int32.toInt z351) := w352.2.2.1
                                have p356 : (((0 : Int) = 1 ∧ (Int32.toInt z351) = (Int32.toInt z303)) ∨ ((0 : Int) = 0 ∧ 1 ≤ (Int32.toInt z351))) := w352.2.2.2
                                rcases p356 with ⟨k357, k358⟩ | p356
                                · skip
                                  exact absurd trivial (by omega)
                                obtain ⟨k359, k360⟩ := p356
                                refine r_lload 150 0 C dX1_takeIndex_150 rfl ?_
                                refine r_lstore_n 152 C dX1_takeIndex_152 [(3, .long r305), (6, .long r305), (5, .int z253), (0, .ref h0), (1, .int x0), (2, .int x1)] (by decide) rfl ?_
                                obtain ⟨z361, ez361⟩ : ∃ z_9, z253 + Int32.ofInt 1 = z_9 := ⟨_, rfl⟩
                                have tz361 : (Int32.toInt z361) = (Int32.toInt z253) + 1 := by rw [← ez361]; exact fb_addIv (a := 0) (b := 65536) (c := 1) (d := 1) ⟨i261a, i261b⟩ ⟨by decide, by decide⟩ (by decide) (by decide)
                                refine r_iinc 153 2 z361 C dX1_takeIndex_153 rfl ez361 [(5, .int z361), (3, .long r305), (6, .long r305), (0, .ref h0), (1, .int x0), (2, .int x1)] (by decide) rfl ?_
                                refine r_goto 156 96 C dX1_takeIndex_156 (by decide) ?_
                                refine r_lv [(5, .int z361), (3, .long r305), (0, .ref h0), (1, .int x0), (2, .int x1)] [0, 1, 3, 4, 5] rfl ?_
                                exact ih259 z361 r305 z351 z304 ⟨by omega, by omega⟩ ⟨by omega, by omega⟩ ⟨p353, p354⟩ ⟨p312, p313⟩ (by show (Int32.toInt z361) ≤ (Int32.toInt z17) + 1 ∧ 0 ≤ (Int64.toInt z304) ∧ (Int64.toInt z304) ≤ (Int32.toInt x5); omega) (ofs_step pre0 (by omega) (by omega) (show LPQ (Int32.toInt z245) (Int32.toInt z255) (OFS (GB fn0 (Int32.toInt x5)) (Int32.toInt x5) (Int32.toInt r59) (Int.toNat ((Int32.toInt z17) + 1)) (Int64.toInt z58) 0 1) (OFS (GB fn0 (Int32.toInt x5)) (Int32.toInt x5) (Int32.toInt r59) (Int.toNat ((Int32.toInt z17) + 1 - (Int32.toInt z253))) (Int64.toInt z256) (Int32.toInt z253) (Int64.toInt z254)) ((Int64.toInt z256) = (Int64.toInt z58) + (Int32.toInt r59) * (Int32.toInt z253)) by assumption) p314 p355 (by omega) (by omega) (by omega) (by omega)) (by omega)
                              · skip
                                have k362 : (Int32.toInt z348) = 0 := (fa_eq z348 0).mp c349
                                refine r_iconst 142 1 C dX1_takeIndex_142 (by decide) ?_
                                refine r_goto 143 147 C dX1_takeIndex_143 (by decide) ?_
                                refine r_callVv 147 C dX1_takeIndex_147 [] [(h0, .inr (1, [.ref h3, .ref h4, .ref h1, .int z303, .long z304, .long y1, .int z17, .int r59, .long z58, .long y3]))] [(h1, .inr (4, [.ref h2, .int x5])), (h2, .inl (gB g, 1500, .inl fn0))] (fun sz => c53_X1_want l g h0 1 h3 h4 h1 z303 z304 y1 z17 r59 z58 y3 (by decide) ⟨p310, p311⟩ ⟨p312, p313⟩ (iv_wide (c := (-257)) (d := 65535) (iv_eq ⟨p6, p7⟩ tz17) (by decide) (by decide)) ⟨p62, p63⟩ ⟨p66, p67⟩ i_y3 sz) gX1_takeIndex_X1_want rfl ⟨rfl, rfl⟩ 1 (by decide) ⟨Nat.le_of_ble_eq_true rfl, Nat.le_of_ble_eq_true rfl⟩ 0 rfl rfl [0] [1, 2] rfl rfl (by decide) (by decide) (by decide) rfl rfl (Nat.le_of_ble_eq_true rfl) ⟨Nat.le_of_ble_eq_true rfl, Nat.le_of_ble_eq_true rfl⟩ (fun  z363 w364 => ?_)
                                refine r_ws [(h1, .inr (4, [.ref h2, .int x5])), (h2, .inl (gB g, 1500, .inl fn0)), (h0, .inr (1, [.ref h3, .ref h4, .ref h1, .int z363, .long z304, .long y1, .int z17, .int r59, .long z58, .long y3]))] rfl ?_
                                have p365 : 0 ≤ (Int32.toInt z363) := w364.1
                                have p366 : (Int32.toInt z363) ≤ 2 := w364.2.1
                                have p367 : WNT (1 : Int) (Int32.toInt z303) (Int32.toInt z363) := w364.2.2.1
                                have p368 : (((1 : Int) = 1 ∧ (Int32.toInt z363) = (Int32.toInt z303)) ∨ ((1 : Int) = 0 ∧ 1 ≤ (Int32.toInt z363))) := w364.2.2.2
                                rcases p368 with ⟨k369, k370⟩ | p368
                                · skip
                                  refine r_lload 150 0 C dX1_takeIndex_150 rfl ?_
                                  refine r_lstore_n 152 C dX1_takeIndex_152 [(3, .long r305), (6, .long r305), (5, .int z253), (0, .ref h0), (1, .int x0), (2, .int x1)] (by decide) rfl ?_
                                  obtain ⟨z371, ez371⟩ : ∃ z_9, z253 + Int32.ofInt 1 = z_9 := ⟨_, rfl⟩
                                  have tz371 : (Int32.toInt z371) = (Int32.toInt z253) + 1 := by rw [← ez371]; exact fb_addIv (a := 0) (b := 65536) (c := 1) (d := 1) ⟨i261a, i261b⟩ ⟨by decide, by decide⟩ (by decide) (by decide)
                                  refine r_iinc 153 2 z371 C dX1_takeIndex_153 rfl ez371 [(5, .int z371), (3, .long r305), (6, .long r305), (0, .ref h0), (1, .int x0), (2, .int x1)] (by decide) rfl ?_
                                  refine r_goto 156 96 C dX1_takeIndex_156 (by decide) ?_
                                  refine r_lv [(5, .int z371), (3, .long r305), (0, .ref h0), (1, .int x0), (2, .int x1)] [0, 1, 3, 4, 5] rfl ?_
                                  exact ih259 z371 r305 z363 z304 ⟨by omega, by omega⟩ ⟨by omega, by omega⟩ ⟨p365, p366⟩ ⟨p312, p313⟩ (by show (Int32.toInt z371) ≤ (Int32.toInt z17) + 1 ∧ 0 ≤ (Int64.toInt z304) ∧ (Int64.toInt z304) ≤ (Int32.toInt x5); omega) (ofs_step pre0 (by omega) (by omega) (show LPQ (Int32.toInt z245) (Int32.toInt z255) (OFS (GB fn0 (Int32.toInt x5)) (Int32.toInt x5) (Int32.toInt r59) (Int.toNat ((Int32.toInt z17) + 1)) (Int64.toInt z58) 0 1) (OFS (GB fn0 (Int32.toInt x5)) (Int32.toInt x5) (Int32.toInt r59) (Int.toNat ((Int32.toInt z17) + 1 - (Int32.toInt z253))) (Int64.toInt z256) (Int32.toInt z253) (Int64.toInt z254)) ((Int64.toInt z256) = (Int64.toInt z58) + (Int32.toInt r59) * (Int32.toInt z253)) by assumption) p314 p367 (by omega) (by omega) (by omega) (by omega)) (by omega)
                                obtain ⟨k372, k373⟩ := p368
                                exact absurd trivial (by omega)
                  exact lp258 _ 0 1 z245 z58 (by decide) (by decide) ⟨p247, p248⟩ ⟨p66, p67⟩ (by show (0 : Int) ≤ (Int32.toInt z17) + 1 ∧ 0 ≤ (Int64.toInt z58) ∧ (Int64.toInt z58) ≤ (Int32.toInt x5); omega) (by exact ofs_0) (Nat.lt_succ_self _)
                obtain ⟨k374, k375⟩ := p250
                exact absurd trivial (by omega)
          · skip
            have k376 : (Int32.toInt z17) = 0 := (fa_eq z17 0).mp c55
            exact r_vret 49 Rt dX1_takeIndex_49 (z44, z2, z17, x4, y2, y3) (show 0 ≤ (Int32.toInt z44) ∧ (Int32.toInt z44) ≤ 2 ∧ -8589934592 ≤ (Int64.toInt z2) ∧ (Int64.toInt z2) ≤ 8589934592 ∧ -257 ≤ (Int32.toInt z17) ∧ (Int32.toInt z17) ≤ 65535 ∧ -1 ≤ (Int32.toInt x4) ∧ (Int32.toInt x4) ≤ 255 ∧ -8589934592 ≤ (Int64.toInt y2) ∧ (Int64.toInt y2) ≤ 8589934592 ∧ -8589934592 ≤ (Int64.toInt y3) ∧ (Int64.toInt y3) ≤ 8589934592 ∧ SEQ (Int32.toInt x2) (Int32.toInt z44) (IDX (GB fn0 (Int32.toInt x5)) (Int32.toInt x5) (Int64.toInt y0) (Int32.toInt x0) (Int32.toInt x1)) (IXR (Int32.toInt z17) (Int64.toInt z2) (Int32.toInt x4) (Int64.toInt y2) (Int64.toInt y3) (Int64.toInt y0)) ∧ IXN (Int32.toInt x2) (Int32.toInt z44) (Int32.toInt x0) (Int32.toInt x1) (Int32.toInt z17) (Int64.toInt y3) ∧ IXO (Int32.toInt z44) (Int32.toInt z17) (Int64.toInt y2) (Int32.toInt x5) (Int32.toInt x4) from ⟨(show _ ∧ _ from ⟨p46, p47⟩).1, (show _ ∧ _ from ⟨p46, p47⟩).2, (show _ ∧ _ from ⟨p10, p11⟩).1, (show _ ∧ _ from ⟨p10, p11⟩).2, (iv_wide (c := (-257)) (d := 65535) (iv_eq ⟨p6, p7⟩ tz17) (by decide) (by decide)).1, (iv_wide (c := (-257)) (d := 65535) (iv_eq ⟨p6, p7⟩ tz17) (by decide) (by decide)).2, i_x4.1, i_x4.2, i_y2.1, i_y2.2, i_y3.1, i_y3.2, (by exact idx_e1 (ic := (Int32.toInt z17)) pre0 p12 p48 (by omega) (by omega) (by first | exact Or.inl (by omega) | exact Or.inr ⟨by omega, ixr_0 (by omega) (by omega)⟩)), (by unfold IXN; omega), (by unfold IXO; omega)⟩) [2, 0, 1] (by decide) rfl (Nat.le_of_ble_eq_true rfl) (Nat.le_of_ble_eq_true rfl)
      obtain ⟨k377, k378⟩ := p49
      exact absurd trivial (by omega)
set_option maxHeartbeats 4000000 in
set_option maxRecDepth 100000 in
theorem c58_X8_layIndex (l : Launch) (g : GD) (h0 : Nat) (x0 : Int32) (x1 : Int32) (x2 : Int32) (h1 : Nat) (h2 : Nat) (h3 : Nat) (x3 : Int32) (x4 : Int32) (x5 : Int32) (sz : Nat) : Met l yX8_layIndex wsX8_layIndex ({ frames := 0, cells := 0, slots := 0, locals := 0 }) (va_Pc [.ref h0, .int x0, .int x1, .int x2] (PW g [(h0, .inr (7, [.ref h1, .ref h2, .ref h3, .int x3, .int x4, .int x5]))] sz)) (va_Qv (fun (_ : Unit) => ((Int32.toInt x1) = (Int32.toInt x1) ∧ (Int32.toInt x2) = (Int32.toInt x2))) (BW g (va_A [(h0, .inr (7, [.ref h1, .ref h2, .ref h3, .int x3, .int x4, .int x5]))] sz) (fun _ : Unit => [(h0, .inr (7, [.ref h1, .ref h2, .ref h3, .int x0, .int x1, .int x2]))])) (va_A [(h0, .inr (7, [.ref h1, .ref h2, .ref h3, .int x3, .int x4, .int x5]))] sz)) 0 0 (va_A [(h0, .inr (7, [.ref h1, .ref h2, .ref h3, .int x3, .int x4, .int x5]))] sz) := by
  refine met_v RX8 (by decide) rfl rfl (Nat.le_of_ble_eq_true rfl) [(0, .ref h0), (1, .int x0), (2, .int x1), (3, .int x2)] rfl ?_
  intro p e s m args below meth c A Q C hnm Rt
  have gx1 := fb_rng x1
  have gx2 := fb_rng x2
  have hiX8 : ∀ w ∈ wsX80, w ∈ wsX8_layIndex := fun w h => List.mem_cons_of_mem _ (List.mem_append_right _ (h))
  refine r_aload_n 0 0 C dX8_layIndex_0 rfl ?_
  refine r_iload_n 1 1 C dX8_layIndex_1 rfl ?_
  refine r_put 2 C dX8_layIndex_2 (k := 3) 0 rfl rfl hiX8 tyX8 tyX8_ok nmX8 (by decide) rfl (mg 1 rfl) (Or.inl rfl) rfl rfl rfl rfl (Nat.le_of_ble_eq_true rfl) [(h0, .inr (7, [.ref h1, .ref h2, .ref h3, .int x0, .int x4, .int x5]))] rfl ?_
  refine r_aload_n 5 0 C dX8_layIndex_5 rfl ?_
  refine r_iload_n 6 2 C dX8_layIndex_6 rfl ?_
  refine r_put 7 C dX8_layIndex_7 (k := 4) 0 rfl rfl hiX8 tyX8 tyX8_ok nmX8 (by decide) rfl (mg 2 rfl) (Or.inl rfl) rfl rfl rfl rfl (Nat.le_of_ble_eq_true rfl) [(h0, .inr (7, [.ref h1, .ref h2, .ref h3, .int x0, .int x1, .int x5]))] rfl ?_
  refine r_aload_n 10 0 C dX8_layIndex_10 rfl ?_
  refine r_iload_n 11 3 C dX8_layIndex_11 rfl ?_
  refine r_put 12 C dX8_layIndex_12 (k := 5) 0 rfl rfl hiX8 tyX8 tyX8_ok nmX8 (by decide) rfl (mg 3 rfl) (Or.inl rfl) rfl rfl rfl rfl (Nat.le_of_ble_eq_true rfl) [(h0, .inr (7, [.ref h1, .ref h2, .ref h3, .int x0, .int x1, .int x2]))] rfl ?_
  exact r_vret 15 Rt dX8_layIndex_15 () (show ((Int32.toInt x1) = (Int32.toInt x1) ∧ (Int32.toInt x2) = (Int32.toInt x2)) from (by ((repeat' apply And.intro) <;> first | trivial | rfl | assumption | omega | decide | exact Or.inl rfl | exact Or.inr (Or.inl rfl) | exact Or.inr (Or.inr rfl)))) [0] (by decide) rfl (Nat.le_of_ble_eq_true rfl) (Nat.le_of_ble_eq_true rfl)
set_option maxHeartbeats 4000000 in
set_option maxRecDepth 100000 in
theorem c59_X1_shelve (l : Launch) (g : GD) (h0 : Nat) (h1 : Nat) (h2 : Nat) (h3 : Nat) (h4 : Nat) (x0 : Int32) (y0 : Int64) (y1 : Int64) (x1 : Int32) (x2 : Int32) (y2 : Int64) (y3 : Int64) (h5 : Nat) (h6 : Nat) (x3 : Int32) (x4 : Int32) (x5 : Int32) (i_x0 : (0 ≤ (Int32.toInt x0) ∧ (Int32.toInt x0) ≤ 2)) (i_y0 : (-8589934592 ≤ (Int64.toInt y0) ∧ (Int64.toInt y0) ≤ 8589934592)) (i_x1 : (-257 ≤ (Int32.toInt x1) ∧ (Int32.toInt x1) ≤ 65535)) (i_x2 : (-1 ≤ (Int32.toInt x2) ∧ (Int32.toInt x2) ≤ 255)) (i_y2 : (-8589934592 ≤ (Int64.toInt y2) ∧ (Int64.toInt y2) ≤ 8589934592)) (i_y3 : (-8589934592 ≤ (Int64.toInt y3) ∧ (Int64.toInt y3) ≤ 8589934592)) (sz : Nat) : Met l yX1_shelve wsX1_shelve ({ frames := 1, cells := 0, slots := 0, locals := 23 }) (va_Pc [.ref h0, .ref h1] (PW g [(h0, .inr (1, [.ref h2, .ref h3, .ref h4, .int x0, .long y0, .long y1, .int x1, .int x2, .long y2, .long y3])), (h1, .inr (7, [.ref h4, .ref h5, .ref h6, .int x3, .int x4, .int x5]))] sz)) (va_Qv (fun (u : (Int32) × (Int32) × (Int32)) => SHV (Int32.toInt x0) (Int32.toInt x1) (Int32.toInt x3) (Int32.toInt (u.1)) ∧ CND (0 ≤ (Int64.toInt y2) ∧ (Int64.toInt y2) ≤ 1500) (SHW (Int32.toInt x0) (Int32.toInt x1) (Int64.toInt y2) (Int32.toInt x2) (Int32.toInt (u.2.1)) (Int32.toInt (u.2.2)))) (BW g (va_A [(h0, .inr (1, [.ref h2, .ref h3, .ref h4, .int x0, .long y0, .long y1, .int x1, .int x2, .long y2, .long y3])), (h1, .inr (7, [.ref h4, .ref h5, .ref h6, .int x3, .int x4, .int x5]))] sz) (fun u : (Int32) × (Int32) × (Int32) => [(h0, .inr (1, [.ref h2, .ref h3, .ref h4, .int x0, .long y0, .long y1, .int x1, .int x2, .long y2, .long y3])), (h1, .inr (7, [.ref h4, .ref h5, .ref h6, .int u.1, .int u.2.1, .int u.2.2]))])) (va_A [(h0, .inr (1, [.ref h2, .ref h3, .ref h4, .int x0, .long y0, .long y1, .int x1, .int x2, .long y2, .long y3])), (h1, .inr (7, [.ref h4, .ref h5, .ref h6, .int x3, .int x4, .int x5]))] sz)) 0 0 (va_A [(h0, .inr (1, [.ref h2, .ref h3, .ref h4, .int x0, .long y0, .long y1, .int x1, .int x2, .long y2, .long y3])), (h1, .inr (7, [.ref h4, .ref h5, .ref h6, .int x3, .int x4, .int x5]))] sz) := by
  refine met_v RX1 (by decide) rfl rfl (Nat.le_of_ble_eq_true rfl) [(0, .ref h0), (1, .ref h1)] rfl ?_
  intro p e s m args below meth c A Q C hnm Rt
  have gx3 := fb_rng x3
  have gx4 := fb_rng x4
  have gx5 := fb_rng x5
  have hiX1 : ∀ w ∈ wsX10, w ∈ wsX1_shelve := fun w h => List.mem_cons_of_mem _ (List.mem_append_left _ (List.mem_append_right _ (h)))
  refine r_aload_n 0 0 C dX1_shelve_0 rfl ?_
  refine r_get 1 C dX1_shelve_1 (k := 3) 0 rfl rfl hiX1 (by decide) rfl (mg 1 rfl) (Or.inl rfl) rfl ?_
  refine r_if_ne 4 31 C dX1_shelve_4 (by decide) (fun c1 => ?_) (fun c1 => ?_)
  · skip
    have k2 : ¬ ((Int32.toInt x0) = 0) := fun h_9 => c1 ((fa_eq x0 0).mpr h_9)
    exact r_vret 31 Rt dX1_shelve_31 (x3, x4, x5) (show SHV (Int32.toInt x0) (Int32.toInt x1) (Int32.toInt x3) (Int32.toInt x3) ∧ CND (0 ≤ (Int64.toInt y2) ∧ (Int64.toInt y2) ≤ 1500) (SHW (Int32.toInt x0) (Int32.toInt x1) (Int64.toInt y2) (Int32.toInt x2) (Int32.toInt x4) (Int32.toInt x5)) from ⟨(by unfold SHV; omega), (by exact fun h_9 => (by unfold SHW; omega))⟩) [0, 1] (by decide) rfl (Nat.le_of_ble_eq_true rfl) (Nat.le_of_ble_eq_true rfl)
  · skip
    have k3 : (Int32.toInt x0) = 0 := (fa_eq x0 0).mp c1
    refine r_aload_n 7 0 C dX1_shelve_7 rfl ?_
    refine r_get 8 C dX1_shelve_8 (k := 6) 0 rfl rfl hiX1 (by decide) rfl (mg 2 rfl) (Or.inl rfl) rfl ?_
    refine r_if_le 11 31 C dX1_shelve_11 (by decide) (fun c4 => ?_) (fun c4 => ?_)
    · skip
      have k5 : (Int32.toInt x1) ≤ 0 := (fa_le x1 0).mp c4
      exact r_vret 31 Rt dX1_shelve_31 (x3, x4, x5) (show SHV (Int32.toInt x0) (Int32.toInt x1) (Int32.toInt x3) (Int32.toInt x3) ∧ CND (0 ≤ (Int64.toInt y2) ∧ (Int64.toInt y2) ≤ 1500) (SHW (Int32.toInt x0) (Int32.toInt x1) (Int64.toInt y2) (Int32.toInt x2) (Int32.toInt x4) (Int32.toInt x5)) from ⟨(by unfold SHV; omega), (by exact fun h_9 => (by unfold SHW; omega))⟩) [0, 1] (by decide) rfl (Nat.le_of_ble_eq_true rfl) (Nat.le_of_ble_eq_true rfl)
    · skip
      have k6 : ¬ ((Int32.toInt x1) ≤ 0) := fun h_9 => c4 ((fa_le x1 0).mpr h_9)
      refine r_aload_n 14 1 C dX1_shelve_14 rfl ?_
      refine r_aload_n 15 0 C dX1_shelve_15 rfl ?_
      refine r_get 16 C dX1_shelve_16 (k := 6) 0 rfl rfl hiX1 (by decide) rfl (mg 2 rfl) (Or.inl rfl) rfl ?_
      refine r_aload_n 19 0 C dX1_shelve_19 rfl ?_
      refine r_get 20 C dX1_shelve_20 (k := 8) 0 rfl rfl hiX1 (by decide) rfl (mg 3 rfl) (Or.inl rfl) rfl ?_
      obtain ⟨z7, ez7⟩ : ∃ z_9, Int64.toInt32 y2 = z_9 := ⟨_, rfl⟩
      have gz7 := fb_rng z7
      refine r_l2i 23 z7 C dX1_shelve_23 ez7 ?_
      refine r_aload_n 24 0 C dX1_shelve_24 rfl ?_
      refine r_get 25 C dX1_shelve_25 (k := 7) 0 rfl rfl hiX1 (by decide) rfl (mg 4 rfl) (Or.inl rfl) rfl ?_
      refine r_callVv 28 C dX1_shelve_28 [] [(h1, .inr (7, [.ref h4, .ref h5, .ref h6, .int x3, .int x4, .int x5]))] [(h0, .inr (1, [.ref h2, .ref h3, .ref h4, .int x0, .long y0, .long y1, .int x1, .int x2, .long y2, .long y3]))] (fun sz => c58_X8_layIndex l g h1 x1 z7 x2 h4 h5 h6 x3 x4 x5  sz) gX1_shelve_X8_layIndex rfl ⟨rfl, rfl⟩ 3 (by decide) ⟨Nat.le_of_ble_eq_true rfl, Nat.le_of_ble_eq_true rfl⟩ 1 rfl rfl [1] [0] rfl rfl (by decide) (by decide) (by decide) rfl rfl (Nat.le_of_ble_eq_true rfl) ⟨Nat.le_of_ble_eq_true rfl, Nat.le_of_ble_eq_true rfl⟩ (fun  _ w8 => ?_)
      refine r_ws [(h0, .inr (1, [.ref h2, .ref h3, .ref h4, .int x0, .long y0, .long y1, .int x1, .int x2, .long y2, .long y3])), (h1, .inr (7, [.ref h4, .ref h5, .ref h6, .int x1, .int z7, .int x2]))] rfl ?_
      have p9 : ((Int32.toInt z7) = (Int32.toInt z7) ∧ (Int32.toInt x2) = (Int32.toInt x2)) := w8
      exact r_vret 31 Rt dX1_shelve_31 (x1, z7, x2) (show SHV (Int32.toInt x0) (Int32.toInt x1) (Int32.toInt x3) (Int32.toInt x1) ∧ CND (0 ≤ (Int64.toInt y2) ∧ (Int64.toInt y2) ≤ 1500) (SHW (Int32.toInt x0) (Int32.toInt x1) (Int64.toInt y2) (Int32.toInt x2) (Int32.toInt z7) (Int32.toInt x2)) from ⟨(by unfold SHV; omega), (by exact fun h_9 => (by have h_8 := shw_l (show Int64.toInt32 y2 = z7 by assumption) h_9; unfold SHW; omega))⟩) [0, 1] (by decide) rfl (Nat.le_of_ble_eq_true rfl) (Nat.le_of_ble_eq_true rfl)
set_option maxHeartbeats 4000000 in
set_option maxRecDepth 100000 in
theorem c60_J7_fill_53178 (l : Launch) (g : GD) (h0 : Nat) (fn0 : Nat → Int32) (sz : Nat) : Met l yJ7_fill_53178 wsJ7_fill_53178 ({ frames := 0, cells := 0, slots := 0, locals := 0 }) (va_Pc [.ref h0, .int (-1)] (PW g [(h0, .inl (gI g, 6, .inl fn0))] sz)) (va_Qv (fun (u : (Nat → Int32)) => FILLED u (-1) 6) (BW g (va_A [(h0, .inl (gI g, 6, .inl fn0))] sz) (fun u : (Nat → Int32) => [(h0, .inl (gI g, 6, .inl u))])) (va_A [(h0, .inl (gI g, 6, .inl fn0))] sz)) 0 0 (va_A [(h0, .inl (gI g, 6, .inl fn0))] sz) := by
  refine met_v RJ7 (by decide) rfl rfl (Nat.le_of_ble_eq_true rfl) [(0, .ref h0), (1, .int (-1))] rfl ?_
  intro p e s m args below meth c A Q C hnm Rt
  refine r_iconst 0 0 C dJ7_fill_53178_0 (by decide) ?_
  refine r_istore_n 1 C dJ7_fill_53178_1 [(2, .int 0), (0, .ref h0), (1, .int (-1))] (by decide) rfl ?_
  refine r_aload_n 2 1 C dJ7_fill_53178_2 rfl ?_
  refine r_ialen 3 6 C dJ7_fill_53178_3 0 rfl (by decide) ?_
  refine r_istore_n 4 C dJ7_fill_53178_4 [(3, .int 6), (2, .int 0), (0, .ref h0), (1, .int (-1))] (by decide) rfl ?_
  have lp4 : ∀ (n3 : Nat) (z1 : Int32) (f2 : Nat → Int32), (0 ≤ (Int32.toInt z1) ∧ (Int32.toInt z1) ≤ 6) → (FILLED f2 (-1) (Int.toNat (Int32.toInt z1))) → Int.toNat (6 - (Int32.toInt z1)) < n3 → WW p l e ({ frames := 0, cells := 0, slots := 0, locals := 0 } : Room) s m args below meth c A Q g 4 0 0 [(h0, .inl (gI g, 6, .inl f2))] 5 [(3, .int 6), (2, .int z1), (0, .ref h0), (1, .int (-1))] [] := by
    intro n3
    induction n3 with
    | zero => intro z1 f2 i7 j8 hm6; exact absurd hm6 (Nat.not_lt_zero _)
    | succ n3 ih5 =>
      intro z1 f2 i7 j8 hm6
      obtain ⟨i7a, i7b⟩ := i7
      refine r_iload_n 5 1 C dJ7_fill_53178_5 rfl ?_
      refine r_iload_n 6 0 C dJ7_fill_53178_6 rfl ?_
      refine r_icmp_ge 7 20 C dJ7_fill_53178_7 (by decide) (fun c9 => ?_) (fun c9 => ?_)
      · skip
        have k10 : 6 ≤ (Int32.toInt z1) := (fa_le 6 z1).mp c9
        exact r_vret 20 Rt dJ7_fill_53178_20 f2 (show FILLED f2 (-1) 6 from (by exact (fun j_9 h_9 => (show FILLED f2 (-1) (Int.toNat (Int32.toInt z1)) by assumption) j_9 (by omega)))) [0] (by decide) rfl (Nat.le_of_ble_eq_true rfl) (Nat.le_of_ble_eq_true rfl)
      · skip
        have k11 : ¬ (6 ≤ (Int32.toInt z1)) := fun h_9 => c9 ((fa_le 6 z1).mpr h_9)
        refine r_aload_n 10 2 C dJ7_fill_53178_10 rfl ?_
        refine r_iload_n 11 1 C dJ7_fill_53178_11 rfl ?_
        refine r_iload_n 12 3 C dJ7_fill_53178_12 rfl ?_
        obtain ⟨f12, ef12⟩ : ∃ f_9, upd f2 (Int32.toNatClampNeg z1) (-1) = f_9 := ⟨_, rfl⟩
        refine r_iast 13 C dJ7_fill_53178_13 0 rfl (vinI (by omega) (by omega)) f12 ef12 [(h0, .inl (gI g, 6, .inl f12))] rfl ?_
        obtain ⟨z13, ez13⟩ : ∃ z_9, z1 + Int32.ofInt 1 = z_9 := ⟨_, rfl⟩
        have tz13 : (Int32.toInt z13) = (Int32.toInt z1) + 1 := by rw [← ez13]; exact fb_addIv (a := 0) (b := 6) (c := 1) (d := 1) ⟨i7a, i7b⟩ ⟨by decide, by decide⟩ (by decide) (by decide)
        refine r_iinc 14 1 z13 C dJ7_fill_53178_14 rfl ez13 [(2, .int z13), (3, .int 6), (0, .ref h0), (1, .int (-1))] (by decide) rfl ?_
        refine r_goto 17 5 C dJ7_fill_53178_17 (by decide) ?_
        refine r_lv [(3, .int 6), (2, .int z13), (0, .ref h0), (1, .int (-1))] [1, 0, 2, 3] rfl ?_
        exact ih5 z13 f12 ⟨by omega, by omega⟩ (filled_step (show FILLED f2 (-1) (Int.toNat (Int32.toInt z1)) by assumption) (by assumption) (by omega) (by omega)) (by omega)
  exact lp4 _ 0 fn0 (by decide) filled_0 (Nat.lt_succ_self _)
set_option maxHeartbeats 4000000 in
set_option maxRecDepth 100000 in
theorem c61_X2_clear (l : Launch) (g : GD) (h0 : Nat) (h1 : Nat) (h2 : Nat) (x0 : Int32) (x1 : Int32) (h3 : Nat) (h4 : Nat) (fn0 : Nat → Int32) (i_x0 : (0 ≤ (Int32.toInt x0) ∧ (Int32.toInt x0) ≤ 48)) (i_x1 : (0 ≤ (Int32.toInt x1) ∧ (Int32.toInt x1) ≤ 1)) (sz : Nat) : Met l yX2_clear wsX2_clear ({ frames := 1, cells := 0, slots := 0, locals := 23 }) (va_Pc [.ref h0] (PW g [(h0, .inr (2, [.ref h2, .int x0, .int x1, .ref h1, .ref h3, .ref h4])), (h1, .inl (gI g, 6, .inl fn0))] sz)) (va_Qv (fun (u : (Nat → Int32)) => FILLED u (-1) 6) (BW g (va_A [(h0, .inr (2, [.ref h2, .int x0, .int x1, .ref h1, .ref h3, .ref h4])), (h1, .inl (gI g, 6, .inl fn0))] sz) (fun u : (Nat → Int32) => [(h0, .inr (2, [.ref h2, .int 0, .int 0, .ref h1, .ref h3, .ref h4])), (h1, .inl (gI g, 6, .inl u))])) (va_A [(h0, .inr (2, [.ref h2, .int x0, .int x1, .ref h1, .ref h3, .ref h4])), (h1, .inl (gI g, 6, .inl fn0))] sz)) 0 0 (va_A [(h0, .inr (2, [.ref h2, .int x0, .int x1, .ref h1, .ref h3, .ref h4])), (h1, .inl (gI g, 6, .inl fn0))] sz) := by
  refine met_v RX2 (by decide) rfl rfl (Nat.le_of_ble_eq_true rfl) [(0, .ref h0)] rfl ?_
  intro p e s m args below meth c A Q C hnm Rt
  have hiX2 : ∀ w ∈ wsX20, w ∈ wsX2_clear := fun w h => List.mem_cons_of_mem _ (List.mem_append_right _ (h))
  refine r_aload_n 0 0 C dX2_clear_0 rfl ?_
  refine r_iconst 1 0 C dX2_clear_1 (by decide) ?_
  refine r_put 2 C dX2_clear_2 (k := 1) 0 rfl rfl hiX2 tyX2 tyX2_ok nmX2 (by decide) rfl (mg 1 rfl) (Or.inl rfl) rfl rfl rfl rfl (Nat.le_of_ble_eq_true rfl) [(h0, .inr (2, [.ref h2, .int 0, .int x1, .ref h1, .ref h3, .ref h4])), (h1, .inl (gI g, 6, .inl fn0))] rfl ?_
  refine r_aload_n 5 0 C dX2_clear_5 rfl ?_
  refine r_iconst 6 0 C dX2_clear_6 (by decide) ?_
  refine r_put 7 C dX2_clear_7 (k := 2) 0 rfl rfl hiX2 tyX2 tyX2_ok nmX2 (by decide) rfl (mg 2 rfl) (Or.inl rfl) rfl rfl rfl rfl (Nat.le_of_ble_eq_true rfl) [(h0, .inr (2, [.ref h2, .int 0, .int 0, .ref h1, .ref h3, .ref h4])), (h1, .inl (gI g, 6, .inl fn0))] rfl ?_
  refine r_aload_n 10 0 C dX2_clear_10 rfl ?_
  refine r_get 11 C dX2_clear_11 (k := 3) 0 rfl rfl hiX2 (by decide) rfl (mg 3 rfl) (Or.inl rfl) rfl ?_
  refine r_iconst 14 (-1) C dX2_clear_14 (by decide) ?_
  refine r_callSv 15 C dX2_clear_15 [] [(h1, .inl (gI g, 6, .inl fn0))] [(h0, .inr (2, [.ref h2, .int 0, .int 0, .ref h1, .ref h3, .ref h4]))] (fun sz => c60_J7_fill_53178 l g h1 fn0  sz) gX2_clear_J7_fill_53178 rfl ⟨rfl, rfl⟩ 2 (by decide) ⟨Nat.le_of_ble_eq_true rfl, Nat.le_of_ble_eq_true rfl⟩ [1] [0] rfl rfl (by decide) (by decide) (by decide) rfl rfl (Nat.le_of_ble_eq_true rfl) ⟨Nat.le_of_ble_eq_true rfl, Nat.le_of_ble_eq_true rfl⟩ (fun  f1 w2 => ?_)
  refine r_ws [(h0, .inr (2, [.ref h2, .int 0, .int 0, .ref h1, .ref h3, .ref h4])), (h1, .inl (gI g, 6, .inl f1))] rfl ?_
  have p3 : FILLED f1 (-1) 6 := w2
  exact r_vret 18 Rt dX2_clear_18 f1 (show FILLED f1 (-1) 6 from (by exact p3)) [0, 1] (by decide) rfl (Nat.le_of_ble_eq_true rfl) (Nat.le_of_ble_eq_true rfl)
set_option maxHeartbeats 4000000 in
set_option maxRecDepth 100000 in
theorem c62_X2_isBetween (l : Launch) (g : GD) (h0 : Nat) (h1 : Nat) (x0 : Int32) (x1 : Int32) (h2 : Nat) (h3 : Nat) (h4 : Nat) (i_x0 : (0 ≤ (Int32.toInt x0) ∧ (Int32.toInt x0) ≤ 48)) (i_x1 : (0 ≤ (Int32.toInt x1) ∧ (Int32.toInt x1) ≤ 1)) (sz : Nat) : Met l yX2_isBetween wsX2_isBetween ({ frames := 0, cells := 0, slots := 0, locals := 0 }) (va_Pc [.ref h0] (PW g [(h0, .inr (2, [.ref h1, .int x0, .int x1, .ref h2, .ref h3, .ref h4]))] sz)) (va_Qi (fun (r : Int32) (_ : Unit) => 0 ≤ (Int32.toInt r) ∧ (Int32.toInt r) ≤ 1 ∧ (((Int32.toInt r) = 1 ∧ (Int32.toInt x0) = 0) ∨ ((Int32.toInt r) = 0 ∧ ¬ ((Int32.toInt x0) = 0)))) (BW g (va_A [(h0, .inr (2, [.ref h1, .int x0, .int x1, .ref h2, .ref h3, .ref h4]))] sz) (fun _ : Unit => [(h0, .inr (2, [.ref h1, .int x0, .int x1, .ref h2, .ref h3, .ref h4]))])) (va_A [(h0, .inr (2, [.ref h1, .int x0, .int x1, .ref h2, .ref h3, .ref h4]))] sz)) 0 0 (va_A [(h0, .inr (2, [.ref h1, .int x0, .int x1, .ref h2, .ref h3, .ref h4]))] sz) := by
  refine met_z RX2 (by decide) rfl rfl (Nat.le_of_ble_eq_true rfl) [(0, .ref h0)] rfl ?_
  intro p e s m args below meth c A Q C hnm Rt
  have hiX2 : ∀ w ∈ wsX20, w ∈ wsX2_isBetween := fun w h => List.mem_cons_of_mem _ (List.mem_append_right _ (h))
  refine r_aload_n 0 0 C dX2_isBetween_0 rfl ?_
  refine r_get 1 C dX2_isBetween_1 (k := 1) 0 rfl rfl hiX2 (by decide) rfl (mg 1 rfl) (Or.inl rfl) rfl ?_
  refine r_if_ne 4 11 C dX2_isBetween_4 (by decide) (fun c1 => ?_) (fun c1 => ?_)
  · skip
    have k2 : ¬ ((Int32.toInt x0) = 0) := fun h_9 => c1 ((fa_eq x0 0).mpr h_9)
    refine r_iconst 11 0 C dX2_isBetween_11 (by decide) ?_
    exact r_zret 12 Rt dX2_isBetween_12 (by decide) () (show 0 ≤ (Int32.toInt 0) ∧ (Int32.toInt 0) ≤ 1 ∧ ((0 = 1 ∧ (Int32.toInt x0) = 0) ∨ (0 = 0 ∧ ¬ ((Int32.toInt x0) = 0))) from ⟨(by ((repeat' apply And.intro) <;> first | trivial | rfl | assumption | omega | decide | exact Or.inl rfl | exact Or.inr (Or.inl rfl) | exact Or.inr (Or.inr rfl))), (by ((repeat' apply And.intro) <;> first | trivial | rfl | assumption | omega | decide | exact Or.inl rfl | exact Or.inr (Or.inl rfl) | exact Or.inr (Or.inr rfl))), (by ((repeat' apply And.intro) <;> first | trivial | rfl | assumption | omega | decide | exact Or.inl rfl | exact Or.inr (Or.inl rfl) | exact Or.inr (Or.inr rfl)))⟩) [0] (by decide) rfl (Nat.le_of_ble_eq_true rfl) (Nat.le_of_ble_eq_true rfl)
  · skip
    have k3 : (Int32.toInt x0) = 0 := (fa_eq x0 0).mp c1
    refine r_iconst 7 1 C dX2_isBetween_7 (by decide) ?_
    refine r_goto 8 12 C dX2_isBetween_8 (by decide) ?_
    exact r_zret 12 Rt dX2_isBetween_12 (by decide) () (show 0 ≤ (Int32.toInt 1) ∧ (Int32.toInt 1) ≤ 1 ∧ ((1 = 1 ∧ (Int32.toInt x0) = 0) ∨ (1 = 0 ∧ ¬ ((Int32.toInt x0) = 0))) from ⟨(by ((repeat' apply And.intro) <;> first | trivial | rfl | assumption | omega | decide | exact Or.inl rfl | exact Or.inr (Or.inl rfl) | exact Or.inr (Or.inr rfl))), (by ((repeat' apply And.intro) <;> first | trivial | rfl | assumption | omega | decide | exact Or.inl rfl | exact Or.inr (Or.inl rfl) | exact Or.inr (Or.inr rfl))), (by ((repeat' apply And.intro) <;> first | trivial | rfl | assumption | omega | decide | exact Or.inl rfl | exact Or.inr (Or.inl rfl) | exact Or.inr (Or.inr rfl)))⟩) [0] (by decide) rfl (Nat.le_of_ble_eq_true rfl) (Nat.le_of_ble_eq_true rfl)
set_option maxHeartbeats 4000000 in
set_option maxRecDepth 100000 in
theorem c63_X2_isFull (l : Launch) (g : GD) (h0 : Nat) (h1 : Nat) (x0 : Int32) (x1 : Int32) (h2 : Nat) (h3 : Nat) (h4 : Nat) (i_x0 : (0 ≤ (Int32.toInt x0) ∧ (Int32.toInt x0) ≤ 48)) (i_x1 : (0 ≤ (Int32.toInt x1) ∧ (Int32.toInt x1) ≤ 1)) (sz : Nat) : Met l yX2_isFull wsX2_isFull ({ frames := 0, cells := 0, slots := 0, locals := 0 }) (va_Pc [.ref h0] (PW g [(h0, .inr (2, [.ref h1, .int x0, .int x1, .ref h2, .ref h3, .ref h4]))] sz)) (va_Qi (fun (r : Int32) (_ : Unit) => (((Int32.toInt x0) < 48 ∧ r = 0) ∨ (¬ ((Int32.toInt x0) < 48) ∧ r = 1))) (BW g (va_A [(h0, .inr (2, [.ref h1, .int x0, .int x1, .ref h2, .ref h3, .ref h4]))] sz) (fun _ : Unit => [(h0, .inr (2, [.ref h1, .int x0, .int x1, .ref h2, .ref h3, .ref h4]))])) (va_A [(h0, .inr (2, [.ref h1, .int x0, .int x1, .ref h2, .ref h3, .ref h4]))] sz)) 0 0 (va_A [(h0, .inr (2, [.ref h1, .int x0, .int x1, .ref h2, .ref h3, .ref h4]))] sz) := by
  refine met_z RX2 (by decide) rfl rfl (Nat.le_of_ble_eq_true rfl) [(0, .ref h0)] rfl ?_
  intro p e s m args below meth c A Q C hnm Rt
  have hiX2 : ∀ w ∈ wsX20, w ∈ wsX2_isFull := fun w h => List.mem_cons_of_mem _ (List.mem_append_right _ (h))
  refine r_aload_n 0 0 C dX2_isFull_0 rfl ?_
  refine r_get 1 C dX2_isFull_1 (k := 1) 0 rfl rfl hiX2 (by decide) rfl (mg 1 rfl) (Or.inl rfl) rfl ?_
  refine r_bipush 4 48 C dX2_isFull_4 (by decide) ?_
  refine r_icmp_lt 6 13 C dX2_isFull_6 (by decide) (fun c1 => ?_) (fun c1 => ?_)
  · skip
    have k2 : (Int32.toInt x0) < 48 := (fa_lt x0 48).mp c1
    refine r_iconst 13 0 C dX2_isFull_13 (by decide) ?_
    exact r_zret 14 Rt dX2_isFull_14 (by decide) () (show (((Int32.toInt x0) < 48 ∧ 0 = 0) ∨ (¬ ((Int32.toInt x0) < 48) ∧ 0 = 1)) from by refine Or.inl ?_ <;> ((repeat' apply And.intro) <;> first | trivial | rfl | assumption | omega | decide | exact Or.inl rfl | exact Or.inr (Or.inl rfl) | exact Or.inr (Or.inr rfl))) [0] (by decide) rfl (Nat.le_of_ble_eq_true rfl) (Nat.le_of_ble_eq_true rfl)
  · skip
    have k3 : ¬ ((Int32.toInt x0) < 48) := fun h_9 => c1 ((fa_lt x0 48).mpr h_9)
    refine r_iconst 9 1 C dX2_isFull_9 (by decide) ?_
    refine r_goto 10 14 C dX2_isFull_10 (by decide) ?_
    exact r_zret 14 Rt dX2_isFull_14 (by decide) () (show (((Int32.toInt x0) < 48 ∧ 1 = 0) ∨ (¬ ((Int32.toInt x0) < 48) ∧ 1 = 1)) from by refine Or.inr (?_) <;> ((repeat' apply And.intro) <;> first | trivial | rfl | assumption | omega | decide | exact Or.inl rfl | exact Or.inr (Or.inl rfl) | exact Or.inr (Or.inr rfl))) [0] (by decide) rfl (Nat.le_of_ble_eq_true rfl) (Nat.le_of_ble_eq_true rfl)
set_option maxHeartbeats 4000000 in
set_option maxRecDepth 100000 in
theorem c64_X1_isOperand (l : Launch) (g : GD) (x0 : Int32) (sz : Nat) : Met l yX1_isOperand wsX1_isOperand ({ frames := 0, cells := 0, slots := 0, locals := 0 }) (va_Pc [.int x0] (PW g [] sz)) (va_Qi (fun (r : Int32) (_ : Unit) => 0 ≤ (Int32.toInt r) ∧ (Int32.toInt r) ≤ 1 ∧ ISOP (Int32.toInt x0) (Int32.toInt r)) (BW g (va_A [] sz) (fun _ : Unit => [])) (va_A [] sz)) 0 0 (va_A [] sz) := by
  refine met_z RX1 (by decide) rfl rfl (Nat.le_of_ble_eq_true rfl) [(0, .int x0)] rfl ?_
  intro p e s m args below meth c A Q C hnm Rt
  have gx0 := fb_rng x0
  refine r_iload_n 0 0 C dX1_isOperand_0 rfl ?_
  refine r_bipush 1 28 C dX1_isOperand_1 (by decide) ?_
  refine r_icmp_lt 3 12 C dX1_isOperand_3 (by decide) (fun c1 => ?_) (fun c1 => ?_)
  · skip
    have k2 : (Int32.toInt x0) < 28 := (fa_lt x0 28).mp c1
    refine r_iload_n 12 0 C dX1_isOperand_12 rfl ?_
    refine r_bipush 13 32 C dX1_isOperand_13 (by decide) ?_
    refine r_icmp_lt_t 15 29 C dX1_isOperand_15 (by decide) ((fa_lt x0 32).mpr (by show (Int32.toInt x0) < 32; omega)) ?_
    refine r_iconst 29 0 C dX1_isOperand_29 (by decide) ?_
    exact r_zret 30 Rt dX1_isOperand_30 (by decide) () (show 0 ≤ (Int32.toInt 0) ∧ (Int32.toInt 0) ≤ 1 ∧ ISOP (Int32.toInt x0) 0 from ⟨(by ((repeat' apply And.intro) <;> first | trivial | rfl | assumption | omega | decide | exact Or.inl rfl | exact Or.inr (Or.inl rfl) | exact Or.inr (Or.inr rfl))), (by ((repeat' apply And.intro) <;> first | trivial | rfl | assumption | omega | decide | exact Or.inl rfl | exact Or.inr (Or.inl rfl) | exact Or.inr (Or.inr rfl))), (by first | exact Or.inl ⟨rfl, by omega⟩ | exact Or.inr ⟨rfl, by omega⟩)⟩) [] (by decide) rfl (Nat.le_of_ble_eq_true rfl) (Nat.le_of_ble_eq_true rfl)
  · skip
    have k3 : ¬ ((Int32.toInt x0) < 28) := fun h_9 => c1 ((fa_lt x0 28).mpr h_9)
    refine r_iload_n 6 0 C dX1_isOperand_6 rfl ?_
    refine r_bipush 7 30 C dX1_isOperand_7 (by decide) ?_
    refine r_icmp_le 9 25 C dX1_isOperand_9 (by decide) (fun c4 => ?_) (fun c4 => ?_)
    · skip
      have k5 : (Int32.toInt x0) ≤ 30 := (fa_le x0 30).mp c4
      refine r_iconst 25 1 C dX1_isOperand_25 (by decide) ?_
      refine r_goto 26 30 C dX1_isOperand_26 (by decide) ?_
      exact r_zret 30 Rt dX1_isOperand_30 (by decide) () (show 0 ≤ (Int32.toInt 1) ∧ (Int32.toInt 1) ≤ 1 ∧ ISOP (Int32.toInt x0) 1 from ⟨(by ((repeat' apply And.intro) <;> first | trivial | rfl | assumption | omega | decide | exact Or.inl rfl | exact Or.inr (Or.inl rfl) | exact Or.inr (Or.inr rfl))), (by ((repeat' apply And.intro) <;> first | trivial | rfl | assumption | omega | decide | exact Or.inl rfl | exact Or.inr (Or.inl rfl) | exact Or.inr (Or.inr rfl))), (by first | exact Or.inl ⟨rfl, by omega⟩ | exact Or.inr ⟨rfl, by omega⟩)⟩) [] (by decide) rfl (Nat.le_of_ble_eq_true rfl) (Nat.le_of_ble_eq_true rfl)
    · skip
      have k6 : ¬ ((Int32.toInt x0) ≤ 30) := fun h_9 => c4 ((fa_le x0 30).mpr h_9)
      refine r_iload_n 12 0 C dX1_isOperand_12 rfl ?_
      refine r_bipush 13 32 C dX1_isOperand_13 (by decide) ?_
      refine r_icmp_lt 15 29 C dX1_isOperand_15 (by decide) (fun c7 => ?_) (fun c7 => ?_)
      · skip
        have k8 : (Int32.toInt x0) < 32 := (fa_lt x0 32).mp c7
        refine r_iconst 29 0 C dX1_isOperand_29 (by decide) ?_
        exact r_zret 30 Rt dX1_isOperand_30 (by decide) () (show 0 ≤ (Int32.toInt 0) ∧ (Int32.toInt 0) ≤ 1 ∧ ISOP (Int32.toInt x0) 0 from ⟨(by ((repeat' apply And.intro) <;> first | trivial | rfl | assumption | omega | decide | exact Or.inl rfl | exact Or.inr (Or.inl rfl) | exact Or.inr (Or.inr rfl))), (by ((repeat' apply And.intro) <;> first | trivial | rfl | assumption | omega | decide | exact Or.inl rfl | exact Or.inr (Or.inl rfl) | exact Or.inr (Or.inr rfl))), (by first | exact Or.inl ⟨rfl, by omega⟩ | exact Or.inr ⟨rfl, by omega⟩)⟩) [] (by decide) rfl (Nat.le_of_ble_eq_true rfl) (Nat.le_of_ble_eq_true rfl)
      · skip
        have k9 : ¬ ((Int32.toInt x0) < 32) := fun h_9 => c7 ((fa_lt x0 32).mpr h_9)
        refine r_iload_n 18 0 C dX1_isOperand_18 rfl ?_
        refine r_sipush 19 254 C dX1_isOperand_19 (by decide) ?_
        refine r_icmp_gt 22 29 C dX1_isOperand_22 (by decide) (fun c10 => ?_) (fun c10 => ?_)
        · skip
          have k11 : 254 < (Int32.toInt x0) := (fa_lt 254 x0).mp c10
          refine r_iconst 29 0 C dX1_isOperand_29 (by decide) ?_
          exact r_zret 30 Rt dX1_isOperand_30 (by decide) () (show 0 ≤ (Int32.toInt 0) ∧ (Int32.toInt 0) ≤ 1 ∧ ISOP (Int32.toInt x0) 0 from ⟨(by ((repeat' apply And.intro) <;> first | trivial | rfl | assumption | omega | decide | exact Or.inl rfl | exact Or.inr (Or.inl rfl) | exact Or.inr (Or.inr rfl))), (by ((repeat' apply And.intro) <;> first | trivial | rfl | assumption | omega | decide | exact Or.inl rfl | exact Or.inr (Or.inl rfl) | exact Or.inr (Or.inr rfl))), (by first | exact Or.inl ⟨rfl, by omega⟩ | exact Or.inr ⟨rfl, by omega⟩)⟩) [] (by decide) rfl (Nat.le_of_ble_eq_true rfl) (Nat.le_of_ble_eq_true rfl)
        · skip
          have k12 : ¬ (254 < (Int32.toInt x0)) := fun h_9 => c10 ((fa_lt 254 x0).mpr h_9)
          refine r_iconst 25 1 C dX1_isOperand_25 (by decide) ?_
          refine r_goto 26 30 C dX1_isOperand_26 (by decide) ?_
          exact r_zret 30 Rt dX1_isOperand_30 (by decide) () (show 0 ≤ (Int32.toInt 1) ∧ (Int32.toInt 1) ≤ 1 ∧ ISOP (Int32.toInt x0) 1 from ⟨(by ((repeat' apply And.intro) <;> first | trivial | rfl | assumption | omega | decide | exact Or.inl rfl | exact Or.inr (Or.inl rfl) | exact Or.inr (Or.inr rfl))), (by ((repeat' apply And.intro) <;> first | trivial | rfl | assumption | omega | decide | exact Or.inl rfl | exact Or.inr (Or.inl rfl) | exact Or.inr (Or.inr rfl))), (by first | exact Or.inl ⟨rfl, by omega⟩ | exact Or.inr ⟨rfl, by omega⟩)⟩) [] (by decide) rfl (Nat.le_of_ble_eq_true rfl) (Nat.le_of_ble_eq_true rfl)
set_option maxHeartbeats 4000000 in
set_option maxRecDepth 100000 in
theorem c65_X11_bytesBehind (l : Launch) (g : GD) (x0 : Int32) (sz : Nat) : Met l yX11_bytesBehind wsX11_bytesBehind ({ frames := 0, cells := 0, slots := 0, locals := 0 }) (va_Pc [.int x0] (PW g [] sz)) (va_Qi (fun (r : Int32) (_ : Unit) => 0 ≤ (Int32.toInt r) ∧ (Int32.toInt r) ≤ 4 ∧ BB (Int32.toInt x0) (Int32.toInt r)) (BW g (va_A [] sz) (fun _ : Unit => [])) (va_A [] sz)) 0 0 (va_A [] sz) := by
  refine met_i RX11 (by decide) rfl rfl (Nat.le_of_ble_eq_true rfl) [(0, .int x0)] rfl ?_
  intro p e s m args below meth c A Q C hnm Rt
  have gx0 := fb_rng x0
  refine r_iload_n 0 0 C dX11_bytesBehind_0 rfl ?_
  refine r_bipush 1 28 C dX11_bytesBehind_1 (by decide) ?_
  refine r_icmp_ne 3 8 C dX11_bytesBehind_3 (by decide) (fun c1 => ?_) (fun c1 => ?_)
  · skip
    have k2 : ¬ ((Int32.toInt x0) = 28) := fun h_9 => c1 ((fa_eq x0 28).mpr h_9)
    refine r_iload_n 8 0 C dX11_bytesBehind_8 rfl ?_
    refine r_bipush 9 29 C dX11_bytesBehind_9 (by decide) ?_
    refine r_icmp_eq 11 21 C dX11_bytesBehind_11 (by decide) (fun c3 => ?_) (fun c3 => ?_)
    · skip
      have k4 : (Int32.toInt x0) = 29 := (fa_eq x0 29).mp c3
      refine r_iconst 21 4 C dX11_bytesBehind_21 (by decide) ?_
      exact r_iret 22 Rt dX11_bytesBehind_22 () (show 0 ≤ (Int32.toInt 4) ∧ (Int32.toInt 4) ≤ 4 ∧ BB (Int32.toInt x0) 4 from ⟨(by ((repeat' apply And.intro) <;> first | trivial | rfl | assumption | omega | decide | exact Or.inl rfl | exact Or.inr (Or.inl rfl) | exact Or.inr (Or.inr rfl))), (by ((repeat' apply And.intro) <;> first | trivial | rfl | assumption | omega | decide | exact Or.inl rfl | exact Or.inr (Or.inl rfl) | exact Or.inr (Or.inr rfl))), (by first | exact Or.inl ⟨by omega, rfl⟩ | exact Or.inr (Or.inl ⟨by omega, rfl⟩) | exact Or.inr (Or.inr (Or.inl ⟨by omega, by omega, rfl⟩)) | exact Or.inr (Or.inr (Or.inr ⟨by omega, by omega, by omega, rfl⟩)))⟩) [] (by decide) rfl (Nat.le_of_ble_eq_true rfl) (Nat.le_of_ble_eq_true rfl)
    · skip
      have k5 : ¬ ((Int32.toInt x0) = 29) := fun h_9 => c3 ((fa_eq x0 29).mpr h_9)
      refine r_iload_n 14 0 C dX11_bytesBehind_14 rfl ?_
      refine r_sipush 15 255 C dX11_bytesBehind_15 (by decide) ?_
      refine r_icmp_ne 18 23 C dX11_bytesBehind_18 (by decide) (fun c6 => ?_) (fun c6 => ?_)
      · skip
        have k7 : ¬ ((Int32.toInt x0) = 255) := fun h_9 => c6 ((fa_eq x0 255).mpr h_9)
        refine r_iload_n 23 0 C dX11_bytesBehind_23 rfl ?_
        refine r_sipush 24 247 C dX11_bytesBehind_24 (by decide) ?_
        refine r_icmp_lt 27 34 C dX11_bytesBehind_27 (by decide) (fun c8 => ?_) (fun c8 => ?_)
        · skip
          have k9 : (Int32.toInt x0) < 247 := (fa_lt x0 247).mp c8
          refine r_iconst 34 0 C dX11_bytesBehind_34 (by decide) ?_
          exact r_iret 35 Rt dX11_bytesBehind_35 () (show 0 ≤ (Int32.toInt 0) ∧ (Int32.toInt 0) ≤ 4 ∧ BB (Int32.toInt x0) 0 from ⟨(by ((repeat' apply And.intro) <;> first | trivial | rfl | assumption | omega | decide | exact Or.inl rfl | exact Or.inr (Or.inl rfl) | exact Or.inr (Or.inr rfl))), (by ((repeat' apply And.intro) <;> first | trivial | rfl | assumption | omega | decide | exact Or.inl rfl | exact Or.inr (Or.inl rfl) | exact Or.inr (Or.inr rfl))), (by first | exact Or.inl ⟨by omega, rfl⟩ | exact Or.inr (Or.inl ⟨by omega, rfl⟩) | exact Or.inr (Or.inr (Or.inl ⟨by omega, by omega, rfl⟩)) | exact Or.inr (Or.inr (Or.inr ⟨by omega, by omega, by omega, rfl⟩)))⟩) [] (by decide) rfl (Nat.le_of_ble_eq_true rfl) (Nat.le_of_ble_eq_true rfl)
        · skip
          have k10 : ¬ ((Int32.toInt x0) < 247) := fun h_9 => c8 ((fa_lt x0 247).mpr h_9)
          refine r_iconst 30 1 C dX11_bytesBehind_30 (by decide) ?_
          refine r_goto 31 35 C dX11_bytesBehind_31 (by decide) ?_
          exact r_iret 35 Rt dX11_bytesBehind_35 () (show 0 ≤ (Int32.toInt 1) ∧ (Int32.toInt 1) ≤ 4 ∧ BB (Int32.toInt x0) 1 from ⟨(by ((repeat' apply And.intro) <;> first | trivial | rfl | assumption | omega | decide | exact Or.inl rfl | exact Or.inr (Or.inl rfl) | exact Or.inr (Or.inr rfl))), (by ((repeat' apply And.intro) <;> first | trivial | rfl | assumption | omega | decide | exact Or.inl rfl | exact Or.inr (Or.inl rfl) | exact Or.inr (Or.inr rfl))), (by first | exact Or.inl ⟨by omega, rfl⟩ | exact Or.inr (Or.inl ⟨by omega, rfl⟩) | exact Or.inr (Or.inr (Or.inl ⟨by omega, by omega, rfl⟩)) | exact Or.inr (Or.inr (Or.inr ⟨by omega, by omega, by omega, rfl⟩)))⟩) [] (by decide) rfl (Nat.le_of_ble_eq_true rfl) (Nat.le_of_ble_eq_true rfl)
      · skip
        have k11 : (Int32.toInt x0) = 255 := (fa_eq x0 255).mp c6
        refine r_iconst 21 4 C dX11_bytesBehind_21 (by decide) ?_
        exact r_iret 22 Rt dX11_bytesBehind_22 () (show 0 ≤ (Int32.toInt 4) ∧ (Int32.toInt 4) ≤ 4 ∧ BB (Int32.toInt x0) 4 from ⟨(by ((repeat' apply And.intro) <;> first | trivial | rfl | assumption | omega | decide | exact Or.inl rfl | exact Or.inr (Or.inl rfl) | exact Or.inr (Or.inr rfl))), (by ((repeat' apply And.intro) <;> first | trivial | rfl | assumption | omega | decide | exact Or.inl rfl | exact Or.inr (Or.inl rfl) | exact Or.inr (Or.inr rfl))), (by first | exact Or.inl ⟨by omega, rfl⟩ | exact Or.inr (Or.inl ⟨by omega, rfl⟩) | exact Or.inr (Or.inr (Or.inl ⟨by omega, by omega, rfl⟩)) | exact Or.inr (Or.inr (Or.inr ⟨by omega, by omega, by omega, rfl⟩)))⟩) [] (by decide) rfl (Nat.le_of_ble_eq_true rfl) (Nat.le_of_ble_eq_true rfl)
  · skip
    have k12 : (Int32.toInt x0) = 28 := (fa_eq x0 28).mp c1
    refine r_iconst 6 2 C dX11_bytesBehind_6 (by decide) ?_
    exact r_iret 7 Rt dX11_bytesBehind_7 () (show 0 ≤ (Int32.toInt 2) ∧ (Int32.toInt 2) ≤ 4 ∧ BB (Int32.toInt x0) 2 from ⟨(by ((repeat' apply And.intro) <;> first | trivial | rfl | assumption | omega | decide | exact Or.inl rfl | exact Or.inr (Or.inl rfl) | exact Or.inr (Or.inr rfl))), (by ((repeat' apply And.intro) <;> first | trivial | rfl | assumption | omega | decide | exact Or.inl rfl | exact Or.inr (Or.inl rfl) | exact Or.inr (Or.inr rfl))), (by first | exact Or.inl ⟨by omega, rfl⟩ | exact Or.inr (Or.inl ⟨by omega, rfl⟩) | exact Or.inr (Or.inr (Or.inl ⟨by omega, by omega, rfl⟩)) | exact Or.inr (Or.inr (Or.inr ⟨by omega, by omega, by omega, rfl⟩)))⟩) [] (by decide) rfl (Nat.le_of_ble_eq_true rfl) (Nat.le_of_ble_eq_true rfl)
set_option maxHeartbeats 4000000 in
set_option maxRecDepth 100000 in
theorem c66_X11_wholeNumber (l : Launch) (g : GD) (x0 : Int32) (x1 : Int32) (sz : Nat) : Met l yX11_wholeNumber wsX11_wholeNumber ({ frames := 0, cells := 0, slots := 0, locals := 0 }) (va_Pc [.int x0, .int x1] (PW g [] sz)) (va_Qi (fun (r : Int32) (_ : Unit) => CND (((Int32.toInt x0) = 29 ∨ (0 ≤ (Int32.toInt x1) ∧ (Int32.toInt x1) ≤ 65535)) ∧ -1 ≤ (Int32.toInt x0) ∧ (Int32.toInt x0) ≤ 255) (WHO (Int32.toInt x0) (Int32.toInt x1) (Int32.toInt r))) (BW g (va_A [] sz) (fun _ : Unit => [])) (va_A [] sz)) 0 0 (va_A [] sz) := by
  refine met_i RX11 (by decide) rfl rfl (Nat.le_of_ble_eq_true rfl) [(0, .int x0), (1, .int x1)] rfl ?_
  intro p e s m args below meth c A Q C hnm Rt
  have gx0 := fb_rng x0
  have gx1 := fb_rng x1
  by_cases c1 : (((Int32.toInt x0) = 29 ∨ (0 ≤ (Int32.toInt x1) ∧ (Int32.toInt x1) ≤ 65535)) ∧ -1 ≤ (Int32.toInt x0) ∧ (Int32.toInt x0) ≤ 255)
  · obtain ⟨c2, c3, c4⟩ := id c1
    rcases c2 with c2 | c2
    · skip
      refine r_iload_n 0 0 C dX11_wholeNumber_0 rfl ?_
      refine r_bipush 1 28 C dX11_wholeNumber_1 (by decide) ?_
      refine r_icmp_ne_t 3 9 C dX11_wholeNumber_3 (by decide) (fun h_9 => by have h_8 : (Int32.toInt x0) = 28 := (fa_eq x0 28).mp h_9; omega) ?_
      refine r_iload_n 9 0 C dX11_wholeNumber_9 rfl ?_
      refine r_bipush 10 29 C dX11_wholeNumber_10 (by decide) ?_
      refine r_icmp_ne_f 12 17 C dX11_wholeNumber_12 (by decide) ((fa_eq x0 29).mpr (by show (Int32.toInt x0) = 29; omega)) ?_
      refine r_iload_n 15 1 C dX11_wholeNumber_15 rfl ?_
      exact r_iret 16 Rt dX11_wholeNumber_16 () (show CND (((Int32.toInt x0) = 29 ∨ (0 ≤ (Int32.toInt x1) ∧ (Int32.toInt x1) ≤ 65535)) ∧ -1 ≤ (Int32.toInt x0) ∧ (Int32.toInt x0) ≤ 255) (WHO (Int32.toInt x0) (Int32.toInt x1) (Int32.toInt x1)) from (by first | exact fun _ => Or.inl ⟨by omega, s16_of (by assumption) (by omega) (by omega)⟩ | exact fun _ => Or.inr (Or.inl ⟨by omega, rfl⟩) | exact fun _ => Or.inr (Or.inr (Or.inl ⟨by omega, by omega, by omega, by omega⟩)) | exact fun _ => Or.inr (Or.inr (Or.inr (Or.inl ⟨by omega, by omega, by omega⟩))) | exact fun _ => Or.inr (Or.inr (Or.inr (Or.inr ⟨by omega, by omega⟩))) | exact fun h_9 => absurd h_9 (by assumption))) [] (by decide) rfl (Nat.le_of_ble_eq_true rfl) (Nat.le_of_ble_eq_true rfl)
    · skip
      refine r_iload_n 0 0 C dX11_wholeNumber_0 rfl ?_
      refine r_bipush 1 28 C dX11_wholeNumber_1 (by decide) ?_
      refine r_icmp_ne 3 9 C dX11_wholeNumber_3 (by decide) (fun c5 => ?_) (fun c5 => ?_)
      · skip
        have k6 : ¬ ((Int32.toInt x0) = 28) := fun h_9 => c5 ((fa_eq x0 28).mpr h_9)
        refine r_iload_n 9 0 C dX11_wholeNumber_9 rfl ?_
        refine r_bipush 10 29 C dX11_wholeNumber_10 (by decide) ?_
        refine r_icmp_ne 12 17 C dX11_wholeNumber_12 (by decide) (fun c7 => ?_) (fun c7 => ?_)
        · skip
          have k8 : ¬ ((Int32.toInt x0) = 29) := fun h_9 => c7 ((fa_eq x0 29).mpr h_9)
          refine r_iload_n 17 0 C dX11_wholeNumber_17 rfl ?_
          refine r_sipush 18 246 C dX11_wholeNumber_18 (by decide) ?_
          refine r_icmp_gt 21 30 C dX11_wholeNumber_21 (by decide) (fun c9 => ?_) (fun c9 => ?_)
          · skip
            have k10 : 246 < (Int32.toInt x0) := (fa_lt 246 x0).mp c9
            refine r_iload_n 30 0 C dX11_wholeNumber_30 rfl ?_
            refine r_sipush 31 250 C dX11_wholeNumber_31 (by decide) ?_
            refine r_icmp_gt 34 52 C dX11_wholeNumber_34 (by decide) (fun c11 => ?_) (fun c11 => ?_)
            · skip
              have k12 : 250 < (Int32.toInt x0) := (fa_lt 250 x0).mp c11
              refine r_iload_n 52 0 C dX11_wholeNumber_52 rfl ?_
              refine r_sipush 53 251 C dX11_wholeNumber_53 (by decide) ?_
              obtain ⟨z13, ez13⟩ : ∃ z_9, x0 - 251 = z_9 := ⟨_, rfl⟩
              have tz13 : (Int32.toInt z13) = (Int32.toInt x0) - 251 := by rw [← ez13]; exact fb_subI (by show -2147483648 ≤ (Int32.toInt x0) - 251; omega) (by show (Int32.toInt x0) - 251 < 2147483648; omega)
              refine r_isub 56 z13 C dX11_wholeNumber_56 ez13 ?_
              obtain ⟨z14, ez14⟩ : ∃ z_9, -z13 = z_9 := ⟨_, rfl⟩
              have tz14 : (Int32.toInt z14) = -(Int32.toInt z13) := by rw [← ez14]; exact neg_in (by omega)
              refine r_ineg 57 z14 C dX11_wholeNumber_57 ez14 ?_
              refine r_sipush 58 256 C dX11_wholeNumber_58 (by decide) ?_
              obtain ⟨z15, ez15⟩ : ∃ z_9, z14 * 256 = z_9 := ⟨_, rfl⟩
              have tz15 : (Int32.toInt z15) = (Int32.toInt z14) * 256 := by rw [← ez15]; exact fb_mulI (by show -2147483648 ≤ (Int32.toInt z14) * 256; omega) (by show (Int32.toInt z14) * 256 < 2147483648; omega)
              refine r_imul 61 z15 C dX11_wholeNumber_61 ez15 ?_
              refine r_iload_n 62 1 C dX11_wholeNumber_62 rfl ?_
              obtain ⟨z16, ez16⟩ : ∃ z_9, z15 - x1 = z_9 := ⟨_, rfl⟩
              have tz16 : (Int32.toInt z16) = (Int32.toInt z15) - (Int32.toInt x1) := by rw [← ez16]; exact fb_subI (by show -2147483648 ≤ (Int32.toInt z15) - (Int32.toInt x1); omega) (by show (Int32.toInt z15) - (Int32.toInt x1) < 2147483648; omega)
              refine r_isub 63 z16 C dX11_wholeNumber_63 ez16 ?_
              refine r_bipush 64 108 C dX11_wholeNumber_64 (by decide) ?_
              obtain ⟨z17, ez17⟩ : ∃ z_9, z16 - 108 = z_9 := ⟨_, rfl⟩
              have tz17 : (Int32.toInt z17) = (Int32.toInt z16) - 108 := by rw [← ez17]; exact fb_subI (by show -2147483648 ≤ (Int32.toInt z16) - 108; omega) (by show (Int32.toInt z16) - 108 < 2147483648; omega)
              refine r_isub 66 z17 C dX11_wholeNumber_66 ez17 ?_
              exact r_iret 67 Rt dX11_wholeNumber_67 () (show CND (((Int32.toInt x0) = 29 ∨ (0 ≤ (Int32.toInt x1) ∧ (Int32.toInt x1) ≤ 65535)) ∧ -1 ≤ (Int32.toInt x0) ∧ (Int32.toInt x0) ≤ 255) (WHO (Int32.toInt x0) (Int32.toInt x1) (Int32.toInt z17)) from (by first | exact fun _ => Or.inl ⟨by omega, s16_of (by assumption) (by omega) (by omega)⟩ | exact fun _ => Or.inr (Or.inl ⟨by omega, rfl⟩) | exact fun _ => Or.inr (Or.inr (Or.inl ⟨by omega, by omega, by omega, by omega⟩)) | exact fun _ => Or.inr (Or.inr (Or.inr (Or.inl ⟨by omega, by omega, by omega⟩))) | exact fun _ => Or.inr (Or.inr (Or.inr (Or.inr ⟨by omega, by omega⟩))) | exact fun h_9 => absurd h_9 (by assumption))) [] (by decide) rfl (Nat.le_of_ble_eq_true rfl) (Nat.le_of_ble_eq_true rfl)
            · skip
              have k18 : ¬ (250 < (Int32.toInt x0)) := fun h_9 => c11 ((fa_lt 250 x0).mpr h_9)
              refine r_iload_n 37 0 C dX11_wholeNumber_37 rfl ?_
              refine r_sipush 38 247 C dX11_wholeNumber_38 (by decide) ?_
              obtain ⟨z19, ez19⟩ : ∃ z_9, x0 - 247 = z_9 := ⟨_, rfl⟩
              have tz19 : (Int32.toInt z19) = (Int32.toInt x0) - 247 := by rw [← ez19]; exact fb_subI (by show -2147483648 ≤ (Int32.toInt x0) - 247; omega) (by show (Int32.toInt x0) - 247 < 2147483648; omega)
              refine r_isub 41 z19 C dX11_wholeNumber_41 ez19 ?_
              refine r_sipush 42 256 C dX11_wholeNumber_42 (by decide) ?_
              obtain ⟨z20, ez20⟩ : ∃ z_9, z19 * 256 = z_9 := ⟨_, rfl⟩
              have tz20 : (Int32.toInt z20) = (Int32.toInt z19) * 256 := by rw [← ez20]; exact fb_mulI (by show -2147483648 ≤ (Int32.toInt z19) * 256; omega) (by show (Int32.toInt z19) * 256 < 2147483648; omega)
              refine r_imul 45 z20 C dX11_wholeNumber_45 ez20 ?_
              refine r_iload_n 46 1 C dX11_wholeNumber_46 rfl ?_
              obtain ⟨z21, ez21⟩ : ∃ z_9, z20 + x1 = z_9 := ⟨_, rfl⟩
              have tz21 : (Int32.toInt z21) = (Int32.toInt z20) + (Int32.toInt x1) := by rw [← ez21]; exact fb_addI (by show -2147483648 ≤ (Int32.toInt z20) + (Int32.toInt x1); omega) (by show (Int32.toInt z20) + (Int32.toInt x1) < 2147483648; omega)
              refine r_iadd 47 z21 C dX11_wholeNumber_47 ez21 ?_
              refine r_bipush 48 108 C dX11_wholeNumber_48 (by decide) ?_
              obtain ⟨z22, ez22⟩ : ∃ z_9, z21 + 108 = z_9 := ⟨_, rfl⟩
              have tz22 : (Int32.toInt z22) = (Int32.toInt z21) + 108 := by rw [← ez22]; exact fb_addI (by show -2147483648 ≤ (Int32.toInt z21) + 108; omega) (by show (Int32.toInt z21) + 108 < 2147483648; omega)
              refine r_iadd 50 z22 C dX11_wholeNumber_50 ez22 ?_
              exact r_iret 51 Rt dX11_wholeNumber_51 () (show CND (((Int32.toInt x0) = 29 ∨ (0 ≤ (Int32.toInt x1) ∧ (Int32.toInt x1) ≤ 65535)) ∧ -1 ≤ (Int32.toInt x0) ∧ (Int32.toInt x0) ≤ 255) (WHO (Int32.toInt x0) (Int32.toInt x1) (Int32.toInt z22)) from (by first | exact fun _ => Or.inl ⟨by omega, s16_of (by assumption) (by omega) (by omega)⟩ | exact fun _ => Or.inr (Or.inl ⟨by omega, rfl⟩) | exact fun _ => Or.inr (Or.inr (Or.inl ⟨by omega, by omega, by omega, by omega⟩)) | exact fun _ => Or.inr (Or.inr (Or.inr (Or.inl ⟨by omega, by omega, by omega⟩))) | exact fun _ => Or.inr (Or.inr (Or.inr (Or.inr ⟨by omega, by omega⟩))) | exact fun h_9 => absurd h_9 (by assumption))) [] (by decide) rfl (Nat.le_of_ble_eq_true rfl) (Nat.le_of_ble_eq_true rfl)
          · skip
            have k23 : ¬ (246 < (Int32.toInt x0)) := fun h_9 => c9 ((fa_lt 246 x0).mpr h_9)
            refine r_iload_n 24 0 C dX11_wholeNumber_24 rfl ?_
            refine r_sipush 25 139 C dX11_wholeNumber_25 (by decide) ?_
            obtain ⟨z24, ez24⟩ : ∃ z_9, x0 - 139 = z_9 := ⟨_, rfl⟩
            have tz24 : (Int32.toInt z24) = (Int32.toInt x0) - 139 := by rw [← ez24]; exact fb_subI (by show -2147483648 ≤ (Int32.toInt x0) - 139; omega) (by show (Int32.toInt x0) - 139 < 2147483648; omega)
            refine r_isub 28 z24 C dX11_wholeNumber_28 ez24 ?_
            exact r_iret 29 Rt dX11_wholeNumber_29 () (show CND (((Int32.toInt x0) = 29 ∨ (0 ≤ (Int32.toInt x1) ∧ (Int32.toInt x1) ≤ 65535)) ∧ -1 ≤ (Int32.toInt x0) ∧ (Int32.toInt x0) ≤ 255) (WHO (Int32.toInt x0) (Int32.toInt x1) (Int32.toInt z24)) from (by first | exact fun _ => Or.inl ⟨by omega, s16_of (by assumption) (by omega) (by omega)⟩ | exact fun _ => Or.inr (Or.inl ⟨by omega, rfl⟩) | exact fun _ => Or.inr (Or.inr (Or.inl ⟨by omega, by omega, by omega, by omega⟩)) | exact fun _ => Or.inr (Or.inr (Or.inr (Or.inl ⟨by omega, by omega, by omega⟩))) | exact fun _ => Or.inr (Or.inr (Or.inr (Or.inr ⟨by omega, by omega⟩))) | exact fun h_9 => absurd h_9 (by assumption))) [] (by decide) rfl (Nat.le_of_ble_eq_true rfl) (Nat.le_of_ble_eq_true rfl)
        · skip
          have k25 : (Int32.toInt x0) = 29 := (fa_eq x0 29).mp c7
          refine r_iload_n 15 1 C dX11_wholeNumber_15 rfl ?_
          exact r_iret 16 Rt dX11_wholeNumber_16 () (show CND (((Int32.toInt x0) = 29 ∨ (0 ≤ (Int32.toInt x1) ∧ (Int32.toInt x1) ≤ 65535)) ∧ -1 ≤ (Int32.toInt x0) ∧ (Int32.toInt x0) ≤ 255) (WHO (Int32.toInt x0) (Int32.toInt x1) (Int32.toInt x1)) from (by first | exact fun _ => Or.inl ⟨by omega, s16_of (by assumption) (by omega) (by omega)⟩ | exact fun _ => Or.inr (Or.inl ⟨by omega, rfl⟩) | exact fun _ => Or.inr (Or.inr (Or.inl ⟨by omega, by omega, by omega, by omega⟩)) | exact fun _ => Or.inr (Or.inr (Or.inr (Or.inl ⟨by omega, by omega, by omega⟩))) | exact fun _ => Or.inr (Or.inr (Or.inr (Or.inr ⟨by omega, by omega⟩))) | exact fun h_9 => absurd h_9 (by assumption))) [] (by decide) rfl (Nat.le_of_ble_eq_true rfl) (Nat.le_of_ble_eq_true rfl)
      · skip
        have k26 : (Int32.toInt x0) = 28 := (fa_eq x0 28).mp c5
        refine r_iload_n 6 1 C dX11_wholeNumber_6 rfl ?_
        obtain ⟨z27, ez27⟩ : ∃ z_9, (Int32.toInt16 x1).toInt32 = z_9 := ⟨_, rfl⟩
        have gz27 := fb_rng z27
        refine r_i2s 7 z27 C dX11_wholeNumber_7 ez27 ?_
        exact r_iret 8 Rt dX11_wholeNumber_8 () (show CND (((Int32.toInt x0) = 29 ∨ (0 ≤ (Int32.toInt x1) ∧ (Int32.toInt x1) ≤ 65535)) ∧ -1 ≤ (Int32.toInt x0) ∧ (Int32.toInt x0) ≤ 255) (WHO (Int32.toInt x0) (Int32.toInt x1) (Int32.toInt z27)) from (by first | exact fun _ => Or.inl ⟨by omega, s16_of (by assumption) (by omega) (by omega)⟩ | exact fun _ => Or.inr (Or.inl ⟨by omega, rfl⟩) | exact fun _ => Or.inr (Or.inr (Or.inl ⟨by omega, by omega, by omega, by omega⟩)) | exact fun _ => Or.inr (Or.inr (Or.inr (Or.inl ⟨by omega, by omega, by omega⟩))) | exact fun _ => Or.inr (Or.inr (Or.inr (Or.inr ⟨by omega, by omega⟩))) | exact fun h_9 => absurd h_9 (by assumption))) [] (by decide) rfl (Nat.le_of_ble_eq_true rfl) (Nat.le_of_ble_eq_true rfl)
  · skip
    refine r_iload_n 0 0 C dX11_wholeNumber_0 rfl ?_
    refine r_bipush 1 28 C dX11_wholeNumber_1 (by decide) ?_
    refine r_icmp_ne 3 9 C dX11_wholeNumber_3 (by decide) (fun c28 => ?_) (fun c28 => ?_)
    · skip
      have k29 : ¬ ((Int32.toInt x0) = 28) := fun h_9 => c28 ((fa_eq x0 28).mpr h_9)
      refine r_iload_n 9 0 C dX11_wholeNumber_9 rfl ?_
      refine r_bipush 10 29 C dX11_wholeNumber_10 (by decide) ?_
      refine r_icmp_ne 12 17 C dX11_wholeNumber_12 (by decide) (fun c30 => ?_) (fun c30 => ?_)
      · skip
        have k31 : ¬ ((Int32.toInt x0) = 29) := fun h_9 => c30 ((fa_eq x0 29).mpr h_9)
        refine r_iload_n 17 0 C dX11_wholeNumber_17 rfl ?_
        refine r_sipush 18 246 C dX11_wholeNumber_18 (by decide) ?_
        refine r_icmp_gt 21 30 C dX11_wholeNumber_21 (by decide) (fun c32 => ?_) (fun c32 => ?_)
        · skip
          have k33 : 246 < (Int32.toInt x0) := (fa_lt 246 x0).mp c32
          refine r_iload_n 30 0 C dX11_wholeNumber_30 rfl ?_
          refine r_sipush 31 250 C dX11_wholeNumber_31 (by decide) ?_
          refine r_icmp_gt 34 52 C dX11_wholeNumber_34 (by decide) (fun c34 => ?_) (fun c34 => ?_)
          · skip
            have k35 : 250 < (Int32.toInt x0) := (fa_lt 250 x0).mp c34
            refine r_iload_n 52 0 C dX11_wholeNumber_52 rfl ?_
            refine r_sipush 53 251 C dX11_wholeNumber_53 (by decide) ?_
            obtain ⟨z36, ez36⟩ : ∃ z_9, x0 - 251 = z_9 := ⟨_, rfl⟩
            have tz36 : (Int32.toInt z36) = (Int32.toInt x0) - 251 := by rw [← ez36]; exact fb_subI (by show -2147483648 ≤ (Int32.toInt x0) - 251; omega) (by show (Int32.toInt x0) - 251 < 2147483648; omega)
            refine r_isub 56 z36 C dX11_wholeNumber_56 ez36 ?_
            obtain ⟨z37, ez37⟩ : ∃ z_9, -z36 = z_9 := ⟨_, rfl⟩
            have tz37 : (Int32.toInt z37) = -(Int32.toInt z36) := by rw [← ez37]; exact neg_in (by omega)
            refine r_ineg 57 z37 C dX11_wholeNumber_57 ez37 ?_
            refine r_sipush 58 256 C dX11_wholeNumber_58 (by decide) ?_
            obtain ⟨z38, ez38⟩ : ∃ z_9, z37 * 256 = z_9 := ⟨_, rfl⟩
            have gz38 := fb_rng z38
            refine r_imul 61 z38 C dX11_wholeNumber_61 ez38 ?_
            refine r_iload_n 62 1 C dX11_wholeNumber_62 rfl ?_
            obtain ⟨z39, ez39⟩ : ∃ z_9, z38 - x1 = z_9 := ⟨_, rfl⟩
            have gz39 := fb_rng z39
            refine r_isub 63 z39 C dX11_wholeNumber_63 ez39 ?_
            refine r_bipush 64 108 C dX11_wholeNumber_64 (by decide) ?_
            obtain ⟨z40, ez40⟩ : ∃ z_9, z39 - 108 = z_9 := ⟨_, rfl⟩
            have gz40 := fb_rng z40
            refine r_isub 66 z40 C dX11_wholeNumber_66 ez40 ?_
            exact r_iret 67 Rt dX11_wholeNumber_67 () (show CND (((Int32.toInt x0) = 29 ∨ (0 ≤ (Int32.toInt x1) ∧ (Int32.toInt x1) ≤ 65535)) ∧ -1 ≤ (Int32.toInt x0) ∧ (Int32.toInt x0) ≤ 255) (WHO (Int32.toInt x0) (Int32.toInt x1) (Int32.toInt z40)) from (by first | exact fun _ => Or.inl ⟨by omega, s16_of (by assumption) (by omega) (by omega)⟩ | exact fun _ => Or.inr (Or.inl ⟨by omega, rfl⟩) | exact fun _ => Or.inr (Or.inr (Or.inl ⟨by omega, by omega, by omega, by omega⟩)) | exact fun _ => Or.inr (Or.inr (Or.inr (Or.inl ⟨by omega, by omega, by omega⟩))) | exact fun _ => Or.inr (Or.inr (Or.inr (Or.inr ⟨by omega, by omega⟩))) | exact fun h_9 => absurd h_9 (by assumption))) [] (by decide) rfl (Nat.le_of_ble_eq_true rfl) (Nat.le_of_ble_eq_true rfl)
          · skip
            have k41 : ¬ (250 < (Int32.toInt x0)) := fun h_9 => c34 ((fa_lt 250 x0).mpr h_9)
            refine r_iload_n 37 0 C dX11_wholeNumber_37 rfl ?_
            refine r_sipush 38 247 C dX11_wholeNumber_38 (by decide) ?_
            obtain ⟨z42, ez42⟩ : ∃ z_9, x0 - 247 = z_9 := ⟨_, rfl⟩
            have tz42 : (Int32.toInt z42) = (Int32.toInt x0) - 247 := by rw [← ez42]; exact fb_subI (by show -2147483648 ≤ (Int32.toInt x0) - 247; omega) (by show (Int32.toInt x0) - 247 < 2147483648; omega)
            refine r_isub 41 z42 C dX11_wholeNumber_41 ez42 ?_
            refine r_sipush 42 256 C dX11_wholeNumber_42 (by decide) ?_
            obtain ⟨z43, ez43⟩ : ∃ z_9, z42 * 256 = z_9 := ⟨_, rfl⟩
            have tz43 : (Int32.toInt z43) = (Int32.toInt z42) * 256 := by rw [← ez43]; exact fb_mulI (by show -2147483648 ≤ (Int32.toInt z42) * 256; omega) (by show (Int32.toInt z42) * 256 < 2147483648; omega)
            refine r_imul 45 z43 C dX11_wholeNumber_45 ez43 ?_
            refine r_iload_n 46 1 C dX11_wholeNumber_46 rfl ?_
            obtain ⟨z44, ez44⟩ : ∃ z_9, z43 + x1 = z_9 := ⟨_, rfl⟩
            have gz44 := fb_rng z44
            refine r_iadd 47 z44 C dX11_wholeNumber_47 ez44 ?_
            refine r_bipush 48 108 C dX11_wholeNumber_48 (by decide) ?_
            obtain ⟨z45, ez45⟩ : ∃ z_9, z44 + 108 = z_9 := ⟨_, rfl⟩
            have gz45 := fb_rng z45
            refine r_iadd 50 z45 C dX11_wholeNumber_50 ez45 ?_
            exact r_iret 51 Rt dX11_wholeNumber_51 () (show CND (((Int32.toInt x0) = 29 ∨ (0 ≤ (Int32.toInt x1) ∧ (Int32.toInt x1) ≤ 65535)) ∧ -1 ≤ (Int32.toInt x0) ∧ (Int32.toInt x0) ≤ 255) (WHO (Int32.toInt x0) (Int32.toInt x1) (Int32.toInt z45)) from (by first | exact fun _ => Or.inl ⟨by omega, s16_of (by assumption) (by omega) (by omega)⟩ | exact fun _ => Or.inr (Or.inl ⟨by omega, rfl⟩) | exact fun _ => Or.inr (Or.inr (Or.inl ⟨by omega, by omega, by omega, by omega⟩)) | exact fun _ => Or.inr (Or.inr (Or.inr (Or.inl ⟨by omega, by omega, by omega⟩))) | exact fun _ => Or.inr (Or.inr (Or.inr (Or.inr ⟨by omega, by omega⟩))) | exact fun h_9 => absurd h_9 (by assumption))) [] (by decide) rfl (Nat.le_of_ble_eq_true rfl) (Nat.le_of_ble_eq_true rfl)
        · skip
          have k46 : ¬ (246 < (Int32.toInt x0)) := fun h_9 => c32 ((fa_lt 246 x0).mpr h_9)
          refine r_iload_n 24 0 C dX11_wholeNumber_24 rfl ?_
          refine r_sipush 25 139 C dX11_wholeNumber_25 (by decide) ?_
          obtain ⟨z47, ez47⟩ : ∃ z_9, x0 - 139 = z_9 := ⟨_, rfl⟩
          have gz47 := fb_rng z47
          refine r_isub 28 z47 C dX11_wholeNumber_28 ez47 ?_
          exact r_iret 29 Rt dX11_wholeNumber_29 () (show CND (((Int32.toInt x0) = 29 ∨ (0 ≤ (Int32.toInt x1) ∧ (Int32.toInt x1) ≤ 65535)) ∧ -1 ≤ (Int32.toInt x0) ∧ (Int32.toInt x0) ≤ 255) (WHO (Int32.toInt x0) (Int32.toInt x1) (Int32.toInt z47)) from (by first | exact fun _ => Or.inl ⟨by omega, s16_of (by assumption) (by omega) (by omega)⟩ | exact fun _ => Or.inr (Or.inl ⟨by omega, rfl⟩) | exact fun _ => Or.inr (Or.inr (Or.inl ⟨by omega, by omega, by omega, by omega⟩)) | exact fun _ => Or.inr (Or.inr (Or.inr (Or.inl ⟨by omega, by omega, by omega⟩))) | exact fun _ => Or.inr (Or.inr (Or.inr (Or.inr ⟨by omega, by omega⟩))) | exact fun h_9 => absurd h_9 (by assumption))) [] (by decide) rfl (Nat.le_of_ble_eq_true rfl) (Nat.le_of_ble_eq_true rfl)
      · skip
        have k48 : (Int32.toInt x0) = 29 := (fa_eq x0 29).mp c30
        refine r_iload_n 15 1 C dX11_wholeNumber_15 rfl ?_
        exact r_iret 16 Rt dX11_wholeNumber_16 () (show CND (((Int32.toInt x0) = 29 ∨ (0 ≤ (Int32.toInt x1) ∧ (Int32.toInt x1) ≤ 65535)) ∧ -1 ≤ (Int32.toInt x0) ∧ (Int32.toInt x0) ≤ 255) (WHO (Int32.toInt x0) (Int32.toInt x1) (Int32.toInt x1)) from (by first | exact fun _ => Or.inl ⟨by omega, s16_of (by assumption) (by omega) (by omega)⟩ | exact fun _ => Or.inr (Or.inl ⟨by omega, rfl⟩) | exact fun _ => Or.inr (Or.inr (Or.inl ⟨by omega, by omega, by omega, by omega⟩)) | exact fun _ => Or.inr (Or.inr (Or.inr (Or.inl ⟨by omega, by omega, by omega⟩))) | exact fun _ => Or.inr (Or.inr (Or.inr (Or.inr ⟨by omega, by omega⟩))) | exact fun h_9 => absurd h_9 (by assumption))) [] (by decide) rfl (Nat.le_of_ble_eq_true rfl) (Nat.le_of_ble_eq_true rfl)
    · skip
      have k49 : (Int32.toInt x0) = 28 := (fa_eq x0 28).mp c28
      refine r_iload_n 6 1 C dX11_wholeNumber_6 rfl ?_
      obtain ⟨z50, ez50⟩ : ∃ z_9, (Int32.toInt16 x1).toInt32 = z_9 := ⟨_, rfl⟩
      have gz50 := fb_rng z50
      refine r_i2s 7 z50 C dX11_wholeNumber_7 ez50 ?_
      exact r_iret 8 Rt dX11_wholeNumber_8 () (show CND (((Int32.toInt x0) = 29 ∨ (0 ≤ (Int32.toInt x1) ∧ (Int32.toInt x1) ≤ 65535)) ∧ -1 ≤ (Int32.toInt x0) ∧ (Int32.toInt x0) ≤ 255) (WHO (Int32.toInt x0) (Int32.toInt x1) (Int32.toInt z50)) from (by first | exact fun _ => Or.inl ⟨by omega, s16_of (by assumption) (by omega) (by omega)⟩ | exact fun _ => Or.inr (Or.inl ⟨by omega, rfl⟩) | exact fun _ => Or.inr (Or.inr (Or.inl ⟨by omega, by omega, by omega, by omega⟩)) | exact fun _ => Or.inr (Or.inr (Or.inr (Or.inl ⟨by omega, by omega, by omega⟩))) | exact fun _ => Or.inr (Or.inr (Or.inr (Or.inr ⟨by omega, by omega⟩))) | exact fun h_9 => absurd h_9 (by assumption))) [] (by decide) rfl (Nat.le_of_ble_eq_true rfl) (Nat.le_of_ble_eq_true rfl)
set_option maxHeartbeats 4000000 in
set_option maxRecDepth 100000 in
theorem c67_X2_add (l : Launch) (g : GD) (h0 : Nat) (h1 : Nat) (x0 : Int32) (x1 : Int32) (x2 : Int32) (h2 : Nat) (h3 : Nat) (h4 : Nat) (fn0 : Nat → Int32) (i_x1 : (0 ≤ (Int32.toInt x1) ∧ (Int32.toInt x1) ≤ 48)) (i_x2 : (0 ≤ (Int32.toInt x2) ∧ (Int32.toInt x2) ≤ 1)) (sz : Nat) : Met l yX2_add wsX2_add ({ frames := 1, cells := 0, slots := 0, locals := 20 }) (va_Pc [.ref h0, .int x0] (PW g [(h0, .inr (2, [.ref h1, .int x1, .int x2, .ref h2, .ref h3, .ref h4])), (h1, .inl (gI g, 48, .inl fn0))] sz)) (va_Qv (fun (u : (Int32) × (Nat → Int32)) => 0 ≤ (Int32.toInt (u.1)) ∧ (Int32.toInt (u.1)) ≤ 48 ∧ CND ((Int32.toInt x1) < 48) ((NZ (Int32.toInt (u.1)) 0 ((u.2) 0)) = (if (Int32.toInt x1) = 0 then (Int32.toInt x0) else (NZ (Int32.toInt x1) 0 (fn0 0))) ∧ (NZ (Int32.toInt (u.1)) 1 ((u.2) 1)) = (if (Int32.toInt x1) = 1 then (Int32.toInt x0) else (NZ (Int32.toInt x1) 1 (fn0 1)))) ∧ (((Int32.toInt x1) < 48 ∧ (Int32.toInt (u.1)) = (Int32.toInt x1) + 1) ∨ (48 ≤ (Int32.toInt x1) ∧ (Int32.toInt (u.1)) = (Int32.toInt x1)))) (BW g (va_A [(h0, .inr (2, [.ref h1, .int x1, .int x2, .ref h2, .ref h3, .ref h4])), (h1, .inl (gI g, 48, .inl fn0))] sz) (fun u : (Int32) × (Nat → Int32) => [(h0, .inr (2, [.ref h1, .int u.1, .int x2, .ref h2, .ref h3, .ref h4])), (h1, .inl (gI g, 48, .inl u.2))])) (va_A [(h0, .inr (2, [.ref h1, .int x1, .int x2, .ref h2, .ref h3, .ref h4])), (h1, .inl (gI g, 48, .inl fn0))] sz)) 0 0 (va_A [(h0, .inr (2, [.ref h1, .int x1, .int x2, .ref h2, .ref h3, .ref h4])), (h1, .inl (gI g, 48, .inl fn0))] sz) := by
  refine met_v RX2 (by decide) rfl rfl (Nat.le_of_ble_eq_true rfl) [(0, .ref h0), (1, .int x0)] rfl ?_
  intro p e s m args below meth c A Q C hnm Rt
  have gx0 := fb_rng x0
  have hiX2 : ∀ w ∈ wsX20, w ∈ wsX2_add := fun w h => List.mem_cons_of_mem _ (List.mem_append_right _ (h))
  refine r_aload_n 0 0 C dX2_add_0 rfl ?_
  refine r_callVi 1 C dX2_add_1 [] [(h0, .inr (2, [.ref h1, .int x1, .int x2, .ref h2, .ref h3, .ref h4]))] [(h1, .inl (gI g, 48, .inl fn0))] (fun sz => c63_X2_isFull l g h0 h1 x1 x2 h2 h3 h4 i_x1 i_x2 sz) gX2_add_X2_isFull rfl ⟨rfl, rfl⟩ 0 (by decide) ⟨Nat.le_of_ble_eq_true rfl, Nat.le_of_ble_eq_true rfl⟩ 0 rfl rfl [0] [1] rfl rfl (by decide) (by decide) (by decide) rfl rfl (Nat.le_of_ble_eq_true rfl) ⟨Nat.le_of_ble_eq_true rfl, Nat.le_of_ble_eq_true rfl⟩ (fun r1 _ w2 => ?_)
  refine r_ws [(h1, .inl (gI g, 48, .inl fn0)), (h0, .inr (2, [.ref h1, .int x1, .int x2, .ref h2, .ref h3, .ref h4]))] rfl ?_
  have w3 : (((Int32.toInt x1) < 48 ∧ r1 = 0) ∨ (¬ ((Int32.toInt x1) < 48) ∧ r1 = 1)) := w2
  rcases w3 with ⟨k4, k5⟩ | w3
  · skip
    have k5 := k5.symm
    subst k5
    refine r_if_ne_f 4 27 C dX2_add_4 (by decide) (by decide) ?_
    refine r_aload_n 7 0 C dX2_add_7 rfl ?_
    refine r_get 8 C dX2_add_8 (k := 0) 1 rfl rfl hiX2 (by decide) rfl (mg 1 rfl) (Or.inl rfl) rfl ?_
    refine r_aload_n 11 0 C dX2_add_11 rfl ?_
    refine r_get 12 C dX2_add_12 (k := 1) 1 rfl rfl hiX2 (by decide) rfl (mg 2 rfl) (Or.inl rfl) rfl ?_
    refine r_iload_n 15 1 C dX2_add_15 rfl ?_
    obtain ⟨f6, ef6⟩ : ∃ f_9, upd fn0 (Int32.toNatClampNeg x1) x0 = f_9 := ⟨_, rfl⟩
    refine r_iast 16 C dX2_add_16 0 rfl (vinI (by omega) (by omega)) f6 ef6 [(h1, .inl (gI g, 48, .inl f6)), (h0, .inr (2, [.ref h1, .int x1, .int x2, .ref h2, .ref h3, .ref h4]))] rfl ?_
    refine r_aload_n 17 0 C dX2_add_17 rfl ?_
    refine r_dup 18 C dX2_add_18 rfl ?_
    refine r_get 19 C dX2_add_19 (k := 1) 1 rfl rfl hiX2 (by decide) rfl (mg 2 rfl) (Or.inl rfl) rfl ?_
    refine r_iconst 22 1 C dX2_add_22 (by decide) ?_
    obtain ⟨z7, ez7⟩ : ∃ z_9, x1 + 1 = z_9 := ⟨_, rfl⟩
    have tz7 : (Int32.toInt z7) = (Int32.toInt x1) + 1 := by rw [← ez7]; exact fb_addIv (a := 0) (b := 48) (c := 1) (d := 1) i_x1 ⟨by decide, by decide⟩ (by decide) (by decide)
    refine r_iadd 23 z7 C dX2_add_23 ez7 ?_
    refine r_put 24 C dX2_add_24 (k := 1) 1 rfl rfl hiX2 tyX2 tyX2_ok nmX2 (by decide) rfl (mg 2 rfl) (Or.inl rfl) rfl rfl rfl rfl (Nat.le_of_ble_eq_true rfl) [(h1, .inl (gI g, 48, .inl f6)), (h0, .inr (2, [.ref h1, .int z7, .int x2, .ref h2, .ref h3, .ref h4]))] rfl ?_
    exact r_vret 27 Rt dX2_add_27 (z7, f6) (show 0 ≤ (Int32.toInt z7) ∧ (Int32.toInt z7) ≤ 48 ∧ CND ((Int32.toInt x1) < 48) ((NZ (Int32.toInt z7) 0 (f6 0)) = (if (Int32.toInt x1) = 0 then (Int32.toInt x0) else (NZ (Int32.toInt x1) 0 (fn0 0))) ∧ (NZ (Int32.toInt z7) 1 (f6 1)) = (if (Int32.toInt x1) = 1 then (Int32.toInt x0) else (NZ (Int32.toInt x1) 1 (fn0 1)))) ∧ (((Int32.toInt x1) < 48 ∧ (Int32.toInt z7) = (Int32.toInt x1) + 1) ∨ (48 ≤ (Int32.toInt x1) ∧ (Int32.toInt z7) = (Int32.toInt x1))) from ⟨(by ((repeat' apply And.intro) <;> first | trivial | rfl | assumption | omega | decide | exact Or.inl rfl | exact Or.inr (Or.inl rfl) | exact Or.inr (Or.inr rfl))), (by ((repeat' apply And.intro) <;> first | trivial | rfl | assumption | omega | decide | exact Or.inl rfl | exact Or.inr (Or.inl rfl) | exact Or.inr (Or.inr rfl))), (by exact fun _ => nz_add (kk := x1) rfl (by omega) ef6 (by omega)), (by ((repeat' apply And.intro) <;> first | trivial | rfl | assumption | omega | decide | exact Or.inl rfl | exact Or.inr (Or.inl rfl) | exact Or.inr (Or.inr rfl)))⟩) [1, 0] (by decide) rfl (Nat.le_of_ble_eq_true rfl) (Nat.le_of_ble_eq_true rfl)
  obtain ⟨k8, k9⟩ := w3
  have k9 := k9.symm
  subst k9
  refine r_if_ne_t 4 27 C dX2_add_4 (by decide) (by decide) ?_
  exact r_vret 27 Rt dX2_add_27 (x1, fn0) (show 0 ≤ (Int32.toInt x1) ∧ (Int32.toInt x1) ≤ 48 ∧ CND ((Int32.toInt x1) < 48) ((NZ (Int32.toInt x1) 0 (fn0 0)) = (if (Int32.toInt x1) = 0 then (Int32.toInt x0) else (NZ (Int32.toInt x1) 0 (fn0 0))) ∧ (NZ (Int32.toInt x1) 1 (fn0 1)) = (if (Int32.toInt x1) = 1 then (Int32.toInt x0) else (NZ (Int32.toInt x1) 1 (fn0 1)))) ∧ (((Int32.toInt x1) < 48 ∧ (Int32.toInt x1) = (Int32.toInt x1) + 1) ∨ (48 ≤ (Int32.toInt x1) ∧ (Int32.toInt x1) = (Int32.toInt x1))) from ⟨i_x1.1, i_x1.2, (by exact fun h_9 => absurd h_9 (by omega)), (by ((repeat' apply And.intro) <;> first | trivial | rfl | assumption | omega | decide | exact Or.inl rfl | exact Or.inr (Or.inl rfl) | exact Or.inr (Or.inr rfl)))⟩) [1, 0] (by decide) rfl (Nat.le_of_ble_eq_true rfl) (Nat.le_of_ble_eq_true rfl)
set_option maxHeartbeats 4000000 in
set_option maxRecDepth 100000 in
theorem c68_X1_takeReal (l : Launch) (g : GD) (h0 : Nat) (h1 : Nat) (h2 : Nat) (h3 : Nat) (h4 : Nat) (x0 : Int32) (y0 : Int64) (y1 : Int64) (x1 : Int32) (x2 : Int32) (y2 : Int64) (y3 : Int64) (x3 : Int32) (fn0 : Nat → Int32) (i_x0 : (0 ≤ (Int32.toInt x0) ∧ (Int32.toInt x0) ≤ 2)) (i_y0 : (-8589934592 ≤ (Int64.toInt y0) ∧ (Int64.toInt y0) ≤ 8589934592)) (i_x1 : (-257 ≤ (Int32.toInt x1) ∧ (Int32.toInt x1) ≤ 65535)) (i_x2 : (-1 ≤ (Int32.toInt x2) ∧ (Int32.toInt x2) ≤ 255)) (i_y2 : (-8589934592 ≤ (Int64.toInt y2) ∧ (Int64.toInt y2) ≤ 8589934592)) (i_y3 : (-8589934592 ≤ (Int64.toInt y3) ∧ (Int64.toInt y3) ≤ 8589934592)) (i_x3 : (0 ≤ (Int32.toInt x3) ∧ (Int32.toInt x3) ≤ 1500)) (sz : Nat) : Met l yX1_takeReal wsX1_takeReal ({ frames := 2, cells := 0, slots := 0, locals := 43 }) (va_Pc [.ref h0] (PW g [(h0, .inr (1, [.ref h3, .ref h4, .ref h1, .int x0, .long y0, .long y1, .int x1, .int x2, .long y2, .long y3])), (h1, .inr (4, [.ref h2, .int x3])), (h2, .inl (gB g, 1500, .inl fn0))] sz)) (va_Qv (fun (u : (Int32) × (Int64)) => 0 ≤ (Int32.toInt (u.1)) ∧ (Int32.toInt (u.1)) ≤ 2 ∧ -8589934592 ≤ (Int64.toInt (u.2)) ∧ (Int64.toInt (u.2)) ≤ 8589934592 ∧ CND ((Int64.toInt y1) ≤ (Int32.toInt x3) ∧ 0 ≤ (Int64.toInt y0)) (SEQ (Int32.toInt x0) (Int32.toInt (u.1)) (REAL (GB fn0 (Int32.toInt x3)) (Int64.toInt y1) (Int64.toInt y0)) (fun v => v = (Int64.toInt (u.2)))) ∧ (¬ ((Int32.toInt (u.1)) = 0) ∨ ((Int32.toInt x0) = 0 ∧ (Int64.toInt y0) < (Int64.toInt (u.2)) ∧ (Int64.toInt (u.2)) ≤ (Int32.toInt x3) ∧ 0 ≤ (Int64.toInt y0)))) (BW g (va_A [(h0, .inr (1, [.ref h3, .ref h4, .ref h1, .int x0, .long y0, .long y1, .int x1, .int x2, .long y2, .long y3])), (h1, .inr (4, [.ref h2, .int x3])), (h2, .inl (gB g, 1500, .inl fn0))] sz) (fun u : (Int32) × (Int64) => [(h0, .inr (1, [.ref h3, .ref h4, .ref h1, .int u.1, .long u.2, .long y1, .int x1, .int x2, .long y2, .long y3])), (h1, .inr (4, [.ref h2, .int x3])), (h2, .inl (gB g, 1500, .inl fn0))])) (va_A [(h0, .inr (1, [.ref h3, .ref h4, .ref h1, .int x0, .long y0, .long y1, .int x1, .int x2, .long y2, .long y3])), (h1, .inr (4, [.ref h2, .int x3])), (h2, .inl (gB g, 1500, .inl fn0))] sz)) 0 0 (va_A [(h0, .inr (1, [.ref h3, .ref h4, .ref h1, .int x0, .long y0, .long y1, .int x1, .int x2, .long y2, .long y3])), (h1, .inr (4, [.ref h2, .int x3])), (h2, .inl (gB g, 1500, .inl fn0))] sz) := by
  refine met_v RX1 (by decide) rfl rfl (Nat.le_of_ble_eq_true rfl) [(0, .ref h0)] rfl ?_
  intro p e s m args below meth c A Q C hnm Rt
  have gy1 := fb_rngL y1
  have hiX1 : ∀ w ∈ wsX10, w ∈ wsX1_takeReal := fun w h => List.mem_cons_of_mem _ (List.mem_append_left _ (List.mem_append_right _ (h)))
  refine r_iconst 0 1 C dX1_takeReal_0 (by decide) ?_
  refine r_istore_n 1 C dX1_takeReal_1 [(1, .int 1), (0, .ref h0)] (by decide) rfl ?_
  refine r_iconst 2 0 C dX1_takeReal_2 (by decide) ?_
  refine r_istore_n 3 C dX1_takeReal_3 [(2, .int 0), (1, .int 1), (0, .ref h0)] (by decide) rfl ?_
  have lp6 : ∀ (n5 : Nat) (z1 : Int32) (z2 : Int32) (z3 : Int32) (z4 : Int64), (0 ≤ (Int32.toInt z1) ∧ (Int32.toInt z1) ≤ 1501) → (0 ≤ (Int32.toInt z2) ∧ (Int32.toInt z2) ≤ 1) → (0 ≤ (Int32.toInt z3) ∧ (Int32.toInt z3) ≤ 2) → (-8589934592 ≤ (Int64.toInt z4) ∧ (Int64.toInt z4) ≤ 8589934592) → ((¬ ((Int32.toInt z3) = 0) ∨ ((Int32.toInt x0) = 0 ∧ (Int64.toInt z4) = (Int64.toInt y0) + (Int32.toInt z1) ∧ ((Int32.toInt z1) = 0 ∨ (0 ≤ (Int64.toInt y0) ∧ (Int64.toInt z4) ≤ (Int32.toInt x3))) ∧ ((Int32.toInt z2) = 1 ∨ 1 ≤ (Int32.toInt z1))))) → (CND ((Int64.toInt y1) ≤ (Int32.toInt x3) ∧ 0 ≤ (Int64.toInt y0)) (LPQ (Int32.toInt x0) (Int32.toInt z3) (REAL (GB fn0 (Int32.toInt x3)) (Int64.toInt y1) (Int64.toInt y0)) (RLX (GB fn0 (Int32.toInt x3)) (Int64.toInt y1) (Int32.toInt z2) (Int64.toInt z4)) True)) → Int.toNat (1501 - (Int32.toInt z1)) < n5 → WW p l e ({ frames := 2, cells := 0, slots := 0, locals := 43 } : Room) s m args below meth c A Q g 6 0 0 [(h0, .inr (1, [.ref h3, .ref h4, .ref h1, .int z3, .long z4, .long y1, .int x1, .int x2, .long y2, .long y3])), (h1, .inr (4, [.ref h2, .int x3])), (h2, .inl (gB g, 1500, .inl fn0))] 4 [(2, .int z1), (1, .int z2), (0, .ref h0)] [] := by
    intro n5
    induction n5 with
    | zero => intro z1 z2 z3 z4 i9 i10 i11 i12 j13 j14 hm8; exact absurd hm8 (Nat.not_lt_zero _)
    | succ n5 ih7 =>
      intro z1 z2 z3 z4 i9 i10 i11 i12 j13 j14 hm8
      obtain ⟨i9a, i9b⟩ := i9
      obtain ⟨i10a, i10b⟩ := i10
      obtain ⟨i11a, i11b⟩ := i11
      obtain ⟨i12a, i12b⟩ := i12
      refine r_iload_n 4 0 C dX1_takeReal_4 rfl ?_
      refine r_sipush 5 1500 C dX1_takeReal_5 (by decide) ?_
      refine r_icmp_gt 8 94 C dX1_takeReal_8 (by decide) (fun c15 => ?_) (fun c15 => ?_)
      · skip
        have k16 : 1500 < (Int32.toInt z1) := (fa_lt 1500 z1).mp c15
        exact r_vret 94 Rt dX1_takeReal_94 (z3, z4) (show 0 ≤ (Int32.toInt z3) ∧ (Int32.toInt z3) ≤ 2 ∧ -8589934592 ≤ (Int64.toInt z4) ∧ (Int64.toInt z4) ≤ 8589934592 ∧ CND ((Int64.toInt y1) ≤ (Int32.toInt x3) ∧ 0 ≤ (Int64.toInt y0)) (SEQ (Int32.toInt x0) (Int32.toInt z3) (REAL (GB fn0 (Int32.toInt x3)) (Int64.toInt y1) (Int64.toInt y0)) (fun v => v = (Int64.toInt z4))) ∧ (¬ ((Int32.toInt z3) = 0) ∨ ((Int32.toInt x0) = 0 ∧ (Int64.toInt y0) < (Int64.toInt z4) ∧ (Int64.toInt z4) ≤ (Int32.toInt x3) ∧ 0 ≤ (Int64.toInt y0))) from ⟨(show _ ∧ _ from ⟨i11a, i11b⟩).1, (show _ ∧ _ from ⟨i11a, i11b⟩).2, (show _ ∧ _ from ⟨i12a, i12b⟩).1, (show _ ∧ _ from ⟨i12a, i12b⟩).2, (by exact fun h_7 => real_end ((show CND ((Int64.toInt y1) ≤ (Int32.toInt x3) ∧ 0 ≤ (Int64.toInt y0)) (LPQ (Int32.toInt x0) (Int32.toInt z3) (REAL (GB fn0 (Int32.toInt x3)) (Int64.toInt y1) (Int64.toInt y0)) (RLX (GB fn0 (Int32.toInt x3)) (Int64.toInt y1) (Int32.toInt z2) (Int64.toInt z4)) True) by assumption) h_7) (by omega)), (by ((repeat' apply And.intro) <;> first | trivial | rfl | assumption | omega | decide | exact Or.inl rfl | exact Or.inr (Or.inl rfl) | exact Or.inr (Or.inr rfl)))⟩) [0, 1, 2] (by decide) rfl (Nat.le_of_ble_eq_true rfl) (Nat.le_of_ble_eq_true rfl)
      · skip
        have k17 : ¬ (1500 < (Int32.toInt z1)) := fun h_9 => c15 ((fa_lt 1500 z1).mpr h_9)
        refine r_iload_n 11 1 C dX1_takeReal_11 rfl ?_
        refine r_if_eq 12 94 C dX1_takeReal_12 (by decide) (fun c18 => ?_) (fun c18 => ?_)
        · skip
          have k19 : (Int32.toInt z2) = 0 := (fa_eq z2 0).mp c18
          exact r_vret 94 Rt dX1_takeReal_94 (z3, z4) (show 0 ≤ (Int32.toInt z3) ∧ (Int32.toInt z3) ≤ 2 ∧ -8589934592 ≤ (Int64.toInt z4) ∧ (Int64.toInt z4) ≤ 8589934592 ∧ CND ((Int64.toInt y1) ≤ (Int32.toInt x3) ∧ 0 ≤ (Int64.toInt y0)) (SEQ (Int32.toInt x0) (Int32.toInt z3) (REAL (GB fn0 (Int32.toInt x3)) (Int64.toInt y1) (Int64.toInt y0)) (fun v => v = (Int64.toInt z4))) ∧ (¬ ((Int32.toInt z3) = 0) ∨ ((Int32.toInt x0) = 0 ∧ (Int64.toInt y0) < (Int64.toInt z4) ∧ (Int64.toInt z4) ≤ (Int32.toInt x3) ∧ 0 ≤ (Int64.toInt y0))) from ⟨(show _ ∧ _ from ⟨i11a, i11b⟩).1, (show _ ∧ _ from ⟨i11a, i11b⟩).2, (show _ ∧ _ from ⟨i12a, i12b⟩).1, (show _ ∧ _ from ⟨i12a, i12b⟩).2, (by exact fun h_7 => real_end ((show CND ((Int64.toInt y1) ≤ (Int32.toInt x3) ∧ 0 ≤ (Int64.toInt y0)) (LPQ (Int32.toInt x0) (Int32.toInt z3) (REAL (GB fn0 (Int32.toInt x3)) (Int64.toInt y1) (Int64.toInt y0)) (RLX (GB fn0 (Int32.toInt x3)) (Int64.toInt y1) (Int32.toInt z2) (Int64.toInt z4)) True) by assumption) h_7) (by omega)), (by ((repeat' apply And.intro) <;> first | trivial | rfl | assumption | omega | decide | exact Or.inl rfl | exact Or.inr (Or.inl rfl) | exact Or.inr (Or.inr rfl)))⟩) [0, 1, 2] (by decide) rfl (Nat.le_of_ble_eq_true rfl) (Nat.le_of_ble_eq_true rfl)
        · skip
          have k20 : ¬ ((Int32.toInt z2) = 0) := fun h_9 => c18 ((fa_eq z2 0).mpr h_9)
          refine r_aload_n 15 2 C dX1_takeReal_15 rfl ?_
          refine r_get 16 C dX1_takeReal_16 (k := 3) 0 rfl rfl hiX1 (by decide) rfl (mg 1 rfl) (Or.inl rfl) rfl ?_
          refine r_if_ne 19 94 C dX1_takeReal_19 (by decide) (fun c21 => ?_) (fun c21 => ?_)
          · skip
            have k22 : ¬ ((Int32.toInt z3) = 0) := fun h_9 => c21 ((fa_eq z3 0).mpr h_9)
            exact r_vret 94 Rt dX1_takeReal_94 (z3, z4) (show 0 ≤ (Int32.toInt z3) ∧ (Int32.toInt z3) ≤ 2 ∧ -8589934592 ≤ (Int64.toInt z4) ∧ (Int64.toInt z4) ≤ 8589934592 ∧ CND ((Int64.toInt y1) ≤ (Int32.toInt x3) ∧ 0 ≤ (Int64.toInt y0)) (SEQ (Int32.toInt x0) (Int32.toInt z3) (REAL (GB fn0 (Int32.toInt x3)) (Int64.toInt y1) (Int64.toInt y0)) (fun v => v = (Int64.toInt z4))) ∧ (¬ ((Int32.toInt z3) = 0) ∨ ((Int32.toInt x0) = 0 ∧ (Int64.toInt y0) < (Int64.toInt z4) ∧ (Int64.toInt z4) ≤ (Int32.toInt x3) ∧ 0 ≤ (Int64.toInt y0))) from ⟨(show _ ∧ _ from ⟨i11a, i11b⟩).1, (show _ ∧ _ from ⟨i11a, i11b⟩).2, (show _ ∧ _ from ⟨i12a, i12b⟩).1, (show _ ∧ _ from ⟨i12a, i12b⟩).2, (by exact fun h_7 => real_end ((show CND ((Int64.toInt y1) ≤ (Int32.toInt x3) ∧ 0 ≤ (Int64.toInt y0)) (LPQ (Int32.toInt x0) (Int32.toInt z3) (REAL (GB fn0 (Int32.toInt x3)) (Int64.toInt y1) (Int64.toInt y0)) (RLX (GB fn0 (Int32.toInt x3)) (Int64.toInt y1) (Int32.toInt z2) (Int64.toInt z4)) True) by assumption) h_7) (by omega)), (by ((repeat' apply And.intro) <;> first | trivial | rfl | assumption | omega | decide | exact Or.inl rfl | exact Or.inr (Or.inl rfl) | exact Or.inr (Or.inr rfl)))⟩) [0, 1, 2] (by decide) rfl (Nat.le_of_ble_eq_true rfl) (Nat.le_of_ble_eq_true rfl)
          · skip
            have k23 : (Int32.toInt z3) = 0 := (fa_eq z3 0).mp c21
            refine r_aload_n 22 2 C dX1_takeReal_22 rfl ?_
            refine r_callVi 23 C dX1_takeReal_23 [] [(h0, .inr (1, [.ref h3, .ref h4, .ref h1, .int z3, .long z4, .long y1, .int x1, .int x2, .long y2, .long y3])), (h1, .inr (4, [.ref h2, .int x3])), (h2, .inl (gB g, 1500, .inl fn0))] [] (fun sz => c52_X1_take l g h0 h1 h2 h3 h4 z3 z4 y1 x1 x2 y2 y3 x3 fn0 ⟨i11a, i11b⟩ ⟨i12a, i12b⟩ i_x1 i_x2 i_y2 i_y3 i_x3 sz) gX1_takeReal_X1_take rfl ⟨rfl, rfl⟩ 0 (by decide) ⟨Nat.le_of_ble_eq_true rfl, Nat.le_of_ble_eq_true rfl⟩ 0 rfl rfl [0, 1, 2] [] rfl rfl (by decide) (by decide) (by decide) rfl rfl (Nat.le_of_ble_eq_true rfl) ⟨Nat.le_of_ble_eq_true rfl, Nat.le_of_ble_eq_true rfl⟩ (fun r26 u28 w27 => ?_)
            obtain ⟨z24, z25⟩ := u28
            refine r_ws [(h0, .inr (1, [.ref h3, .ref h4, .ref h1, .int z24, .long z25, .long y1, .int x1, .int x2, .long y2, .long y3])), (h1, .inr (4, [.ref h2, .int x3])), (h2, .inl (gB g, 1500, .inl fn0))] rfl ?_
            have p29 : -1 ≤ (Int32.toInt r26) := w27.1
            have p30 : (Int32.toInt r26) ≤ 255 := w27.2.1
            have p31 : 0 ≤ (Int32.toInt z24) := w27.2.2.1
            have p32 : (Int32.toInt z24) ≤ 2 := w27.2.2.2.1
            have p33 : -8589934592 ≤ (Int64.toInt z25) := w27.2.2.2.2.1
            have p34 : (Int64.toInt z25) ≤ 8589934592 := w27.2.2.2.2.2.1
            have p35 : SEQ (Int32.toInt z3) (Int32.toInt z24) (BYT (GB fn0 (Int32.toInt x3)) (Int32.toInt x3) (Int64.toInt y1) (Int64.toInt z4)) (fun v => v = (Int32.toInt r26) ∧ (Int64.toInt z25) = (Int64.toInt z4) + 1) := w27.2.2.2.2.2.2.1
            have p36 : (((Int32.toInt r26) = -1 ∧ 1 ≤ (Int32.toInt z24) ∧ (Int64.toInt z25) = (Int64.toInt z4)) ∨ ((Int32.toInt z3) = 0 ∧ (Int32.toInt z24) = 0 ∧ 0 ≤ (Int64.toInt z4) ∧ (Int64.toInt z4) < (Int32.toInt x3) ∧ (Int64.toInt z4) < (Int64.toInt y1) ∧ (Int64.toInt z25) = (Int64.toInt z4) + 1 ∧ 0 ≤ (Int32.toInt r26))) := w27.2.2.2.2.2.2.2
            rcases p36 with ⟨k37, k38, k39⟩ | p36
            · skip
              refine r_istore_n 26 C dX1_takeReal_26 [(3, .int r26), (2, .int z1), (1, .int z2), (0, .ref h0)] (by decide) rfl ?_
              refine r_iload_n 27 0 C dX1_takeReal_27 rfl ?_
              refine r_iconst 28 4 C dX1_takeReal_28 (by decide) ?_
              obtain ⟨z40, ez40⟩ : ∃ z_9, r26 >>> (4 &&& 31) = z_9 := ⟨_, rfl⟩
              have tz40 : (Int32.toInt z40) = (Int32.toInt r26) / 16 := by rw [← ez40]; exact shr_4 r26
              refine r_ishr 29 z40 C dX1_takeReal_29 ez40 ?_
              refine r_istore 30 C dX1_takeReal_30 [(4, .int z40), (3, .int r26), (2, .int z1), (1, .int z2), (0, .ref h0)] (by decide) rfl ?_
              refine r_iload_n 32 1 C dX1_takeReal_32 rfl ?_
              refine r_bipush 33 15 C dX1_takeReal_33 (by decide) ?_
              obtain ⟨z41, ez41⟩ : ∃ z_9, r26 &&& 15 = z_9 := ⟨_, rfl⟩
              have tz41 : 0 ≤ (Int32.toInt z41) ∧ (Int32.toInt z41) ≤ 15 := by rw [← ez41]; exact and_15 r26
              refine r_iand 35 z41 C dX1_takeReal_35 ez41 ?_
              refine r_istore 36 C dX1_takeReal_36 [(5, .int z41), (4, .int z40), (3, .int r26), (2, .int z1), (1, .int z2), (0, .ref h0)] (by decide) rfl ?_
              refine r_iload 38 1 C dX1_takeReal_38 rfl ?_
              refine r_bipush 40 15 C dX1_takeReal_40 (by decide) ?_
              refine r_icmp_eq_f 42 56 C dX1_takeReal_42 (by decide) (fun h_9 => by have h_8 : (Int32.toInt z40) = 15 := (fa_eq z40 15).mp h_9; omega) ?_
              refine r_iload 45 0 C dX1_takeReal_45 rfl ?_
              refine r_bipush 47 15 C dX1_takeReal_47 (by decide) ?_
              refine r_icmp_eq 49 56 C dX1_takeReal_49 (by decide) (fun c42 => ?_) (fun c42 => ?_)
              · skip
                have k43 : (Int32.toInt z41) = 15 := (fa_eq z41 15).mp c42
                refine r_iconst 56 0 C dX1_takeReal_56 (by decide) ?_
                refine r_istore_n 57 C dX1_takeReal_57 [(1, .int 0), (5, .int z41), (4, .int z40), (3, .int r26), (2, .int z1), (0, .ref h0)] (by decide) rfl ?_
                refine r_aload_n 58 5 C dX1_takeReal_58 rfl ?_
                refine r_iload 59 2 C dX1_takeReal_59 rfl ?_
                refine r_bipush 61 13 C dX1_takeReal_61 (by decide) ?_
                refine r_icmp_eq_f 63 84 C dX1_takeReal_63 (by decide) (fun h_9 => by have h_8 : (Int32.toInt z40) = 13 := (fa_eq z40 13).mp h_9; omega) ?_
                refine r_iload 66 2 C dX1_takeReal_66 rfl ?_
                refine r_bipush 68 15 C dX1_takeReal_68 (by decide) ?_
                refine r_icmp_eq_f 70 80 C dX1_takeReal_70 (by decide) (fun h_9 => by have h_8 : (Int32.toInt z40) = 15 := (fa_eq z40 15).mp h_9; omega) ?_
                refine r_iload 73 1 C dX1_takeReal_73 rfl ?_
                refine r_bipush 75 13 C dX1_takeReal_75 (by decide) ?_
                refine r_icmp_eq_f 77 84 C dX1_takeReal_77 (by decide) (fun h_9 => by have h_8 : (Int32.toInt z41) = 13 := (fa_eq z41 13).mp h_9; omega) ?_
                refine r_iconst 80 1 C dX1_takeReal_80 (by decide) ?_
                refine r_goto 81 85 C dX1_takeReal_81 (by decide) ?_
                refine r_callVv 85 C dX1_takeReal_85 [] [(h0, .inr (1, [.ref h3, .ref h4, .ref h1, .int z24, .long z25, .long y1, .int x1, .int x2, .long y2, .long y3]))] [(h1, .inr (4, [.ref h2, .int x3])), (h2, .inl (gB g, 1500, .inl fn0))] (fun sz => c53_X1_want l g h0 1 h3 h4 h1 z24 z25 y1 x1 x2 y2 y3 (by decide) ⟨p31, p32⟩ ⟨p33, p34⟩ i_x1 i_x2 i_y2 i_y3 sz) gX1_takeReal_X1_want rfl ⟨rfl, rfl⟩ 1 (by decide) ⟨Nat.le_of_ble_eq_true rfl, Nat.le_of_ble_eq_true rfl⟩ 0 rfl rfl [0] [1, 2] rfl rfl (by decide) (by decide) (by decide) rfl rfl (Nat.le_of_ble_eq_true rfl) ⟨Nat.le_of_ble_eq_true rfl, Nat.le_of_ble_eq_true rfl⟩ (fun  z44 w45 => ?_)
                refine r_ws [(h1, .inr (4, [.ref h2, .int x3])), (h2, .inl (gB g, 1500, .inl fn0)), (h0, .inr (1, [.ref h3, .ref h4, .ref h1, .int z44, .long z25, .long y1, .int x1, .int x2, .long y2, .long y3]))] rfl ?_
                have p46 : 0 ≤ (Int32.toInt z44) := w45.1
                have p47 : (Int32.toInt z44) ≤ 2 := w45.2.1
                have p48 : WNT (1 : Int) (Int32.toInt z24) (Int32.toInt z44) := w45.2.2.1
                have p49 : (((1 : Int) = 1 ∧ (Int32.toInt z44) = (Int32.toInt z24)) ∨ ((1 : Int) = 0 ∧ 1 ≤ (Int32.toInt z44))) := w45.2.2.2
                rcases p49 with ⟨k50, k51⟩ | p49
                · skip
                  obtain ⟨z52, ez52⟩ : ∃ z_9, z1 + Int32.ofInt 1 = z_9 := ⟨_, rfl⟩
                  have tz52 : (Int32.toInt z52) = (Int32.toInt z1) + 1 := by rw [← ez52]; exact fb_addIv (a := 0) (b := 1501) (c := 1) (d := 1) ⟨i9a, i9b⟩ ⟨by decide, by decide⟩ (by decide) (by decide)
                  refine r_iinc 88 4 z52 C dX1_takeReal_88 rfl ez52 [(2, .int z52), (1, .int 0), (5, .int z41), (4, .int z40), (3, .int r26), (0, .ref h0)] (by decide) rfl ?_
                  refine r_goto 91 4 C dX1_takeReal_91 (by decide) ?_
                  refine r_lv [(2, .int z52), (1, .int 0), (0, .ref h0)] [0, 1, 5] rfl ?_
                  refine r_pick [(h0, .inr (1, [.ref h3, .ref h4, .ref h1, .int z44, .long z25, .long y1, .int x1, .int x2, .long y2, .long y3])), (h1, .inr (4, [.ref h2, .int x3])), (h2, .inl (gB g, 1500, .inl fn0))] [2, 0, 1] (by decide) rfl ?_
                  exact ih7 z52 0 z44 z25 ⟨by omega, by omega⟩ (by decide) ⟨p46, p47⟩ ⟨p33, p34⟩ (by show (¬ ((Int32.toInt z44) = 0) ∨ ((Int32.toInt x0) = 0 ∧ (Int64.toInt z25) = (Int64.toInt y0) + (Int32.toInt z52) ∧ ((Int32.toInt z52) = 0 ∨ (0 ≤ (Int64.toInt y0) ∧ (Int64.toInt z25) ≤ (Int32.toInt x3))) ∧ ((0 : Int) = 1 ∨ 1 ≤ (Int32.toInt z52)))); omega) (show CND ((Int64.toInt y1) ≤ (Int32.toInt x3) ∧ 0 ≤ (Int64.toInt y0)) (LPQ (Int32.toInt x0) (Int32.toInt z44) (REAL (GB fn0 (Int32.toInt x3)) (Int64.toInt y1) (Int64.toInt y0)) (RLX (GB fn0 (Int32.toInt x3)) (Int64.toInt y1) (0 : Int) (Int64.toInt z25)) True) from fun h_7 => real_step (up := (Int32.toInt z40)) (lo := (Int32.toInt z41)) h_7.1 (by omega) ((show CND ((Int64.toInt y1) ≤ (Int32.toInt x3) ∧ 0 ≤ (Int64.toInt y0)) (LPQ (Int32.toInt x0) (Int32.toInt z3) (REAL (GB fn0 (Int32.toInt x3)) (Int64.toInt y1) (Int64.toInt y0)) (RLX (GB fn0 (Int32.toInt x3)) (Int64.toInt y1) (Int32.toInt z2) (Int64.toInt z4)) True) by assumption) h_7) (by omega) p35 p48 (by omega) (fun _ => and15_nn ez41 (by omega)) (by omega) (by omega)) (by omega)
                obtain ⟨k53, k54⟩ := p49
                exact absurd trivial (by omega)
              · skip
                have k55 : ¬ ((Int32.toInt z41) = 15) := fun h_9 => c42 ((fa_eq z41 15).mpr h_9)
                refine r_iconst 52 1 C dX1_takeReal_52 (by decide) ?_
                refine r_goto 53 57 C dX1_takeReal_53 (by decide) ?_
                refine r_istore_n 57 C dX1_takeReal_57 [(1, .int 1), (5, .int z41), (4, .int z40), (3, .int r26), (2, .int z1), (0, .ref h0)] (by decide) rfl ?_
                refine r_aload_n 58 5 C dX1_takeReal_58 rfl ?_
                refine r_iload 59 2 C dX1_takeReal_59 rfl ?_
                refine r_bipush 61 13 C dX1_takeReal_61 (by decide) ?_
                refine r_icmp_eq_f 63 84 C dX1_takeReal_63 (by decide) (fun h_9 => by have h_8 : (Int32.toInt z40) = 13 := (fa_eq z40 13).mp h_9; omega) ?_
                refine r_iload 66 2 C dX1_takeReal_66 rfl ?_
                refine r_bipush 68 15 C dX1_takeReal_68 (by decide) ?_
                refine r_icmp_eq_f 70 80 C dX1_takeReal_70 (by decide) (fun h_9 => by have h_8 : (Int32.toInt z40) = 15 := (fa_eq z40 15).mp h_9; omega) ?_
                refine r_iload 73 1 C dX1_takeReal_73 rfl ?_
                refine r_bipush 75 13 C dX1_takeReal_75 (by decide) ?_
                refine r_icmp_eq 77 84 C dX1_takeReal_77 (by decide) (fun c56 => ?_) (fun c56 => ?_)
                · skip
                  have k57 : (Int32.toInt z41) = 13 := (fa_eq z41 13).mp c56
                  refine r_iconst 84 0 C dX1_takeReal_84 (by decide) ?_
                  refine r_callVv 85 C dX1_takeReal_85 [] [(h0, .inr (1, [.ref h3, .ref h4, .ref h1, .int z24, .long z25, .long y1, .int x1, .int x2, .long y2, .long y3]))] [(h1, .inr (4, [.ref h2, .int x3])), (h2, .inl (gB g, 1500, .inl fn0))] (fun sz => c53_X1_want l g h0 0 h3 h4 h1 z24 z25 y1 x1 x2 y2 y3 (by decide) ⟨p31, p32⟩ ⟨p33, p34⟩ i_x1 i_x2 i_y2 i_y3 sz) gX1_takeReal_X1_want rfl ⟨rfl, rfl⟩ 1 (by decide) ⟨Nat.le_of_ble_eq_true rfl, Nat.le_of_ble_eq_true rfl⟩ 0 rfl rfl [0] [1, 2] rfl rfl (by decide) (by decide) (by decide) rfl rfl (Nat.le_of_ble_eq_true rfl) ⟨Nat.le_of_ble_eq_true rfl, Nat.le_of_ble_eq_true rfl⟩ (fun  z58 w59 => ?_)
                  refine r_ws [(h1, .inr (4, [.ref h2, .int x3])), (h2, .inl (gB g, 1500, .inl fn0)), (h0, .inr (1, [.ref h3, .ref h4, .ref h1, .int z58, .long z25, .long y1, .int x1, .int x2, .long y2, .long y3]))] rfl ?_
                  have p60 : 0 ≤ (Int32.toInt z58) := w59.1
                  have p61 : (Int32.toInt z58) ≤ 2 := w59.2.1
                  have p62 : WNT (0 : Int) (Int32.toInt z24) (Int32.toInt z58) := w59.2.2.1
                  have p63 : (((0 : Int) = 1 ∧ (Int32.toInt z58) = (Int32.toInt z24)) ∨ ((0 : Int) = 0 ∧ 1 ≤ (Int32.toInt z58))) := w59.2.2.2
                  rcases p63 with ⟨k64, k65⟩ | p63
                  · skip
                    exact absurd trivial (by omega)
                  obtain ⟨k66, k67⟩ := p63
                  obtain ⟨z68, ez68⟩ : ∃ z_9, z1 + Int32.ofInt 1 = z_9 := ⟨_, rfl⟩
                  have tz68 : (Int32.toInt z68) = (Int32.toInt z1) + 1 := by rw [← ez68]; exact fb_addIv (a := 0) (b := 1501) (c := 1) (d := 1) ⟨i9a, i9b⟩ ⟨by decide, by decide⟩ (by decide) (by decide)
                  refine r_iinc 88 4 z68 C dX1_takeReal_88 rfl ez68 [(2, .int z68), (1, .int 1), (5, .int z41), (4, .int z40), (3, .int r26), (0, .ref h0)] (by decide) rfl ?_
                  refine r_goto 91 4 C dX1_takeReal_91 (by decide) ?_
                  refine r_lv [(2, .int z68), (1, .int 1), (0, .ref h0)] [0, 1, 5] rfl ?_
                  refine r_pick [(h0, .inr (1, [.ref h3, .ref h4, .ref h1, .int z58, .long z25, .long y1, .int x1, .int x2, .long y2, .long y3])), (h1, .inr (4, [.ref h2, .int x3])), (h2, .inl (gB g, 1500, .inl fn0))] [2, 0, 1] (by decide) rfl ?_
                  exact ih7 z68 1 z58 z25 ⟨by omega, by omega⟩ (by decide) ⟨p60, p61⟩ ⟨p33, p34⟩ (by show (¬ ((Int32.toInt z58) = 0) ∨ ((Int32.toInt x0) = 0 ∧ (Int64.toInt z25) = (Int64.toInt y0) + (Int32.toInt z68) ∧ ((Int32.toInt z68) = 0 ∨ (0 ≤ (Int64.toInt y0) ∧ (Int64.toInt z25) ≤ (Int32.toInt x3))) ∧ ((1 : Int) = 1 ∨ 1 ≤ (Int32.toInt z68)))); omega) (show CND ((Int64.toInt y1) ≤ (Int32.toInt x3) ∧ 0 ≤ (Int64.toInt y0)) (LPQ (Int32.toInt x0) (Int32.toInt z58) (REAL (GB fn0 (Int32.toInt x3)) (Int64.toInt y1) (Int64.toInt y0)) (RLX (GB fn0 (Int32.toInt x3)) (Int64.toInt y1) (1 : Int) (Int64.toInt z25)) True) from fun h_7 => real_step (up := (Int32.toInt z40)) (lo := (Int32.toInt z41)) h_7.1 (by omega) ((show CND ((Int64.toInt y1) ≤ (Int32.toInt x3) ∧ 0 ≤ (Int64.toInt y0)) (LPQ (Int32.toInt x0) (Int32.toInt z3) (REAL (GB fn0 (Int32.toInt x3)) (Int64.toInt y1) (Int64.toInt y0)) (RLX (GB fn0 (Int32.toInt x3)) (Int64.toInt y1) (Int32.toInt z2) (Int64.toInt z4)) True) by assumption) h_7) (by omega) p35 p62 (by omega) (fun _ => and15_nn ez41 (by omega)) (by omega) (by omega)) (by omega)
                · skip
                  have k69 : ¬ ((Int32.toInt z41) = 13) := fun h_9 => c56 ((fa_eq z41 13).mpr h_9)
                  refine r_iconst 80 1 C dX1_takeReal_80 (by decide) ?_
                  refine r_goto 81 85 C dX1_takeReal_81 (by decide) ?_
                  refine r_callVv 85 C dX1_takeReal_85 [] [(h0, .inr (1, [.ref h3, .ref h4, .ref h1, .int z24, .long z25, .long y1, .int x1, .int x2, .long y2, .long y3]))] [(h1, .inr (4, [.ref h2, .int x3])), (h2, .inl (gB g, 1500, .inl fn0))] (fun sz => c53_X1_want l g h0 1 h3 h4 h1 z24 z25 y1 x1 x2 y2 y3 (by decide) ⟨p31, p32⟩ ⟨p33, p34⟩ i_x1 i_x2 i_y2 i_y3 sz) gX1_takeReal_X1_want rfl ⟨rfl, rfl⟩ 1 (by decide) ⟨Nat.le_of_ble_eq_true rfl, Nat.le_of_ble_eq_true rfl⟩ 0 rfl rfl [0] [1, 2] rfl rfl (by decide) (by decide) (by decide) rfl rfl (Nat.le_of_ble_eq_true rfl) ⟨Nat.le_of_ble_eq_true rfl, Nat.le_of_ble_eq_true rfl⟩ (fun  z70 w71 => ?_)
                  refine r_ws [(h1, .inr (4, [.ref h2, .int x3])), (h2, .inl (gB g, 1500, .inl fn0)), (h0, .inr (1, [.ref h3, .ref h4, .ref h1, .int z70, .long z25, .long y1, .int x1, .int x2, .long y2, .long y3]))] rfl ?_
                  have p72 : 0 ≤ (Int32.toInt z70) := w71.1
                  have p73 : (Int32.toInt z70) ≤ 2 := w71.2.1
                  have p74 : WNT (1 : Int) (Int32.toInt z24) (Int32.toInt z70) := w71.2.2.1
                  have p75 : (((1 : Int) = 1 ∧ (Int32.toInt z70) = (Int32.toInt z24)) ∨ ((1 : Int) = 0 ∧ 1 ≤ (Int32.toInt z70))) := w71.2.2.2
                  rcases p75 with ⟨k76, k77⟩ | p75
                  · skip
                    obtain ⟨z78, ez78⟩ : ∃ z_9, z1 + Int32.ofInt 1 = z_9 := ⟨_, rfl⟩
                    have tz78 : (Int32.toInt z78) = (Int32.toInt z1) + 1 := by rw [← ez78]; exact fb_addIv (a := 0) (b := 1501) (c := 1) (d := 1) ⟨i9a, i9b⟩ ⟨by decide, by decide⟩ (by decide) (by decide)
                    refine r_iinc 88 4 z78 C dX1_takeReal_88 rfl ez78 [(2, .int z78), (1, .int 1), (5, .int z41), (4, .int z40), (3, .int r26), (0, .ref h0)] (by decide) rfl ?_
                    refine r_goto 91 4 C dX1_takeReal_91 (by decide) ?_
                    refine r_lv [(2, .int z78), (1, .int 1), (0, .ref h0)] [0, 1, 5] rfl ?_
                    refine r_pick [(h0, .inr (1, [.ref h3, .ref h4, .ref h1, .int z70, .long z25, .long y1, .int x1, .int x2, .long y2, .long y3])), (h1, .inr (4, [.ref h2, .int x3])), (h2, .inl (gB g, 1500, .inl fn0))] [2, 0, 1] (by decide) rfl ?_
                    exact ih7 z78 1 z70 z25 ⟨by omega, by omega⟩ (by decide) ⟨p72, p73⟩ ⟨p33, p34⟩ (by show (¬ ((Int32.toInt z70) = 0) ∨ ((Int32.toInt x0) = 0 ∧ (Int64.toInt z25) = (Int64.toInt y0) + (Int32.toInt z78) ∧ ((Int32.toInt z78) = 0 ∨ (0 ≤ (Int64.toInt y0) ∧ (Int64.toInt z25) ≤ (Int32.toInt x3))) ∧ ((1 : Int) = 1 ∨ 1 ≤ (Int32.toInt z78)))); omega) (show CND ((Int64.toInt y1) ≤ (Int32.toInt x3) ∧ 0 ≤ (Int64.toInt y0)) (LPQ (Int32.toInt x0) (Int32.toInt z70) (REAL (GB fn0 (Int32.toInt x3)) (Int64.toInt y1) (Int64.toInt y0)) (RLX (GB fn0 (Int32.toInt x3)) (Int64.toInt y1) (1 : Int) (Int64.toInt z25)) True) from fun h_7 => real_step (up := (Int32.toInt z40)) (lo := (Int32.toInt z41)) h_7.1 (by omega) ((show CND ((Int64.toInt y1) ≤ (Int32.toInt x3) ∧ 0 ≤ (Int64.toInt y0)) (LPQ (Int32.toInt x0) (Int32.toInt z3) (REAL (GB fn0 (Int32.toInt x3)) (Int64.toInt y1) (Int64.toInt y0)) (RLX (GB fn0 (Int32.toInt x3)) (Int64.toInt y1) (Int32.toInt z2) (Int64.toInt z4)) True) by assumption) h_7) (by omega) p35 p74 (by omega) (fun _ => and15_nn ez41 (by omega)) (by omega) (by omega)) (by omega)
                  obtain ⟨k79, k80⟩ := p75
                  exact absurd trivial (by omega)
            obtain ⟨k81, k82, k83, k84, k85, k86, k87⟩ := p36
            refine r_istore_n 26 C dX1_takeReal_26 [(3, .int r26), (2, .int z1), (1, .int z2), (0, .ref h0)] (by decide) rfl ?_
            refine r_iload_n 27 0 C dX1_takeReal_27 rfl ?_
            refine r_iconst 28 4 C dX1_takeReal_28 (by decide) ?_
            obtain ⟨z88, ez88⟩ : ∃ z_9, r26 >>> (4 &&& 31) = z_9 := ⟨_, rfl⟩
            have tz88 : (Int32.toInt z88) = (Int32.toInt r26) / 16 := by rw [← ez88]; exact shr_4 r26
            refine r_ishr 29 z88 C dX1_takeReal_29 ez88 ?_
            refine r_istore 30 C dX1_takeReal_30 [(4, .int z88), (3, .int r26), (2, .int z1), (1, .int z2), (0, .ref h0)] (by decide) rfl ?_
            refine r_iload_n 32 1 C dX1_takeReal_32 rfl ?_
            refine r_bipush 33 15 C dX1_takeReal_33 (by decide) ?_
            obtain ⟨z89, ez89⟩ : ∃ z_9, r26 &&& 15 = z_9 := ⟨_, rfl⟩
            have tz89 : 0 ≤ (Int32.toInt z89) ∧ (Int32.toInt z89) ≤ 15 := by rw [← ez89]; exact and_15 r26
            refine r_iand 35 z89 C dX1_takeReal_35 ez89 ?_
            refine r_istore 36 C dX1_takeReal_36 [(5, .int z89), (4, .int z88), (3, .int r26), (2, .int z1), (1, .int z2), (0, .ref h0)] (by decide) rfl ?_
            refine r_iload 38 1 C dX1_takeReal_38 rfl ?_
            refine r_bipush 40 15 C dX1_takeReal_40 (by decide) ?_
            refine r_icmp_eq 42 56 C dX1_takeReal_42 (by decide) (fun c90 => ?_) (fun c90 => ?_)
            · skip
              have k91 : (Int32.toInt z88) = 15 := (fa_eq z88 15).mp c90
              refine r_iconst 56 0 C dX1_takeReal_56 (by decide) ?_
              refine r_istore_n 57 C dX1_takeReal_57 [(1, .int 0), (5, .int z89), (4, .int z88), (3, .int r26), (2, .int z1), (0, .ref h0)] (by decide) rfl ?_
              refine r_aload_n 58 5 C dX1_takeReal_58 rfl ?_
              refine r_iload 59 2 C dX1_takeReal_59 rfl ?_
              refine r_bipush 61 13 C dX1_takeReal_61 (by decide) ?_
              refine r_icmp_eq_f 63 84 C dX1_takeReal_63 (by decide) (fun h_9 => by have h_8 : (Int32.toInt z88) = 13 := (fa_eq z88 13).mp h_9; omega) ?_
              refine r_iload 66 2 C dX1_takeReal_66 rfl ?_
              refine r_bipush 68 15 C dX1_takeReal_68 (by decide) ?_
              refine r_icmp_eq_t 70 80 C dX1_takeReal_70 (by decide) ((fa_eq z88 15).mpr (by show (Int32.toInt z88) = 15; omega)) ?_
              refine r_iconst 80 1 C dX1_takeReal_80 (by decide) ?_
              refine r_goto 81 85 C dX1_takeReal_81 (by decide) ?_
              refine r_callVv 85 C dX1_takeReal_85 [] [(h0, .inr (1, [.ref h3, .ref h4, .ref h1, .int z24, .long z25, .long y1, .int x1, .int x2, .long y2, .long y3]))] [(h1, .inr (4, [.ref h2, .int x3])), (h2, .inl (gB g, 1500, .inl fn0))] (fun sz => c53_X1_want l g h0 1 h3 h4 h1 z24 z25 y1 x1 x2 y2 y3 (by decide) ⟨p31, p32⟩ ⟨p33, p34⟩ i_x1 i_x2 i_y2 i_y3 sz) gX1_takeReal_X1_want rfl ⟨rfl, rfl⟩ 1 (by decide) ⟨Nat.le_of_ble_eq_true rfl, Nat.le_of_ble_eq_true rfl⟩ 0 rfl rfl [0] [1, 2] rfl rfl (by decide) (by decide) (by decide) rfl rfl (Nat.le_of_ble_eq_true rfl) ⟨Nat.le_of_ble_eq_true rfl, Nat.le_of_ble_eq_true rfl⟩ (fun  z92 w93 => ?_)
              refine r_ws [(h1, .inr (4, [.ref h2, .int x3])), (h2, .inl (gB g, 1500, .inl fn0)), (h0, .inr (1, [.ref h3, .ref h4, .ref h1, .int z92, .long z25, .long y1, .int x1, .int x2, .long y2, .long y3]))] rfl ?_
              have p94 : 0 ≤ (Int32.toInt z92) := w93.1
              have p95 : (Int32.toInt z92) ≤ 2 := w93.2.1
              have p96 : WNT (1 : Int) (Int32.toInt z24) (Int32.toInt z92) := w93.2.2.1
              have p97 : (((1 : Int) = 1 ∧ (Int32.toInt z92) = (Int32.toInt z24)) ∨ ((1 : Int) = 0 ∧ 1 ≤ (Int32.toInt z92))) := w93.2.2.2
              rcases p97 with ⟨k98, k99⟩ | p97
              · skip
                obtain ⟨z100, ez100⟩ : ∃ z_9, z1 + Int32.ofInt 1 = z_9 := ⟨_, rfl⟩
                have tz100 : (Int32.toInt z100) = (Int32.toInt z1) + 1 := by rw [← ez100]; exact fb_addIv (a := 0) (b := 1501) (c := 1) (d := 1) ⟨i9a, i9b⟩ ⟨by decide, by decide⟩ (by decide) (by decide)
                refine r_iinc 88 4 z100 C dX1_takeReal_88 rfl ez100 [(2, .int z100), (1, .int 0), (5, .int z89), (4, .int z88), (3, .int r26), (0, .ref h0)] (by decide) rfl ?_
                refine r_goto 91 4 C dX1_takeReal_91 (by decide) ?_
                refine r_lv [(2, .int z100), (1, .int 0), (0, .ref h0)] [0, 1, 5] rfl ?_
                refine r_pick [(h0, .inr (1, [.ref h3, .ref h4, .ref h1, .int z92, .long z25, .long y1, .int x1, .int x2, .long y2, .long y3])), (h1, .inr (4, [.ref h2, .int x3])), (h2, .inl (gB g, 1500, .inl fn0))] [2, 0, 1] (by decide) rfl ?_
                exact ih7 z100 0 z92 z25 ⟨by omega, by omega⟩ (by decide) ⟨p94, p95⟩ ⟨p33, p34⟩ (by show (¬ ((Int32.toInt z92) = 0) ∨ ((Int32.toInt x0) = 0 ∧ (Int64.toInt z25) = (Int64.toInt y0) + (Int32.toInt z100) ∧ ((Int32.toInt z100) = 0 ∨ (0 ≤ (Int64.toInt y0) ∧ (Int64.toInt z25) ≤ (Int32.toInt x3))) ∧ ((0 : Int) = 1 ∨ 1 ≤ (Int32.toInt z100)))); omega) (show CND ((Int64.toInt y1) ≤ (Int32.toInt x3) ∧ 0 ≤ (Int64.toInt y0)) (LPQ (Int32.toInt x0) (Int32.toInt z92) (REAL (GB fn0 (Int32.toInt x3)) (Int64.toInt y1) (Int64.toInt y0)) (RLX (GB fn0 (Int32.toInt x3)) (Int64.toInt y1) (0 : Int) (Int64.toInt z25)) True) from fun h_7 => real_step (up := (Int32.toInt z88)) (lo := (Int32.toInt z89)) h_7.1 (by omega) ((show CND ((Int64.toInt y1) ≤ (Int32.toInt x3) ∧ 0 ≤ (Int64.toInt y0)) (LPQ (Int32.toInt x0) (Int32.toInt z3) (REAL (GB fn0 (Int32.toInt x3)) (Int64.toInt y1) (Int64.toInt y0)) (RLX (GB fn0 (Int32.toInt x3)) (Int64.toInt y1) (Int32.toInt z2) (Int64.toInt z4)) True) by assumption) h_7) (by omega) p35 p96 (by omega) (fun _ => and15_nn ez89 (by omega)) (by omega) (by omega)) (by omega)
              obtain ⟨k101, k102⟩ := p97
              exact absurd trivial (by omega)
            · skip
              have k103 : ¬ ((Int32.toInt z88) = 15) := fun h_9 => c90 ((fa_eq z88 15).mpr h_9)
              refine r_iload 45 0 C dX1_takeReal_45 rfl ?_
              refine r_bipush 47 15 C dX1_takeReal_47 (by decide) ?_
              refine r_icmp_eq 49 56 C dX1_takeReal_49 (by decide) (fun c104 => ?_) (fun c104 => ?_)
              · skip
                have k105 : (Int32.toInt z89) = 15 := (fa_eq z89 15).mp c104
                refine r_iconst 56 0 C dX1_takeReal_56 (by decide) ?_
                refine r_istore_n 57 C dX1_takeReal_57 [(1, .int 0), (5, .int z89), (4, .int z88), (3, .int r26), (2, .int z1), (0, .ref h0)] (by decide) rfl ?_
                refine r_aload_n 58 5 C dX1_takeReal_58 rfl ?_
                refine r_iload 59 2 C dX1_takeReal_59 rfl ?_
                refine r_bipush 61 13 C dX1_takeReal_61 (by decide) ?_
                refine r_icmp_eq 63 84 C dX1_takeReal_63 (by decide) (fun c106 => ?_) (fun c106 => ?_)
                · skip
                  have k107 : (Int32.toInt z88) = 13 := (fa_eq z88 13).mp c106
                  refine r_iconst 84 0 C dX1_takeReal_84 (by decide) ?_
                  refine r_callVv 85 C dX1_takeReal_85 [] [(h0, .inr (1, [.ref h3, .ref h4, .ref h1, .int z24, .long z25, .long y1, .int x1, .int x2, .long y2, .long y3]))] [(h1, .inr (4, [.ref h2, .int x3])), (h2, .inl (gB g, 1500, .inl fn0))] (fun sz => c53_X1_want l g h0 0 h3 h4 h1 z24 z25 y1 x1 x2 y2 y3 (by decide) ⟨p31, p32⟩ ⟨p33, p34⟩ i_x1 i_x2 i_y2 i_y3 sz) gX1_takeReal_X1_want rfl ⟨rfl, rfl⟩ 1 (by decide) ⟨Nat.le_of_ble_eq_true rfl, Nat.le_of_ble_eq_true rfl⟩ 0 rfl rfl [0] [1, 2] rfl rfl (by decide) (by decide) (by decide) rfl rfl (Nat.le_of_ble_eq_true rfl) ⟨Nat.le_of_ble_eq_true rfl, Nat.le_of_ble_eq_true rfl⟩ (fun  z108 w109 => ?_)
                  refine r_ws [(h1, .inr (4, [.ref h2, .int x3])), (h2, .inl (gB g, 1500, .inl fn0)), (h0, .inr (1, [.ref h3, .ref h4, .ref h1, .int z108, .long z25, .long y1, .int x1, .int x2, .long y2, .long y3]))] rfl ?_
                  have p110 : 0 ≤ (Int32.toInt z108) := w109.1
                  have p111 : (Int32.toInt z108) ≤ 2 := w109.2.1
                  have p112 : WNT (0 : Int) (Int32.toInt z24) (Int32.toInt z108) := w109.2.2.1
                  have p113 : (((0 : Int) = 1 ∧ (Int32.toInt z108) = (Int32.toInt z24)) ∨ ((0 : Int) = 0 ∧ 1 ≤ (Int32.toInt z108))) := w109.2.2.2
                  rcases p113 with ⟨k114, k115⟩ | p113
                  · skip
                    exact absurd trivial (by omega)
                  obtain ⟨k116, k117⟩ := p113
                  obtain ⟨z118, ez118⟩ : ∃ z_9, z1 + Int32.ofInt 1 = z_9 := ⟨_, rfl⟩
                  have tz118 : (Int32.toInt z118) = (Int32.toInt z1) + 1 := by rw [← ez118]; exact fb_addIv (a := 0) (b := 1501) (c := 1) (d := 1) ⟨i9a, i9b⟩ ⟨by decide, by decide⟩ (by decide) (by decide)
                  refine r_iinc 88 4 z118 C dX1_takeReal_88 rfl ez118 [(2, .int z118), (1, .int 0), (5, .int z89), (4, .int z88), (3, .int r26), (0, .ref h0)] (by decide) rfl ?_
                  refine r_goto 91 4 C dX1_takeReal_91 (by decide) ?_
                  refine r_lv [(2, .int z118), (1, .int 0), (0, .ref h0)] [0, 1, 5] rfl ?_
                  refine r_pick [(h0, .inr (1, [.ref h3, .ref h4, .ref h1, .int z108, .long z25, .long y1, .int x1, .int x2, .long y2, .long y3])), (h1, .inr (4, [.ref h2, .int x3])), (h2, .inl (gB g, 1500, .inl fn0))] [2, 0, 1] (by decide) rfl ?_
                  exact ih7 z118 0 z108 z25 ⟨by omega, by omega⟩ (by decide) ⟨p110, p111⟩ ⟨p33, p34⟩ (by show (¬ ((Int32.toInt z108) = 0) ∨ ((Int32.toInt x0) = 0 ∧ (Int64.toInt z25) = (Int64.toInt y0) + (Int32.toInt z118) ∧ ((Int32.toInt z118) = 0 ∨ (0 ≤ (Int64.toInt y0) ∧ (Int64.toInt z25) ≤ (Int32.toInt x3))) ∧ ((0 : Int) = 1 ∨ 1 ≤ (Int32.toInt z118)))); omega) (show CND ((Int64.toInt y1) ≤ (Int32.toInt x3) ∧ 0 ≤ (Int64.toInt y0)) (LPQ (Int32.toInt x0) (Int32.toInt z108) (REAL (GB fn0 (Int32.toInt x3)) (Int64.toInt y1) (Int64.toInt y0)) (RLX (GB fn0 (Int32.toInt x3)) (Int64.toInt y1) (0 : Int) (Int64.toInt z25)) True) from fun h_7 => real_step (up := (Int32.toInt z88)) (lo := (Int32.toInt z89)) h_7.1 (by omega) ((show CND ((Int64.toInt y1) ≤ (Int32.toInt x3) ∧ 0 ≤ (Int64.toInt y0)) (LPQ (Int32.toInt x0) (Int32.toInt z3) (REAL (GB fn0 (Int32.toInt x3)) (Int64.toInt y1) (Int64.toInt y0)) (RLX (GB fn0 (Int32.toInt x3)) (Int64.toInt y1) (Int32.toInt z2) (Int64.toInt z4)) True) by assumption) h_7) (by omega) p35 p112 (by omega) (fun _ => and15_nn ez89 (by omega)) (by omega) (by omega)) (by omega)
                · skip
                  have k119 : ¬ ((Int32.toInt z88) = 13) := fun h_9 => c106 ((fa_eq z88 13).mpr h_9)
                  refine r_iload 66 2 C dX1_takeReal_66 rfl ?_
                  refine r_bipush 68 15 C dX1_takeReal_68 (by decide) ?_
                  refine r_icmp_eq_f 70 80 C dX1_takeReal_70 (by decide) (fun h_9 => by have h_8 : (Int32.toInt z88) = 15 := (fa_eq z88 15).mp h_9; omega) ?_
                  refine r_iload 73 1 C dX1_takeReal_73 rfl ?_
                  refine r_bipush 75 13 C dX1_takeReal_75 (by decide) ?_
                  refine r_icmp_eq_f 77 84 C dX1_takeReal_77 (by decide) (fun h_9 => by have h_8 : (Int32.toInt z89) = 13 := (fa_eq z89 13).mp h_9; omega) ?_
                  refine r_iconst 80 1 C dX1_takeReal_80 (by decide) ?_
                  refine r_goto 81 85 C dX1_takeReal_81 (by decide) ?_
                  refine r_callVv 85 C dX1_takeReal_85 [] [(h0, .inr (1, [.ref h3, .ref h4, .ref h1, .int z24, .long z25, .long y1, .int x1, .int x2, .long y2, .long y3]))] [(h1, .inr (4, [.ref h2, .int x3])), (h2, .inl (gB g, 1500, .inl fn0))] (fun sz => c53_X1_want l g h0 1 h3 h4 h1 z24 z25 y1 x1 x2 y2 y3 (by decide) ⟨p31, p32⟩ ⟨p33, p34⟩ i_x1 i_x2 i_y2 i_y3 sz) gX1_takeReal_X1_want rfl ⟨rfl, rfl⟩ 1 (by decide) ⟨Nat.le_of_ble_eq_true rfl, Nat.le_of_ble_eq_true rfl⟩ 0 rfl rfl [0] [1, 2] rfl rfl (by decide) (by decide) (by decide) rfl rfl (Nat.le_of_ble_eq_true rfl) ⟨Nat.le_of_ble_eq_true rfl, Nat.le_of_ble_eq_true rfl⟩ (fun  z120 w121 => ?_)
                  refine r_ws [(h1, .inr (4, [.ref h2, .int x3])), (h2, .inl (gB g, 1500, .inl fn0)), (h0, .inr (1, [.ref h3, .ref h4, .ref h1, .int z120, .long z25, .long y1, .int x1, .int x2, .long y2, .long y3]))] rfl ?_
                  have p122 : 0 ≤ (Int32.toInt z120) := w121.1
                  have p123 : (Int32.toInt z120) ≤ 2 := w121.2.1
                  have p124 : WNT (1 : Int) (Int32.toInt z24) (Int32.toInt z120) := w121.2.2.1
                  have p125 : (((1 : Int) = 1 ∧ (Int32.toInt z120) = (Int32.toInt z24)) ∨ ((1 : Int) = 0 ∧ 1 ≤ (Int32.toInt z120))) := w121.2.2.2
                  rcases p125 with ⟨k126, k127⟩ | p125
                  · skip
                    obtain ⟨z128, ez128⟩ : ∃ z_9, z1 + Int32.ofInt 1 = z_9 := ⟨_, rfl⟩
                    have tz128 : (Int32.toInt z128) = (Int32.toInt z1) + 1 := by rw [← ez128]; exact fb_addIv (a := 0) (b := 1501) (c := 1) (d := 1) ⟨i9a, i9b⟩ ⟨by decide, by decide⟩ (by decide) (by decide)
                    refine r_iinc 88 4 z128 C dX1_takeReal_88 rfl ez128 [(2, .int z128), (1, .int 0), (5, .int z89), (4, .int z88), (3, .int r26), (0, .ref h0)] (by decide) rfl ?_
                    refine r_goto 91 4 C dX1_takeReal_91 (by decide) ?_
                    refine r_lv [(2, .int z128), (1, .int 0), (0, .ref h0)] [0, 1, 5] rfl ?_
                    refine r_pick [(h0, .inr (1, [.ref h3, .ref h4, .ref h1, .int z120, .long z25, .long y1, .int x1, .int x2, .long y2, .long y3])), (h1, .inr (4, [.ref h2, .int x3])), (h2, .inl (gB g, 1500, .inl fn0))] [2, 0, 1] (by decide) rfl ?_
                    exact ih7 z128 0 z120 z25 ⟨by omega, by omega⟩ (by decide) ⟨p122, p123⟩ ⟨p33, p34⟩ (by show (¬ ((Int32.toInt z120) = 0) ∨ ((Int32.toInt x0) = 0 ∧ (Int64.toInt z25) = (Int64.toInt y0) + (Int32.toInt z128) ∧ ((Int32.toInt z128) = 0 ∨ (0 ≤ (Int64.toInt y0) ∧ (Int64.toInt z25) ≤ (Int32.toInt x3))) ∧ ((0 : Int) = 1 ∨ 1 ≤ (Int32.toInt z128)))); omega) (show CND ((Int64.toInt y1) ≤ (Int32.toInt x3) ∧ 0 ≤ (Int64.toInt y0)) (LPQ (Int32.toInt x0) (Int32.toInt z120) (REAL (GB fn0 (Int32.toInt x3)) (Int64.toInt y1) (Int64.toInt y0)) (RLX (GB fn0 (Int32.toInt x3)) (Int64.toInt y1) (0 : Int) (Int64.toInt z25)) True) from fun h_7 => real_step (up := (Int32.toInt z88)) (lo := (Int32.toInt z89)) h_7.1 (by omega) ((show CND ((Int64.toInt y1) ≤ (Int32.toInt x3) ∧ 0 ≤ (Int64.toInt y0)) (LPQ (Int32.toInt x0) (Int32.toInt z3) (REAL (GB fn0 (Int32.toInt x3)) (Int64.toInt y1) (Int64.toInt y0)) (RLX (GB fn0 (Int32.toInt x3)) (Int64.toInt y1) (Int32.toInt z2) (Int64.toInt z4)) True) by assumption) h_7) (by omega) p35 p124 (by omega) (fun _ => and15_nn ez89 (by omega)) (by omega) (by omega)) (by omega)
                  obtain ⟨k129, k130⟩ := p125
                  exact absurd trivial (by omega)
              · skip
                have k131 : ¬ ((Int32.toInt z89) = 15) := fun h_9 => c104 ((fa_eq z89 15).mpr h_9)
                refine r_iconst 52 1 C dX1_takeReal_52 (by decide) ?_
                refine r_goto 53 57 C dX1_takeReal_53 (by decide) ?_
                refine r_istore_n 57 C dX1_takeReal_57 [(1, .int 1), (5, .int z89), (4, .int z88), (3, .int r26), (2, .int z1), (0, .ref h0)] (by decide) rfl ?_
                refine r_aload_n 58 5 C dX1_takeReal_58 rfl ?_
                refine r_iload 59 2 C dX1_takeReal_59 rfl ?_
                refine r_bipush 61 13 C dX1_takeReal_61 (by decide) ?_
                refine r_icmp_eq 63 84 C dX1_takeReal_63 (by decide) (fun c132 => ?_) (fun c132 => ?_)
                · skip
                  have k133 : (Int32.toInt z88) = 13 := (fa_eq z88 13).mp c132
                  refine r_iconst 84 0 C dX1_takeReal_84 (by decide) ?_
                  refine r_callVv 85 C dX1_takeReal_85 [] [(h0, .inr (1, [.ref h3, .ref h4, .ref h1, .int z24, .long z25, .long y1, .int x1, .int x2, .long y2, .long y3]))] [(h1, .inr (4, [.ref h2, .int x3])), (h2, .inl (gB g, 1500, .inl fn0))] (fun sz => c53_X1_want l g h0 0 h3 h4 h1 z24 z25 y1 x1 x2 y2 y3 (by decide) ⟨p31, p32⟩ ⟨p33, p34⟩ i_x1 i_x2 i_y2 i_y3 sz) gX1_takeReal_X1_want rfl ⟨rfl, rfl⟩ 1 (by decide) ⟨Nat.le_of_ble_eq_true rfl, Nat.le_of_ble_eq_true rfl⟩ 0 rfl rfl [0] [1, 2] rfl rfl (by decide) (by decide) (by decide) rfl rfl (Nat.le_of_ble_eq_true rfl) ⟨Nat.le_of_ble_eq_true rfl, Nat.le_of_ble_eq_true rfl⟩ (fun  z134 w135 => ?_)
                  refine r_ws [(h1, .inr (4, [.ref h2, .int x3])), (h2, .inl (gB g, 1500, .inl fn0)), (h0, .inr (1, [.ref h3, .ref h4, .ref h1, .int z134, .long z25, .long y1, .int x1, .int x2, .long y2, .long y3]))] rfl ?_
                  have p136 : 0 ≤ (Int32.toInt z134) := w135.1
                  have p137 : (Int32.toInt z134) ≤ 2 := w135.2.1
                  have p138 : WNT (0 : Int) (Int32.toInt z24) (Int32.toInt z134) := w135.2.2.1
                  have p139 : (((0 : Int) = 1 ∧ (Int32.toInt z134) = (Int32.toInt z24)) ∨ ((0 : Int) = 0 ∧ 1 ≤ (Int32.toInt z134))) := w135.2.2.2
                  rcases p139 with ⟨k140, k141⟩ | p139
                  · skip
                    exact absurd trivial (by omega)
                  obtain ⟨k142, k143⟩ := p139
                  obtain ⟨z144, ez144⟩ : ∃ z_9, z1 + Int32.ofInt 1 = z_9 := ⟨_, rfl⟩
                  have tz144 : (Int32.toInt z144) = (Int32.toInt z1) + 1 := by rw [← ez144]; exact fb_addIv (a := 0) (b := 1501) (c := 1) (d := 1) ⟨i9a, i9b⟩ ⟨by decide, by decide⟩ (by decide) (by decide)
                  refine r_iinc 88 4 z144 C dX1_takeReal_88 rfl ez144 [(2, .int z144), (1, .int 1), (5, .int z89), (4, .int z88), (3, .int r26), (0, .ref h0)] (by decide) rfl ?_
                  refine r_goto 91 4 C dX1_takeReal_91 (by decide) ?_
                  refine r_lv [(2, .int z144), (1, .int 1), (0, .ref h0)] [0, 1, 5] rfl ?_
                  refine r_pick [(h0, .inr (1, [.ref h3, .ref h4, .ref h1, .int z134, .long z25, .long y1, .int x1, .int x2, .long y2, .long y3])), (h1, .inr (4, [.ref h2, .int x3])), (h2, .inl (gB g, 1500, .inl fn0))] [2, 0, 1] (by decide) rfl ?_
                  exact ih7 z144 1 z134 z25 ⟨by omega, by omega⟩ (by decide) ⟨p136, p137⟩ ⟨p33, p34⟩ (by show (¬ ((Int32.toInt z134) = 0) ∨ ((Int32.toInt x0) = 0 ∧ (Int64.toInt z25) = (Int64.toInt y0) + (Int32.toInt z144) ∧ ((Int32.toInt z144) = 0 ∨ (0 ≤ (Int64.toInt y0) ∧ (Int64.toInt z25) ≤ (Int32.toInt x3))) ∧ ((1 : Int) = 1 ∨ 1 ≤ (Int32.toInt z144)))); omega) (show CND ((Int64.toInt y1) ≤ (Int32.toInt x3) ∧ 0 ≤ (Int64.toInt y0)) (LPQ (Int32.toInt x0) (Int32.toInt z134) (REAL (GB fn0 (Int32.toInt x3)) (Int64.toInt y1) (Int64.toInt y0)) (RLX (GB fn0 (Int32.toInt x3)) (Int64.toInt y1) (1 : Int) (Int64.toInt z25)) True) from fun h_7 => real_step (up := (Int32.toInt z88)) (lo := (Int32.toInt z89)) h_7.1 (by omega) ((show CND ((Int64.toInt y1) ≤ (Int32.toInt x3) ∧ 0 ≤ (Int64.toInt y0)) (LPQ (Int32.toInt x0) (Int32.toInt z3) (REAL (GB fn0 (Int32.toInt x3)) (Int64.toInt y1) (Int64.toInt y0)) (RLX (GB fn0 (Int32.toInt x3)) (Int64.toInt y1) (Int32.toInt z2) (Int64.toInt z4)) True) by assumption) h_7) (by omega) p35 p138 (by omega) (fun _ => and15_nn ez89 (by omega)) (by omega) (by omega)) (by omega)
                · skip
                  have k145 : ¬ ((Int32.toInt z88) = 13) := fun h_9 => c132 ((fa_eq z88 13).mpr h_9)
                  refine r_iload 66 2 C dX1_takeReal_66 rfl ?_
                  refine r_bipush 68 15 C dX1_takeReal_68 (by decide) ?_
                  refine r_icmp_eq_f 70 80 C dX1_takeReal_70 (by decide) (fun h_9 => by have h_8 : (Int32.toInt z88) = 15 := (fa_eq z88 15).mp h_9; omega) ?_
                  refine r_iload 73 1 C dX1_takeReal_73 rfl ?_
                  refine r_bipush 75 13 C dX1_takeReal_75 (by decide) ?_
                  refine r_icmp_eq 77 84 C dX1_takeReal_77 (by decide) (fun c146 => ?_) (fun c146 => ?_)
                  · skip
                    have k147 : (Int32.toInt z89) = 13 := (fa_eq z89 13).mp c146
                    refine r_iconst 84 0 C dX1_takeReal_84 (by decide) ?_
                    refine r_callVv 85 C dX1_takeReal_85 [] [(h0, .inr (1, [.ref h3, .ref h4, .ref h1, .int z24, .long z25, .long y1, .int x1, .int x2, .long y2, .long y3]))] [(h1, .inr (4, [.ref h2, .int x3])), (h2, .inl (gB g, 1500, .inl fn0))] (fun sz => c53_X1_want l g h0 0 h3 h4 h1 z24 z25 y1 x1 x2 y2 y3 (by decide) ⟨p31, p32⟩ ⟨p33, p34⟩ i_x1 i_x2 i_y2 i_y3 sz) gX1_takeReal_X1_want rfl ⟨rfl, rfl⟩ 1 (by decide) ⟨Nat.le_of_ble_eq_true rfl, Nat.le_of_ble_eq_true rfl⟩ 0 rfl rfl [0] [1, 2] rfl rfl (by decide) (by decide) (by decide) rfl rfl (Nat.le_of_ble_eq_true rfl) ⟨Nat.le_of_ble_eq_true rfl, Nat.le_of_ble_eq_true rfl⟩ (fun  z148 w149 => ?_)
                    refine r_ws [(h1, .inr (4, [.ref h2, .int x3])), (h2, .inl (gB g, 1500, .inl fn0)), (h0, .inr (1, [.ref h3, .ref h4, .ref h1, .int z148, .long z25, .long y1, .int x1, .int x2, .long y2, .long y3]))] rfl ?_
                    have p150 : 0 ≤ (Int32.toInt z148) := w149.1
                    have p151 : (Int32.toInt z148) ≤ 2 := w149.2.1
                    have p152 : WNT (0 : Int) (Int32.toInt z24) (Int32.toInt z148) := w149.2.2.1
                    have p153 : (((0 : Int) = 1 ∧ (Int32.toInt z148) = (Int32.toInt z24)) ∨ ((0 : Int) = 0 ∧ 1 ≤ (Int32.toInt z148))) := w149.2.2.2
                    rcases p153 with ⟨k154, k155⟩ | p153
                    · skip
                      exact absurd trivial (by omega)
                    obtain ⟨k156, k157⟩ := p153
                    obtain ⟨z158, ez158⟩ : ∃ z_9, z1 + Int32.ofInt 1 = z_9 := ⟨_, rfl⟩
                    have tz158 : (Int32.toInt z158) = (Int32.toInt z1) + 1 := by rw [← ez158]; exact fb_addIv (a := 0) (b := 1501) (c := 1) (d := 1) ⟨i9a, i9b⟩ ⟨by decide, by decide⟩ (by decide) (by decide)
                    refine r_iinc 88 4 z158 C dX1_takeReal_88 rfl ez158 [(2, .int z158), (1, .int 1), (5, .int z89), (4, .int z88), (3, .int r26), (0, .ref h0)] (by decide) rfl ?_
                    refine r_goto 91 4 C dX1_takeReal_91 (by decide) ?_
                    refine r_lv [(2, .int z158), (1, .int 1), (0, .ref h0)] [0, 1, 5] rfl ?_
                    refine r_pick [(h0, .inr (1, [.ref h3, .ref h4, .ref h1, .int z148, .long z25, .long y1, .int x1, .int x2, .long y2, .long y3])), (h1, .inr (4, [.ref h2, .int x3])), (h2, .inl (gB g, 1500, .inl fn0))] [2, 0, 1] (by decide) rfl ?_
                    exact ih7 z158 1 z148 z25 ⟨by omega, by omega⟩ (by decide) ⟨p150, p151⟩ ⟨p33, p34⟩ (by show (¬ ((Int32.toInt z148) = 0) ∨ ((Int32.toInt x0) = 0 ∧ (Int64.toInt z25) = (Int64.toInt y0) + (Int32.toInt z158) ∧ ((Int32.toInt z158) = 0 ∨ (0 ≤ (Int64.toInt y0) ∧ (Int64.toInt z25) ≤ (Int32.toInt x3))) ∧ ((1 : Int) = 1 ∨ 1 ≤ (Int32.toInt z158)))); omega) (show CND ((Int64.toInt y1) ≤ (Int32.toInt x3) ∧ 0 ≤ (Int64.toInt y0)) (LPQ (Int32.toInt x0) (Int32.toInt z148) (REAL (GB fn0 (Int32.toInt x3)) (Int64.toInt y1) (Int64.toInt y0)) (RLX (GB fn0 (Int32.toInt x3)) (Int64.toInt y1) (1 : Int) (Int64.toInt z25)) True) from fun h_7 => real_step (up := (Int32.toInt z88)) (lo := (Int32.toInt z89)) h_7.1 (by omega) ((show CND ((Int64.toInt y1) ≤ (Int32.toInt x3) ∧ 0 ≤ (Int64.toInt y0)) (LPQ (Int32.toInt x0) (Int32.toInt z3) (REAL (GB fn0 (Int32.toInt x3)) (Int64.toInt y1) (Int64.toInt y0)) (RLX (GB fn0 (Int32.toInt x3)) (Int64.toInt y1) (Int32.toInt z2) (Int64.toInt z4)) True) by assumption) h_7) (by omega) p35 p152 (by omega) (fun _ => and15_nn ez89 (by omega)) (by omega) (by omega)) (by omega)
                  · skip
                    have k159 : ¬ ((Int32.toInt z89) = 13) := fun h_9 => c146 ((fa_eq z89 13).mpr h_9)
                    refine r_iconst 80 1 C dX1_takeReal_80 (by decide) ?_
                    refine r_goto 81 85 C dX1_takeReal_81 (by decide) ?_
                    refine r_callVv 85 C dX1_takeReal_85 [] [(h0, .inr (1, [.ref h3, .ref h4, .ref h1, .int z24, .long z25, .long y1, .int x1, .int x2, .long y2, .long y3]))] [(h1, .inr (4, [.ref h2, .int x3])), (h2, .inl (gB g, 1500, .inl fn0))] (fun sz => c53_X1_want l g h0 1 h3 h4 h1 z24 z25 y1 x1 x2 y2 y3 (by decide) ⟨p31, p32⟩ ⟨p33, p34⟩ i_x1 i_x2 i_y2 i_y3 sz) gX1_takeReal_X1_want rfl ⟨rfl, rfl⟩ 1 (by decide) ⟨Nat.le_of_ble_eq_true rfl, Nat.le_of_ble_eq_true rfl⟩ 0 rfl rfl [0] [1, 2] rfl rfl (by decide) (by decide) (by decide) rfl rfl (Nat.le_of_ble_eq_true rfl) ⟨Nat.le_of_ble_eq_true rfl, Nat.le_of_ble_eq_true rfl⟩ (fun  z160 w161 => ?_)
                    refine r_ws [(h1, .inr (4, [.ref h2, .int x3])), (h2, .inl (gB g, 1500, .inl fn0)), (h0, .inr (1, [.ref h3, .ref h4, .ref h1, .int z160, .long z25, .long y1, .int x1, .int x2, .long y2, .long y3]))] rfl ?_
                    have p162 : 0 ≤ (Int32.toInt z160) := w161.1
                    have p163 : (Int32.toInt z160) ≤ 2 := w161.2.1
                    have p164 : WNT (1 : Int) (Int32.toInt z24) (Int32.toInt z160) := w161.2.2.1
                    have p165 : (((1 : Int) = 1 ∧ (Int32.toInt z160) = (Int32.toInt z24)) ∨ ((1 : Int) = 0 ∧ 1 ≤ (Int32.toInt z160))) := w161.2.2.2
                    rcases p165 with ⟨k166, k167⟩ | p165
                    · skip
                      obtain ⟨z168, ez168⟩ : ∃ z_9, z1 + Int32.ofInt 1 = z_9 := ⟨_, rfl⟩
                      have tz168 : (Int32.toInt z168) = (Int32.toInt z1) + 1 := by rw [← ez168]; exact fb_addIv (a := 0) (b := 1501) (c := 1) (d := 1) ⟨i9a, i9b⟩ ⟨by decide, by decide⟩ (by decide) (by decide)
                      refine r_iinc 88 4 z168 C dX1_takeReal_88 rfl ez168 [(2, .int z168), (1, .int 1), (5, .int z89), (4, .int z88), (3, .int r26), (0, .ref h0)] (by decide) rfl ?_
                      refine r_goto 91 4 C dX1_takeReal_91 (by decide) ?_
                      refine r_lv [(2, .int z168), (1, .int 1), (0, .ref h0)] [0, 1, 5] rfl ?_
                      refine r_pick [(h0, .inr (1, [.ref h3, .ref h4, .ref h1, .int z160, .long z25, .long y1, .int x1, .int x2, .long y2, .long y3])), (h1, .inr (4, [.ref h2, .int x3])), (h2, .inl (gB g, 1500, .inl fn0))] [2, 0, 1] (by decide) rfl ?_
                      exact ih7 z168 1 z160 z25 ⟨by omega, by omega⟩ (by decide) ⟨p162, p163⟩ ⟨p33, p34⟩ (by show (¬ ((Int32.toInt z160) = 0) ∨ ((Int32.toInt x0) = 0 ∧ (Int64.toInt z25) = (Int64.toInt y0) + (Int32.toInt z168) ∧ ((Int32.toInt z168) = 0 ∨ (0 ≤ (Int64.toInt y0) ∧ (Int64.toInt z25) ≤ (Int32.toInt x3))) ∧ ((1 : Int) = 1 ∨ 1 ≤ (Int32.toInt z168)))); omega) (show CND ((Int64.toInt y1) ≤ (Int32.toInt x3) ∧ 0 ≤ (Int64.toInt y0)) (LPQ (Int32.toInt x0) (Int32.toInt z160) (REAL (GB fn0 (Int32.toInt x3)) (Int64.toInt y1) (Int64.toInt y0)) (RLX (GB fn0 (Int32.toInt x3)) (Int64.toInt y1) (1 : Int) (Int64.toInt z25)) True) from fun h_7 => real_step (up := (Int32.toInt z88)) (lo := (Int32.toInt z89)) h_7.1 (by omega) ((show CND ((Int64.toInt y1) ≤ (Int32.toInt x3) ∧ 0 ≤ (Int64.toInt y0)) (LPQ (Int32.toInt x0) (Int32.toInt z3) (REAL (GB fn0 (Int32.toInt x3)) (Int64.toInt y1) (Int64.toInt y0)) (RLX (GB fn0 (Int32.toInt x3)) (Int64.toInt y1) (Int32.toInt z2) (Int64.toInt z4)) True) by assumption) h_7) (by omega) p35 p164 (by omega) (fun _ => and15_nn ez89 (by omega)) (by omega) (by omega)) (by omega)
                    obtain ⟨k169, k170⟩ := p165
                    exact absurd trivial (by omega)
  exact lp6 _ 0 1 x0 y0 (by decide) (by decide) i_x0 i_y0 (by show (¬ ((Int32.toInt x0) = 0) ∨ ((Int32.toInt x0) = 0 ∧ (Int64.toInt y0) = (Int64.toInt y0) + (0 : Int) ∧ ((0 : Int) = 0 ∨ (0 ≤ (Int64.toInt y0) ∧ (Int64.toInt y0) ≤ (Int32.toInt x3))) ∧ ((1 : Int) = 1 ∨ 1 ≤ (0 : Int)))); omega) (fun _ => real_0) (Nat.lt_succ_self _)
