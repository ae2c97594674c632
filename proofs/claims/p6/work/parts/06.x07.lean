set_option maxHeartbeats 4000000 in
set_option maxRecDepth 100000 in
theorem c222_J7_fill_d0a16 (l : Launch) (g : GD) (h0 : Nat) (fm0 : Nat → Int64) (sz : Nat) : Met l yJ7_fill_d0a16 wsJ7_fill_d0a16 ({ frames := 0, cells := 0, slots := 0, locals := 0 }) (va_Pc [.ref h0, .long 0] (PW g [(h0, .inl (gJ g, 32, .inr (.inl fm0)))] sz)) (va_Qv (fun (u : (Nat → Int64)) => True) (BW g (va_A [(h0, .inl (gJ g, 32, .inr (.inl fm0)))] sz) (fun u : (Nat → Int64) => [(h0, .inl (gJ g, 32, .inr (.inl u)))])) (va_A [(h0, .inl (gJ g, 32, .inr (.inl fm0)))] sz)) 0 0 (va_A [(h0, .inl (gJ g, 32, .inr (.inl fm0)))] sz) := by
  refine met_v RJ7 (by decide) rfl rfl (Nat.le_of_ble_eq_true rfl) [(0, .ref h0), (1, .long 0)] rfl ?_
  intro p e s m args below meth c A Q C hnm Rt
  refine r_iconst 0 0 C dJ7_fill_d0a16_0 (by decide) ?_
  refine r_istore_n 1 C dJ7_fill_d0a16_1 [(3, .int 0), (0, .ref h0), (1, .long 0)] (by decide) rfl ?_
  refine r_aload_n 2 1 C dJ7_fill_d0a16_2 rfl ?_
  refine r_lalen 3 32 C dJ7_fill_d0a16_3 0 rfl (by decide) ?_
  refine r_istore 4 C dJ7_fill_d0a16_4 [(4, .int 32), (3, .int 0), (0, .ref h0), (1, .long 0)] (by decide) rfl ?_
  have lp4 : ∀ (n3 : Nat) (z1 : Int32) (f2 : Nat → Int64), (0 ≤ (Int32.toInt z1) ∧ (Int32.toInt z1) ≤ 32) → Int.toNat (32 - (Int32.toInt z1)) < n3 → WW p l e ({ frames := 0, cells := 0, slots := 0, locals := 0 } : Room) s m args below meth c A Q g 5 0 0 [(h0, .inl (gJ g, 32, .inr (.inl f2)))] 6 [(4, .int 32), (3, .int z1), (0, .ref h0), (1, .long 0)] [] := by
    intro n3
    induction n3 with
    | zero => intro z1 f2 i7 hm6; exact absurd hm6 (Nat.not_lt_zero _)
    | succ n3 ih5 =>
      intro z1 f2 i7 hm6
      obtain ⟨i7a, i7b⟩ := i7
      refine r_iload_n 6 1 C dJ7_fill_d0a16_6 rfl ?_
      refine r_iload 7 0 C dJ7_fill_d0a16_7 rfl ?_
      refine r_icmp_ge 9 22 C dJ7_fill_d0a16_9 (by decide) (fun c8 => ?_) (fun c8 => ?_)
      · skip
        have k9 : 32 ≤ (Int32.toInt z1) := (fa_le 32 z1).mp c8
        exact r_vret 22 Rt dJ7_fill_d0a16_22 f2 trivial [0] (by decide) rfl (Nat.le_of_ble_eq_true rfl) (Nat.le_of_ble_eq_true rfl)
      · skip
        have k10 : ¬ (32 ≤ (Int32.toInt z1)) := fun h_9 => c8 ((fa_le 32 z1).mpr h_9)
        refine r_aload_n 12 2 C dJ7_fill_d0a16_12 rfl ?_
        refine r_iload_n 13 1 C dJ7_fill_d0a16_13 rfl ?_
        refine r_lload_n 14 3 C dJ7_fill_d0a16_14 rfl ?_
        obtain ⟨f11, ef11⟩ : ∃ f_9, vp_updL f2 (Int32.toNatClampNeg z1) 0 = f_9 := ⟨_, rfl⟩
        refine r_last 15 C dJ7_fill_d0a16_15 0 rfl (vinI (by omega) (by omega)) f11 ef11 [(h0, .inl (gJ g, 32, .inr (.inl f11)))] rfl ?_
        obtain ⟨z12, ez12⟩ : ∃ z_9, z1 + Int32.ofInt 1 = z_9 := ⟨_, rfl⟩
        have tz12 : (Int32.toInt z12) = (Int32.toInt z1) + 1 := by rw [← ez12]; exact fb_addIv (a := 0) (b := 32) (c := 1) (d := 1) ⟨i7a, i7b⟩ ⟨by decide, by decide⟩ (by decide) (by decide)
        refine r_iinc 16 1 z12 C dJ7_fill_d0a16_16 rfl ez12 [(3, .int z12), (4, .int 32), (0, .ref h0), (1, .long 0)] (by decide) rfl ?_
        refine r_goto 19 6 C dJ7_fill_d0a16_19 (by decide) ?_
        refine r_lv [(4, .int 32), (3, .int z12), (0, .ref h0), (1, .long 0)] [1, 0, 2, 3] rfl ?_
        exact ih5 z12 f11 ⟨by omega, by omega⟩ (by omega)
  exact lp4 _ 0 fm0 (by decide) (Nat.lt_succ_self _)
set_option maxHeartbeats 4000000 in
set_option maxRecDepth 100000 in
theorem c223_X7_begin (l : Launch) (g : GD) (h0 : Nat) (h1 : Nat) (x0 : Int32) (h2 : Nat) (x1 : Int32) (x2 : Int32) (fm0 : Nat → Int64) (i_x0 : (0 ≤ (Int32.toInt x0) ∧ (Int32.toInt x0) ≤ 48)) (i_x1 : (0 ≤ (Int32.toInt x1) ∧ (Int32.toInt x1) ≤ 48)) (i_x2 : (0 ≤ (Int32.toInt x2) ∧ (Int32.toInt x2) ≤ 48)) (sz : Nat) : Met l yX7_begin wsX7_begin ({ frames := 1, cells := 0, slots := 0, locals := 24 }) (va_Pc [.ref h0, .int x0] (PW g [(h0, .inr (6, [.ref h2, .ref h1, .int x1, .int x2])), (h1, .inl (gJ g, 32, .inr (.inl fm0)))] sz)) (va_Qv (fun (u : (Int32) × (Nat → Int64)) => 0 ≤ (Int32.toInt (u.1)) ∧ (Int32.toInt (u.1)) ≤ 48) (BW g (va_A [(h0, .inr (6, [.ref h2, .ref h1, .int x1, .int x2])), (h1, .inl (gJ g, 32, .inr (.inl fm0)))] sz) (fun u : (Int32) × (Nat → Int64) => [(h0, .inr (6, [.ref h2, .ref h1, .int 0, .int u.1])), (h1, .inl (gJ g, 32, .inr (.inl u.2)))])) (va_A [(h0, .inr (6, [.ref h2, .ref h1, .int x1, .int x2])), (h1, .inl (gJ g, 32, .inr (.inl fm0)))] sz)) 0 0 (va_A [(h0, .inr (6, [.ref h2, .ref h1, .int x1, .int x2])), (h1, .inl (gJ g, 32, .inr (.inl fm0)))] sz) := by
  refine met_v RX7 (by decide) rfl rfl (Nat.le_of_ble_eq_true rfl) [(0, .ref h0), (1, .int x0)] rfl ?_
  intro p e s m args below meth c A Q C hnm Rt
  have hiX7 : ∀ w ∈ wsX70, w ∈ wsX7_begin := fun w h => List.mem_cons_of_mem _ (List.mem_append_right _ (h))
  refine r_aload_n 0 0 C dX7_begin_0 rfl ?_
  refine r_iconst 1 0 C dX7_begin_1 (by decide) ?_
  refine r_put 2 C dX7_begin_2 (k := 2) 0 rfl rfl hiX7 tyX7 tyX7_ok nmX7 (by decide) rfl (mg 1 rfl) (Or.inl rfl) rfl rfl rfl rfl (Nat.le_of_ble_eq_true rfl) [(h0, .inr (6, [.ref h2, .ref h1, .int 0, .int x2])), (h1, .inl (gJ g, 32, .inr (.inl fm0)))] rfl ?_
  refine r_aload_n 5 0 C dX7_begin_5 rfl ?_
  refine r_iload_n 6 1 C dX7_begin_6 rfl ?_
  refine r_bipush 7 48 C dX7_begin_7 (by decide) ?_
  obtain ⟨z1, ez1⟩ : ∃ z_9, (if 48 < x0 then 48 else x0) = z_9 := ⟨_, rfl⟩
  have tz1 : (48 < (Int32.toInt x0) ∧ (Int32.toInt z1) = 48) ∨ (¬ (48 < (Int32.toInt x0)) ∧ (Int32.toInt z1) = (Int32.toInt x0)) := by rw [← ez1]; exact mx_or 48 x0 48 x0
  refine r_mmin 9 z1 C dX7_begin_9 (mg 2 rfl) (mg 3 rfl) (mg 4 rfl) (mg 5 rfl) (Nat.le_of_ble_eq_true rfl) (Nat.le_of_ble_eq_true rfl) (Nat.le_of_ble_eq_true rfl) (Nat.le_of_ble_eq_true rfl) ez1 ?_
  refine r_put 12 C dX7_begin_12 (k := 3) 0 rfl rfl hiX7 tyX7 tyX7_ok nmX7 (by decide) rfl (mg 6 rfl) (Or.inl rfl) rfl rfl rfl rfl (Nat.le_of_ble_eq_true rfl) [(h0, .inr (6, [.ref h2, .ref h1, .int 0, .int z1])), (h1, .inl (gJ g, 32, .inr (.inl fm0)))] rfl ?_
  refine r_aload_n 15 0 C dX7_begin_15 rfl ?_
  refine r_get 16 C dX7_begin_16 (k := 1) 0 rfl rfl hiX7 (by decide) rfl (mg 7 rfl) (Or.inl rfl) rfl ?_
  refine r_lconst 19 0 C dX7_begin_19 (by decide) ?_
  refine r_callSv 20 C dX7_begin_20 [] [(h1, .inl (gJ g, 32, .inr (.inl fm0)))] [(h0, .inr (6, [.ref h2, .ref h1, .int 0, .int z1]))] (fun sz => c222_J7_fill_d0a16 l g h1 fm0  sz) gX7_begin_J7_fill_d0a16 rfl ⟨rfl, rfl⟩ 2 (by decide) ⟨Nat.le_of_ble_eq_true rfl, Nat.le_of_ble_eq_true rfl⟩ [1] [0] rfl rfl (by decide) (by decide) (by decide) rfl rfl (Nat.le_of_ble_eq_true rfl) ⟨Nat.le_of_ble_eq_true rfl, Nat.le_of_ble_eq_true rfl⟩ (fun  f2 w3 => ?_)
  refine r_ws [(h0, .inr (6, [.ref h2, .ref h1, .int 0, .int z1])), (h1, .inl (gJ g, 32, .inr (.inl f2)))] rfl ?_
  exact r_vret 23 Rt dX7_begin_23 (z1, f2) (show 0 ≤ (Int32.toInt z1) ∧ (Int32.toInt z1) ≤ 48 from ⟨(by ((repeat' apply And.intro) <;> first | trivial | rfl | assumption | omega | decide | exact Or.inl rfl | exact Or.inr (Or.inl rfl) | exact Or.inr (Or.inr rfl))), (by ((repeat' apply And.intro) <;> first | trivial | rfl | assumption | omega | decide | exact Or.inl rfl | exact Or.inr (Or.inl rfl) | exact Or.inr (Or.inr rfl)))⟩) [0, 1] (by decide) rfl (Nat.le_of_ble_eq_true rfl) (Nat.le_of_ble_eq_true rfl)
set_option maxHeartbeats 4000000 in
set_option maxRecDepth 100000 in
theorem c224_X9_prepare (l : Launch) (g : GD) (h0 : Nat) (h1 : Nat) (h2 : Nat) (h3 : Nat) (h4 : Nat) (x0 : Int32) (x1 : Int32) (y0 : Int64) (x2 : Int32) (x3 : Int32) (x4 : Int32) (x5 : Int32) (h5 : Nat) (h6 : Nat) (h7 : Nat) (x6 : Int32) (x7 : Int32) (h8 : Nat) (h9 : Nat) (x8 : Int32) (h10 : Nat) (x9 : Int32) (h11 : Nat) (x10 : Int32) (x11 : Int32) (fm0 : Nat → Int64) (i_x5 : (0 ≤ (Int32.toInt x5) ∧ (Int32.toInt x5) ≤ 1)) (i_x6 : (0 ≤ (Int32.toInt x6) ∧ (Int32.toInt x6) ≤ 10)) (i_x7 : (0 ≤ (Int32.toInt x7) ∧ (Int32.toInt x7) ≤ 1)) (i_x8 : (0 ≤ (Int32.toInt x8) ∧ (Int32.toInt x8) ≤ 7)) (i_x9 : (0 ≤ (Int32.toInt x9) ∧ (Int32.toInt x9) ≤ 24)) (i_x10 : (0 ≤ (Int32.toInt x10) ∧ (Int32.toInt x10) ≤ 48)) (i_x11 : (0 ≤ (Int32.toInt x11) ∧ (Int32.toInt x11) ≤ 48)) (sz : Nat) : Met l yX9_prepare wsX9_prepare ({ frames := 2, cells := 0, slots := 0, locals := 45 }) (va_Pc [.ref h0] (PW g [(h0, .inr (8, [.ref h1, .ref h3, .ref h4, .int x0, .int x1, .long y0, .int x2, .int x3, .int x4, .int x5, .ref h5, .ref h6, .ref h7, .int x6, .int x7, .ref h8, .ref h9, .int x8, .ref h10, .int x9])), (h1, .inr (6, [.ref h11, .ref h2, .int x10, .int x11])), (h2, .inl (gJ g, 32, .inr (.inl fm0)))] sz)) (va_Qv (fun (u : (Int32) × (Nat → Int64)) => 0 ≤ (Int32.toInt (u.1)) ∧ (Int32.toInt (u.1)) ≤ 48) (BW g (va_A [(h0, .inr (8, [.ref h1, .ref h3, .ref h4, .int x0, .int x1, .long y0, .int x2, .int x3, .int x4, .int x5, .ref h5, .ref h6, .ref h7, .int x6, .int x7, .ref h8, .ref h9, .int x8, .ref h10, .int x9])), (h1, .inr (6, [.ref h11, .ref h2, .int x10, .int x11])), (h2, .inl (gJ g, 32, .inr (.inl fm0)))] sz) (fun u : (Int32) × (Nat → Int64) => [(h0, .inr (8, [.ref h1, .ref h3, .ref h4, .int x0, .int x1, .long y0, .int x2, .int x3, .int x4, .int x5, .ref h5, .ref h6, .ref h7, .int x6, .int 0, .ref h8, .ref h9, .int 0, .ref h10, .int 0])), (h1, .inr (6, [.ref h11, .ref h2, .int 0, .int u.1])), (h2, .inl (gJ g, 32, .inr (.inl u.2)))])) (va_A [(h0, .inr (8, [.ref h1, .ref h3, .ref h4, .int x0, .int x1, .long y0, .int x2, .int x3, .int x4, .int x5, .ref h5, .ref h6, .ref h7, .int x6, .int x7, .ref h8, .ref h9, .int x8, .ref h10, .int x9])), (h1, .inr (6, [.ref h11, .ref h2, .int x10, .int x11])), (h2, .inl (gJ g, 32, .inr (.inl fm0)))] sz)) 0 0 (va_A [(h0, .inr (8, [.ref h1, .ref h3, .ref h4, .int x0, .int x1, .long y0, .int x2, .int x3, .int x4, .int x5, .ref h5, .ref h6, .ref h7, .int x6, .int x7, .ref h8, .ref h9, .int x8, .ref h10, .int x9])), (h1, .inr (6, [.ref h11, .ref h2, .int x10, .int x11])), (h2, .inl (gJ g, 32, .inr (.inl fm0)))] sz) := by
  refine met_v RX9 (by decide) rfl rfl (Nat.le_of_ble_eq_true rfl) [(0, .ref h0)] rfl ?_
  intro p e s m args below meth c A Q C hnm Rt
  have hiX9 : ∀ w ∈ wsX90, w ∈ wsX9_prepare := fun w h => List.mem_cons_of_mem _ (List.mem_append_left _ (List.mem_append_right _ (h)))
  refine r_aload_n 0 0 C dX9_prepare_0 rfl ?_
  refine r_get 1 C dX9_prepare_1 (k := 0) 0 rfl rfl hiX9 (by decide) rfl (mg 1 rfl) (Or.inr (mg 2 rfl)) rfl ?_
  refine r_bipush 4 24 C dX9_prepare_4 (by decide) ?_
  refine r_callVv 6 C dX9_prepare_6 [] [(h1, .inr (6, [.ref h11, .ref h2, .int x10, .int x11])), (h2, .inl (gJ g, 32, .inr (.inl fm0)))] [(h0, .inr (8, [.ref h1, .ref h3, .ref h4, .int x0, .int x1, .long y0, .int x2, .int x3, .int x4, .int x5, .ref h5, .ref h6, .ref h7, .int x6, .int x7, .ref h8, .ref h9, .int x8, .ref h10, .int x9]))] (fun sz => c223_X7_begin l g h1 h2 24 h11 x10 x11 fm0 (by decide) i_x10 i_x11 sz) gX9_prepare_X7_begin rfl ⟨rfl, rfl⟩ 1 (by decide) ⟨Nat.le_of_ble_eq_true rfl, Nat.le_of_ble_eq_true rfl⟩ 1 rfl rfl [1, 2] [0] rfl rfl (by decide) (by decide) (by decide) rfl rfl (Nat.le_of_ble_eq_true rfl) ⟨Nat.le_of_ble_eq_true rfl, Nat.le_of_ble_eq_true rfl⟩ (fun  u4 w3 => ?_)
  obtain ⟨z1, f2⟩ := u4
  refine r_ws [(h0, .inr (8, [.ref h1, .ref h3, .ref h4, .int x0, .int x1, .long y0, .int x2, .int x3, .int x4, .int x5, .ref h5, .ref h6, .ref h7, .int x6, .int x7, .ref h8, .ref h9, .int x8, .ref h10, .int x9])), (h1, .inr (6, [.ref h11, .ref h2, .int 0, .int z1])), (h2, .inl (gJ g, 32, .inr (.inl f2)))] rfl ?_
  have p5 : 0 ≤ (Int32.toInt z1) := w3.1
  have p6 : (Int32.toInt z1) ≤ 48 := w3.2
  refine r_aload_n 9 0 C dX9_prepare_9 rfl ?_
  refine r_iconst 10 0 C dX9_prepare_10 (by decide) ?_
  refine r_put 11 C dX9_prepare_11 (k := 14) 0 rfl rfl hiX9 tyX9 tyX9_ok nmX9 (by decide) rfl (mg 3 rfl) (Or.inl rfl) rfl rfl rfl rfl (Nat.le_of_ble_eq_true rfl) [(h0, .inr (8, [.ref h1, .ref h3, .ref h4, .int x0, .int x1, .long y0, .int x2, .int x3, .int x4, .int x5, .ref h5, .ref h6, .ref h7, .int x6, .int 0, .ref h8, .ref h9, .int x8, .ref h10, .int x9])), (h1, .inr (6, [.ref h11, .ref h2, .int 0, .int z1])), (h2, .inl (gJ g, 32, .inr (.inl f2)))] rfl ?_
  refine r_aload_n 14 0 C dX9_prepare_14 rfl ?_
  refine r_iconst 15 0 C dX9_prepare_15 (by decide) ?_
  refine r_put 16 C dX9_prepare_16 (k := 17) 0 rfl rfl hiX9 tyX9 tyX9_ok nmX9 (by decide) rfl (mg 4 rfl) (Or.inl rfl) rfl rfl rfl rfl (Nat.le_of_ble_eq_true rfl) [(h0, .inr (8, [.ref h1, .ref h3, .ref h4, .int x0, .int x1, .long y0, .int x2, .int x3, .int x4, .int x5, .ref h5, .ref h6, .ref h7, .int x6, .int 0, .ref h8, .ref h9, .int 0, .ref h10, .int x9])), (h1, .inr (6, [.ref h11, .ref h2, .int 0, .int z1])), (h2, .inl (gJ g, 32, .inr (.inl f2)))] rfl ?_
  refine r_aload_n 19 0 C dX9_prepare_19 rfl ?_
  refine r_iconst 20 0 C dX9_prepare_20 (by decide) ?_
  refine r_put 21 C dX9_prepare_21 (k := 19) 0 rfl rfl hiX9 tyX9 tyX9_ok nmX9 (by decide) rfl (mg 5 rfl) (Or.inl rfl) rfl rfl rfl rfl (Nat.le_of_ble_eq_true rfl) [(h0, .inr (8, [.ref h1, .ref h3, .ref h4, .int x0, .int x1, .long y0, .int x2, .int x3, .int x4, .int x5, .ref h5, .ref h6, .ref h7, .int x6, .int 0, .ref h8, .ref h9, .int 0, .ref h10, .int 0])), (h1, .inr (6, [.ref h11, .ref h2, .int 0, .int z1])), (h2, .inl (gJ g, 32, .inr (.inl f2)))] rfl ?_
  exact r_vret 24 Rt dX9_prepare_24 (z1, f2) (show 0 ≤ (Int32.toInt z1) ∧ (Int32.toInt z1) ≤ 48 from ⟨(show _ ∧ _ from ⟨p5, p6⟩).1, (show _ ∧ _ from ⟨p5, p6⟩).2⟩) [0, 1, 2] (by decide) rfl (Nat.le_of_ble_eq_true rfl) (Nat.le_of_ble_eq_true rfl)
set_option maxHeartbeats 4000000 in
set_option maxRecDepth 100000 in
theorem c225_X4_takeByte (l : Launch) (g : GD) (h0 : Nat) (h1 : Nat) (h2 : Nat) (h3 : Nat) (h4 : Nat) (h5 : Nat) (x0 : Int32) (x1 : Int32) (y0 : Int64) (x2 : Int32) (x3 : Int32) (x4 : Int32) (x5 : Int32) (h6 : Nat) (h7 : Nat) (h8 : Nat) (x6 : Int32) (x7 : Int32) (h9 : Nat) (h10 : Nat) (x8 : Int32) (h11 : Nat) (x9 : Int32) (h12 : Nat) (h13 : Nat) (h14 : Nat) (x10 : Int32) (x11 : Int32) (x12 : Int32) (x13 : Int32) (fn0 : Nat → Int32) (i_x5 : (0 ≤ (Int32.toInt x5) ∧ (Int32.toInt x5) ≤ 1)) (i_x6 : (0 ≤ (Int32.toInt x6) ∧ (Int32.toInt x6) ≤ 10)) (i_x7 : (0 ≤ (Int32.toInt x7) ∧ (Int32.toInt x7) ≤ 1)) (i_x8 : (0 ≤ (Int32.toInt x8) ∧ (Int32.toInt x8) ≤ 7)) (i_x9 : (0 ≤ (Int32.toInt x9) ∧ (Int32.toInt x9) ≤ 24)) (i_x13 : (0 ≤ (Int32.toInt x13) ∧ (Int32.toInt x13) ≤ 1500)) (sz : Nat) : Met l yX4_takeByte wsX4_takeByte ({ frames := 1, cells := 0, slots := 0, locals := 22 }) (va_Pc [.ref h0] (PW g [(h0, .inr (8, [.ref h4, .ref h5, .ref h1, .int x0, .int x1, .long y0, .int x2, .int x3, .int x4, .int x5, .ref h6, .ref h7, .ref h8, .int x6, .int x7, .ref h9, .ref h10, .int x8, .ref h11, .int x9])), (h1, .inr (3, [.ref h2, .ref h12, .ref h13, .ref h14, .int x10, .int x11, .int x12])), (h2, .inr (4, [.ref h3, .int x13])), (h3, .inl (gB g, 1500, .inl fn0))] sz)) (va_Qi (fun (r : Int32) (u : (Int32)) => -1 ≤ (Int32.toInt r) ∧ (Int32.toInt r) ≤ 255) (BW g (va_A [(h0, .inr (8, [.ref h4, .ref h5, .ref h1, .int x0, .int x1, .long y0, .int x2, .int x3, .int x4, .int x5, .ref h6, .ref h7, .ref h8, .int x6, .int x7, .ref h9, .ref h10, .int x8, .ref h11, .int x9])), (h1, .inr (3, [.ref h2, .ref h12, .ref h13, .ref h14, .int x10, .int x11, .int x12])), (h2, .inr (4, [.ref h3, .int x13])), (h3, .inl (gB g, 1500, .inl fn0))] sz) (fun u : (Int32) => [(h0, .inr (8, [.ref h4, .ref h5, .ref h1, .int x0, .int x1, .long y0, .int x2, .int x3, .int u, .int x5, .ref h6, .ref h7, .ref h8, .int x6, .int x7, .ref h9, .ref h10, .int x8, .ref h11, .int x9])), (h1, .inr (3, [.ref h2, .ref h12, .ref h13, .ref h14, .int x10, .int x11, .int x12])), (h2, .inr (4, [.ref h3, .int x13])), (h3, .inl (gB g, 1500, .inl fn0))])) (va_A [(h0, .inr (8, [.ref h4, .ref h5, .ref h1, .int x0, .int x1, .long y0, .int x2, .int x3, .int x4, .int x5, .ref h6, .ref h7, .ref h8, .int x6, .int x7, .ref h9, .ref h10, .int x8, .ref h11, .int x9])), (h1, .inr (3, [.ref h2, .ref h12, .ref h13, .ref h14, .int x10, .int x11, .int x12])), (h2, .inr (4, [.ref h3, .int x13])), (h3, .inl (gB g, 1500, .inl fn0))] sz)) 0 0 (va_A [(h0, .inr (8, [.ref h4, .ref h5, .ref h1, .int x0, .int x1, .long y0, .int x2, .int x3, .int x4, .int x5, .ref h6, .ref h7, .ref h8, .int x6, .int x7, .ref h9, .ref h10, .int x8, .ref h11, .int x9])), (h1, .inr (3, [.ref h2, .ref h12, .ref h13, .ref h14, .int x10, .int x11, .int x12])), (h2, .inr (4, [.ref h3, .int x13])), (h3, .inl (gB g, 1500, .inl fn0))] sz) := by
  refine met_i RX4 (by decide) rfl rfl (Nat.le_of_ble_eq_true rfl) [(0, .ref h0)] rfl ?_
  intro p e s m args below meth c A Q C hnm Rt
  have gx3 := fb_rng x3
  have gx4 := fb_rng x4
  have hiX9 : ∀ w ∈ wsX90, w ∈ wsX4_takeByte := fun w h => List.mem_cons_of_mem _ (List.mem_append_left _ (List.mem_append_left _ (List.mem_append_right _ (h))))
  have hiX3 : ∀ w ∈ wsX30, w ∈ wsX4_takeByte := fun w h => List.mem_cons_of_mem _ (List.mem_append_left _ (List.mem_append_right _ (h)))
  refine r_aload_n 0 0 C dX4_takeByte_0 rfl ?_
  refine r_get 1 C dX4_takeByte_1 (k := 8) 0 rfl rfl hiX9 (by decide) rfl (mg 1 rfl) (Or.inl rfl) rfl ?_
  refine r_aload_n 4 0 C dX4_takeByte_4 rfl ?_
  refine r_get 5 C dX4_takeByte_5 (k := 7) 0 rfl rfl hiX9 (by decide) rfl (mg 2 rfl) (Or.inl rfl) rfl ?_
  refine r_icmp_lt 8 13 C dX4_takeByte_8 (by decide) (fun c1 => ?_) (fun c1 => ?_)
  · skip
    have k2 : (Int32.toInt x4) < (Int32.toInt x3) := (fa_lt x4 x3).mp c1
    refine r_aload_n 13 0 C dX4_takeByte_13 rfl ?_
    refine r_dup 14 C dX4_takeByte_14 rfl ?_
    refine r_get 15 C dX4_takeByte_15 (k := 8) 0 rfl rfl hiX9 (by decide) rfl (mg 1 rfl) (Or.inl rfl) rfl ?_
    refine r_iconst 18 1 C dX4_takeByte_18 (by decide) ?_
    obtain ⟨z3, ez3⟩ : ∃ z_9, x4 + 1 = z_9 := ⟨_, rfl⟩
    have tz3 : (Int32.toInt z3) = (Int32.toInt x4) + 1 := by rw [← ez3]; exact fb_addI (by show -2147483648 ≤ (Int32.toInt x4) + 1; omega) (by show (Int32.toInt x4) + 1 < 2147483648; omega)
    refine r_iadd 19 z3 C dX4_takeByte_19 ez3 ?_
    refine r_put 20 C dX4_takeByte_20 (k := 8) 0 rfl rfl hiX9 tyX9 tyX9_ok nmX9 (by decide) rfl (mg 1 rfl) (Or.inl rfl) rfl rfl rfl rfl (Nat.le_of_ble_eq_true rfl) [(h0, .inr (8, [.ref h4, .ref h5, .ref h1, .int x0, .int x1, .long y0, .int x2, .int x3, .int z3, .int x5, .ref h6, .ref h7, .ref h8, .int x6, .int x7, .ref h9, .ref h10, .int x8, .ref h11, .int x9])), (h1, .inr (3, [.ref h2, .ref h12, .ref h13, .ref h14, .int x10, .int x11, .int x12])), (h2, .inr (4, [.ref h3, .int x13])), (h3, .inl (gB g, 1500, .inl fn0))] rfl ?_
    refine r_aload_n 23 0 C dX4_takeByte_23 rfl ?_
    refine r_get 24 C dX4_takeByte_24 (k := 2) 0 rfl rfl hiX9 (by decide) rfl (mg 3 rfl) (Or.inl rfl) rfl ?_
    refine r_getN 27 C dX4_takeByte_27 (k := 0) 1 rfl rfl hiX3 (by decide) rfl (mg 18 rfl) rfl rfl ?_
    refine r_aload_n 30 0 C dX4_takeByte_30 rfl ?_
    refine r_get 31 C dX4_takeByte_31 (k := 8) 0 rfl rfl hiX9 (by decide) rfl (mg 1 rfl) (Or.inl rfl) rfl ?_
    refine r_iconst 34 1 C dX4_takeByte_34 (by decide) ?_
    obtain ⟨z4, ez4⟩ : ∃ z_9, z3 - 1 = z_9 := ⟨_, rfl⟩
    have tz4 : (Int32.toInt z4) = (Int32.toInt z3) - 1 := by rw [← ez4]; exact fb_subI (by show -2147483648 ≤ (Int32.toInt z3) - 1; omega) (by show (Int32.toInt z3) - 1 < 2147483648; omega)
    refine r_isub 35 z4 C dX4_takeByte_35 ez4 ?_
    obtain ⟨z5, ez5⟩ : ∃ z_9, Int32.toInt64 z4 = z_9 := ⟨_, rfl⟩
    have tz5 : (Int64.toInt z5) = (Int32.toInt z4) := by rw [← ez5]; exact Int32.toInt_toInt64 _
    refine r_i2l 36 z5 C dX4_takeByte_36 ez5 ?_
    refine r_callVi 37 C dX4_takeByte_37 [] [(h2, .inr (4, [.ref h3, .int x13])), (h3, .inl (gB g, 1500, .inl fn0))] [(h0, .inr (8, [.ref h4, .ref h5, .ref h1, .int x0, .int x1, .long y0, .int x2, .int x3, .int z3, .int x5, .ref h6, .ref h7, .ref h8, .int x6, .int x7, .ref h9, .ref h10, .int x8, .ref h11, .int x9])), (h1, .inr (3, [.ref h2, .ref h12, .ref h13, .ref h14, .int x10, .int x11, .int x12]))] (fun sz => c14_X5_get l g h2 h3 z5 x13 fn0 i_x13 sz) gX4_takeByte_X5_get rfl ⟨rfl, rfl⟩ 1 (by decide) ⟨Nat.le_of_ble_eq_true rfl, Nat.le_of_ble_eq_true rfl⟩ 2 rfl rfl [2, 3] [0, 1] rfl rfl (by decide) (by decide) (by decide) rfl rfl (Nat.le_of_ble_eq_true rfl) ⟨Nat.le_of_ble_eq_true rfl, Nat.le_of_ble_eq_true rfl⟩ (fun r6 _ w7 => ?_)
    refine r_ws [(h0, .inr (8, [.ref h4, .ref h5, .ref h1, .int x0, .int x1, .long y0, .int x2, .int x3, .int z3, .int x5, .ref h6, .ref h7, .ref h8, .int x6, .int x7, .ref h9, .ref h10, .int x8, .ref h11, .int x9])), (h1, .inr (3, [.ref h2, .ref h12, .ref h13, .ref h14, .int x10, .int x11, .int x12])), (h2, .inr (4, [.ref h3, .int x13])), (h3, .inl (gB g, 1500, .inl fn0))] rfl ?_
    have p8 : -1 ≤ (Int32.toInt r6) := w7.1
    have p9 : (Int32.toInt r6) ≤ 255 := w7.2.1
    have p10 : HID ((0 ≤ (Int64.toInt z5) ∧ (Int64.toInt z5) < (Int32.toInt x13) ∧ r6 = (fn0 (Int.toNat (Int64.toInt z5)) &&& 255)) ∨ (((Int64.toInt z5) < 0 ∨ (Int32.toInt x13) ≤ (Int64.toInt z5)) ∧ r6 = -1)) := w7.2.2.1
    have p11 : (Int32.toInt r6) = GB fn0 (Int32.toInt x13) (Int64.toInt z5) := w7.2.2.2
    exact r_iret 40 Rt dX4_takeByte_40 z3 (show -1 ≤ (Int32.toInt r6) ∧ (Int32.toInt r6) ≤ 255 from ⟨(show _ ∧ _ from ⟨p8, p9⟩).1, (show _ ∧ _ from ⟨p8, p9⟩).2⟩) [0, 1, 2, 3] (by decide) rfl (Nat.le_of_ble_eq_true rfl) (Nat.le_of_ble_eq_true rfl)
  · skip
    have k12 : ¬ ((Int32.toInt x4) < (Int32.toInt x3)) := fun h_9 => c1 ((fa_lt x4 x3).mpr h_9)
    refine r_iconst 11 (-1) C dX4_takeByte_11 (by decide) ?_
    exact r_iret 12 Rt dX4_takeByte_12 x4 (show -1 ≤ (Int32.toInt (-1)) ∧ (Int32.toInt (-1)) ≤ 255 from ⟨(by ((repeat' apply And.intro) <;> first | trivial | rfl | assumption | omega | decide | exact Or.inl rfl | exact Or.inr (Or.inl rfl) | exact Or.inr (Or.inr rfl))), (by ((repeat' apply And.intro) <;> first | trivial | rfl | assumption | omega | decide | exact Or.inl rfl | exact Or.inr (Or.inl rfl) | exact Or.inr (Or.inr rfl)))⟩) [0, 1, 2, 3] (by decide) rfl (Nat.le_of_ble_eq_true rfl) (Nat.le_of_ble_eq_true rfl)
set_option maxHeartbeats 4000000 in
set_option maxRecDepth 100000 in
theorem c226_X9_isNumber (l : Launch) (g : GD) (h0 : Nat) (x0 : Int32) (sz : Nat) : Met l yX9_isNumber wsX9_isNumber ({ frames := 0, cells := 0, slots := 0, locals := 0 }) (va_Pc [.ref h0, .int x0] (PW g [] sz)) (va_Qi (fun (r : Int32) (_ : Unit) => 0 ≤ (Int32.toInt r) ∧ (Int32.toInt r) ≤ 1) (BW g (va_A [] sz) (fun _ : Unit => [])) (va_A [] sz)) 0 0 (va_A [] sz) := by
  refine met_z RX9 (by decide) rfl rfl (Nat.le_of_ble_eq_true rfl) [(0, .ref h0), (1, .int x0)] rfl ?_
  intro p e s m args below meth c A Q C hnm Rt
  have gx0 := fb_rng x0
  refine r_iload_n 0 1 C dX9_isNumber_0 rfl ?_
  refine r_bipush 1 32 C dX9_isNumber_1 (by decide) ?_
  refine r_icmp_lt 3 10 C dX9_isNumber_3 (by decide) (fun c1 => ?_) (fun c1 => ?_)
  · skip
    have k2 : (Int32.toInt x0) < 32 := (fa_lt x0 32).mp c1
    refine r_iconst 10 0 C dX9_isNumber_10 (by decide) ?_
    exact r_zret 11 Rt dX9_isNumber_11 (by decide) () (show 0 ≤ (Int32.toInt 0) ∧ (Int32.toInt 0) ≤ 1 from ⟨(by ((repeat' apply And.intro) <;> first | trivial | rfl | assumption | omega | decide | exact Or.inl rfl | exact Or.inr (Or.inl rfl) | exact Or.inr (Or.inr rfl))), (by ((repeat' apply And.intro) <;> first | trivial | rfl | assumption | omega | decide | exact Or.inl rfl | exact Or.inr (Or.inl rfl) | exact Or.inr (Or.inr rfl)))⟩) [] (by decide) rfl (Nat.le_of_ble_eq_true rfl) (Nat.le_of_ble_eq_true rfl)
  · skip
    have k3 : ¬ ((Int32.toInt x0) < 32) := fun h_9 => c1 ((fa_lt x0 32).mpr h_9)
    refine r_iconst 6 1 C dX9_isNumber_6 (by decide) ?_
    refine r_goto 7 11 C dX9_isNumber_7 (by decide) ?_
    exact r_zret 11 Rt dX9_isNumber_11 (by decide) () (show 0 ≤ (Int32.toInt 1) ∧ (Int32.toInt 1) ≤ 1 from ⟨(by ((repeat' apply And.intro) <;> first | trivial | rfl | assumption | omega | decide | exact Or.inl rfl | exact Or.inr (Or.inl rfl) | exact Or.inr (Or.inr rfl))), (by ((repeat' apply And.intro) <;> first | trivial | rfl | assumption | omega | decide | exact Or.inl rfl | exact Or.inr (Or.inl rfl) | exact Or.inr (Or.inr rfl)))⟩) [] (by decide) rfl (Nat.le_of_ble_eq_true rfl) (Nat.le_of_ble_eq_true rfl)
set_option maxHeartbeats 4000000 in
set_option maxRecDepth 100000 in
theorem c227_X7_push (l : Launch) (g : GD) (h0 : Nat) (h1 : Nat) (y0 : Int64) (h2 : Nat) (x0 : Int32) (x1 : Int32) (fm0 : Nat → Int64) (i_x0 : (0 ≤ (Int32.toInt x0) ∧ (Int32.toInt x0) ≤ 48)) (i_x1 : (0 ≤ (Int32.toInt x1) ∧ (Int32.toInt x1) ≤ 48)) (sz : Nat) : Met l yX7_push wsX7_push ({ frames := 0, cells := 0, slots := 0, locals := 0 }) (va_Pc [.ref h0, .long y0] (PW g [(h0, .inr (6, [.ref h1, .ref h2, .int x0, .int x1])), (h1, .inl (gJ g, 48, .inr (.inl fm0)))] sz)) (va_Qi (fun (r : Int32) (u : (Int32) × (Nat → Int64)) => 0 ≤ (Int32.toInt r) ∧ (Int32.toInt r) ≤ 3 ∧ 0 ≤ (Int32.toInt (u.1)) ∧ (Int32.toInt (u.1)) ≤ 48) (BW g (va_A [(h0, .inr (6, [.ref h1, .ref h2, .int x0, .int x1])), (h1, .inl (gJ g, 48, .inr (.inl fm0)))] sz) (fun u : (Int32) × (Nat → Int64) => [(h0, .inr (6, [.ref h1, .ref h2, .int u.1, .int x1])), (h1, .inl (gJ g, 48, .inr (.inl u.2)))])) (va_A [(h0, .inr (6, [.ref h1, .ref h2, .int x0, .int x1])), (h1, .inl (gJ g, 48, .inr (.inl fm0)))] sz)) 0 0 (va_A [(h0, .inr (6, [.ref h1, .ref h2, .int x0, .int x1])), (h1, .inl (gJ g, 48, .inr (.inl fm0)))] sz) := by
  refine met_i RX7 (by decide) rfl rfl (Nat.le_of_ble_eq_true rfl) [(0, .ref h0), (1, .long y0)] rfl ?_
  intro p e s m args below meth c A Q C hnm Rt
  have hiX7 : ∀ w ∈ wsX70, w ∈ wsX7_push := fun w h => List.mem_cons_of_mem _ (List.mem_append_right _ (h))
  refine r_aload_n 0 0 C dX7_push_0 rfl ?_
  refine r_get 1 C dX7_push_1 (k := 2) 0 rfl rfl hiX7 (by decide) rfl (mg 1 rfl) (Or.inl rfl) rfl ?_
  refine r_aload_n 4 0 C dX7_push_4 rfl ?_
  refine r_get 5 C dX7_push_5 (k := 3) 0 rfl rfl hiX7 (by decide) rfl (mg 2 rfl) (Or.inl rfl) rfl ?_
  refine r_icmp_lt 8 13 C dX7_push_8 (by decide) (fun c1 => ?_) (fun c1 => ?_)
  · skip
    have k2 : (Int32.toInt x0) < (Int32.toInt x1) := (fa_lt x0 x1).mp c1
    refine r_aload_n 13 0 C dX7_push_13 rfl ?_
    refine r_get 14 C dX7_push_14 (k := 0) 0 rfl rfl hiX7 (by decide) rfl (mg 3 rfl) (Or.inl rfl) rfl ?_
    refine r_aload_n 17 0 C dX7_push_17 rfl ?_
    refine r_get 18 C dX7_push_18 (k := 2) 0 rfl rfl hiX7 (by decide) rfl (mg 1 rfl) (Or.inl rfl) rfl ?_
    refine r_lload_n 21 1 C dX7_push_21 rfl ?_
    obtain ⟨f3, ef3⟩ : ∃ f_9, vp_updL fm0 (Int32.toNatClampNeg x0) y0 = f_9 := ⟨_, rfl⟩
    refine r_last 22 C dX7_push_22 1 rfl (vinI (by omega) (by omega)) f3 ef3 [(h0, .inr (6, [.ref h1, .ref h2, .int x0, .int x1])), (h1, .inl (gJ g, 48, .inr (.inl f3)))] rfl ?_
    refine r_aload_n 23 0 C dX7_push_23 rfl ?_
    refine r_dup 24 C dX7_push_24 rfl ?_
    refine r_get 25 C dX7_push_25 (k := 2) 0 rfl rfl hiX7 (by decide) rfl (mg 1 rfl) (Or.inl rfl) rfl ?_
    refine r_iconst 28 1 C dX7_push_28 (by decide) ?_
    obtain ⟨z4, ez4⟩ : ∃ z_9, x0 + 1 = z_9 := ⟨_, rfl⟩
    have tz4 : (Int32.toInt z4) = (Int32.toInt x0) + 1 := by rw [← ez4]; exact fb_addIv (a := 0) (b := 48) (c := 1) (d := 1) i_x0 ⟨by decide, by decide⟩ (by decide) (by decide)
    refine r_iadd 29 z4 C dX7_push_29 ez4 ?_
    refine r_put 30 C dX7_push_30 (k := 2) 0 rfl rfl hiX7 tyX7 tyX7_ok nmX7 (by decide) rfl (mg 1 rfl) (Or.inl rfl) rfl rfl rfl rfl (Nat.le_of_ble_eq_true rfl) [(h0, .inr (6, [.ref h1, .ref h2, .int z4, .int x1])), (h1, .inl (gJ g, 48, .inr (.inl f3)))] rfl ?_
    refine r_iconst 33 0 C dX7_push_33 (by decide) ?_
    exact r_iret 34 Rt dX7_push_34 (z4, f3) (show 0 ≤ (Int32.toInt 0) ∧ (Int32.toInt 0) ≤ 3 ∧ 0 ≤ (Int32.toInt z4) ∧ (Int32.toInt z4) ≤ 48 from ⟨(by ((repeat' apply And.intro) <;> first | trivial | rfl | assumption | omega | decide | exact Or.inl rfl | exact Or.inr (Or.inl rfl) | exact Or.inr (Or.inr rfl))), (by ((repeat' apply And.intro) <;> first | trivial | rfl | assumption | omega | decide | exact Or.inl rfl | exact Or.inr (Or.inl rfl) | exact Or.inr (Or.inr rfl))), (by ((repeat' apply And.intro) <;> first | trivial | rfl | assumption | omega | decide | exact Or.inl rfl | exact Or.inr (Or.inl rfl) | exact Or.inr (Or.inr rfl))), (by ((repeat' apply And.intro) <;> first | trivial | rfl | assumption | omega | decide | exact Or.inl rfl | exact Or.inr (Or.inl rfl) | exact Or.inr (Or.inr rfl)))⟩) [0, 1] (by decide) rfl (Nat.le_of_ble_eq_true rfl) (Nat.le_of_ble_eq_true rfl)
  · skip
    have k5 : ¬ ((Int32.toInt x0) < (Int32.toInt x1)) := fun h_9 => c1 ((fa_lt x0 x1).mpr h_9)
    refine r_iconst 11 3 C dX7_push_11 (by decide) ?_
    exact r_iret 12 Rt dX7_push_12 (x0, fm0) (show 0 ≤ (Int32.toInt 3) ∧ (Int32.toInt 3) ≤ 3 ∧ 0 ≤ (Int32.toInt x0) ∧ (Int32.toInt x0) ≤ 48 from ⟨(by ((repeat' apply And.intro) <;> first | trivial | rfl | assumption | omega | decide | exact Or.inl rfl | exact Or.inr (Or.inl rfl) | exact Or.inr (Or.inr rfl))), (by ((repeat' apply And.intro) <;> first | trivial | rfl | assumption | omega | decide | exact Or.inl rfl | exact Or.inr (Or.inl rfl) | exact Or.inr (Or.inr rfl))), i_x0.1, i_x0.2⟩) [0, 1] (by decide) rfl (Nat.le_of_ble_eq_true rfl) (Nat.le_of_ble_eq_true rfl)
set_option maxHeartbeats 4000000 in
set_option maxRecDepth 100000 in
theorem c228_X9_longNumber (l : Launch) (g : GD) (h0 : Nat) (x0 : Int32) (sz : Nat) : Met l yX9_longNumber wsX9_longNumber ({ frames := 0, cells := 0, slots := 0, locals := 0 }) (va_Pc [.ref h0, .int x0] (PW g [] sz)) (va_Ql (fun (r : Int64) (_ : Unit) => -140737488355328 ≤ (Int64.toInt r) ∧ (Int64.toInt r) ≤ 140737488289792) (BW g (va_A [] sz) (fun _ : Unit => [])) (va_A [] sz)) 0 0 (va_A [] sz) := by
  refine met_l RX9 (by decide) rfl rfl (Nat.le_of_ble_eq_true rfl) [(0, .ref h0), (1, .int x0)] rfl ?_
  intro p e s m args below meth c A Q C hnm Rt
  have gx0 := fb_rng x0
  refine r_iload_n 0 1 C dX9_longNumber_0 rfl ?_
  obtain ⟨z1, ez1⟩ : ∃ z_9, Int32.toInt64 x0 = z_9 := ⟨_, rfl⟩
  have tz1 : (Int64.toInt z1) = (Int32.toInt x0) := by rw [← ez1]; exact Int32.toInt_toInt64 _
  refine r_i2l 1 z1 C dX9_longNumber_1 ez1 ?_
  refine r_ldc2 2 65536 C dX9_longNumber_2 (mg 1 rfl) ?_
  obtain ⟨z2, ez2⟩ : ∃ z_9, z1 * 65536 = z_9 := ⟨_, rfl⟩
  have tz2 : (Int64.toInt z2) = (Int64.toInt z1) * 65536 := by rw [← ez2]; exact fb_mulL (by show -9223372036854775808 ≤ (Int64.toInt z1) * 65536; omega) (by show (Int64.toInt z1) * 65536 < 9223372036854775808; omega)
  refine r_lmul 5 z2 C dX9_longNumber_5 ez2 ?_
  exact r_lret 6 Rt dX9_longNumber_6 () (show -140737488355328 ≤ (Int64.toInt z2) ∧ (Int64.toInt z2) ≤ 140737488289792 from ⟨(by ((repeat' apply And.intro) <;> first | trivial | rfl | assumption | omega | decide | exact Or.inl rfl | exact Or.inr (Or.inl rfl) | exact Or.inr (Or.inr rfl))), (by ((repeat' apply And.intro) <;> first | trivial | rfl | assumption | omega | decide | exact Or.inl rfl | exact Or.inr (Or.inl rfl) | exact Or.inr (Or.inr rfl)))⟩) [] (by decide) rfl (Nat.le_of_ble_eq_true rfl) (Nat.le_of_ble_eq_true rfl)
set_option maxHeartbeats 4000000 in
set_option maxRecDepth 100000 in
theorem c229_X4_takeNumber (l : Launch) (g : GD) (h0 : Nat) (h1 : Nat) (h2 : Nat) (h3 : Nat) (h4 : Nat) (h5 : Nat) (x0 : Int32) (h6 : Nat) (x1 : Int32) (x2 : Int32) (y0 : Int64) (x3 : Int32) (x4 : Int32) (x5 : Int32) (x6 : Int32) (h7 : Nat) (h8 : Nat) (h9 : Nat) (x7 : Int32) (x8 : Int32) (h10 : Nat) (h11 : Nat) (x9 : Int32) (h12 : Nat) (x10 : Int32) (h13 : Nat) (x11 : Int32) (x12 : Int32) (h14 : Nat) (h15 : Nat) (h16 : Nat) (x13 : Int32) (x14 : Int32) (x15 : Int32) (fm0 : Nat → Int64) (x16 : Int32) (fn0 : Nat → Int32) (i_x6 : (0 ≤ (Int32.toInt x6) ∧ (Int32.toInt x6) ≤ 1)) (i_x7 : (0 ≤ (Int32.toInt x7) ∧ (Int32.toInt x7) ≤ 10)) (i_x8 : (0 ≤ (Int32.toInt x8) ∧ (Int32.toInt x8) ≤ 1)) (i_x9 : (0 ≤ (Int32.toInt x9) ∧ (Int32.toInt x9) ≤ 7)) (i_x10 : (0 ≤ (Int32.toInt x10) ∧ (Int32.toInt x10) ≤ 24)) (i_x11 : (0 ≤ (Int32.toInt x11) ∧ (Int32.toInt x11) ≤ 48)) (i_x12 : (0 ≤ (Int32.toInt x12) ∧ (Int32.toInt x12) ≤ 48)) (i_x16 : (0 ≤ (Int32.toInt x16) ∧ (Int32.toInt x16) ≤ 1500)) (sz : Nat) : Met l yX4_takeNumber wsX4_takeNumber ({ frames := 2, cells := 0, slots := 0, locals := 42 }) (va_Pc [.ref h0, .int x0] (PW g [(h0, .inr (8, [.ref h1, .ref h6, .ref h2, .int x1, .int x2, .long y0, .int x3, .int x4, .int x5, .int x6, .ref h7, .ref h8, .ref h9, .int x7, .int x8, .ref h10, .ref h11, .int x9, .ref h12, .int x10])), (h1, .inr (6, [.ref h3, .ref h13, .int x11, .int x12])), (h2, .inr (3, [.ref h4, .ref h14, .ref h15, .ref h16, .int x13, .int x14, .int x15])), (h3, .inl (gJ g, 48, .inr (.inl fm0))), (h4, .inr (4, [.ref h5, .int x16])), (h5, .inl (gB g, 1500, .inl fn0))] sz)) (va_Qi (fun (r : Int32) (u : (Int32) × (Int32) × (Nat → Int64)) => 0 ≤ (Int32.toInt r) ∧ (Int32.toInt r) ≤ 7 ∧ 0 ≤ (Int32.toInt (u.2.1)) ∧ (Int32.toInt (u.2.1)) ≤ 48) (BW g (va_A [(h0, .inr (8, [.ref h1, .ref h6, .ref h2, .int x1, .int x2, .long y0, .int x3, .int x4, .int x5, .int x6, .ref h7, .ref h8, .ref h9, .int x7, .int x8, .ref h10, .ref h11, .int x9, .ref h12, .int x10])), (h1, .inr (6, [.ref h3, .ref h13, .int x11, .int x12])), (h2, .inr (3, [.ref h4, .ref h14, .ref h15, .ref h16, .int x13, .int x14, .int x15])), (h3, .inl (gJ g, 48, .inr (.inl fm0))), (h4, .inr (4, [.ref h5, .int x16])), (h5, .inl (gB g, 1500, .inl fn0))] sz) (fun u : (Int32) × (Int32) × (Nat → Int64) => [(h0, .inr (8, [.ref h1, .ref h6, .ref h2, .int x1, .int x2, .long y0, .int x3, .int x4, .int u.1, .int x6, .ref h7, .ref h8, .ref h9, .int x7, .int x8, .ref h10, .ref h11, .int x9, .ref h12, .int x10])), (h1, .inr (6, [.ref h3, .ref h13, .int u.2.1, .int x12])), (h2, .inr (3, [.ref h4, .ref h14, .ref h15, .ref h16, .int x13, .int x14, .int x15])), (h3, .inl (gJ g, 48, .inr (.inl u.2.2))), (h4, .inr (4, [.ref h5, .int x16])), (h5, .inl (gB g, 1500, .inl fn0))])) (va_A [(h0, .inr (8, [.ref h1, .ref h6, .ref h2, .int x1, .int x2, .long y0, .int x3, .int x4, .int x5, .int x6, .ref h7, .ref h8, .ref h9, .int x7, .int x8, .ref h10, .ref h11, .int x9, .ref h12, .int x10])), (h1, .inr (6, [.ref h3, .ref h13, .int x11, .int x12])), (h2, .inr (3, [.ref h4, .ref h14, .ref h15, .ref h16, .int x13, .int x14, .int x15])), (h3, .inl (gJ g, 48, .inr (.inl fm0))), (h4, .inr (4, [.ref h5, .int x16])), (h5, .inl (gB g, 1500, .inl fn0))] sz)) 0 0 (va_A [(h0, .inr (8, [.ref h1, .ref h6, .ref h2, .int x1, .int x2, .long y0, .int x3, .int x4, .int x5, .int x6, .ref h7, .ref h8, .ref h9, .int x7, .int x8, .ref h10, .ref h11, .int x9, .ref h12, .int x10])), (h1, .inr (6, [.ref h3, .ref h13, .int x11, .int x12])), (h2, .inr (3, [.ref h4, .ref h14, .ref h15, .ref h16, .int x13, .int x14, .int x15])), (h3, .inl (gJ g, 48, .inr (.inl fm0))), (h4, .inr (4, [.ref h5, .int x16])), (h5, .inl (gB g, 1500, .inl fn0))] sz) := by
  refine met_i RX4 (by decide) rfl rfl (Nat.le_of_ble_eq_true rfl) [(0, .ref h0), (1, .int x0)] rfl ?_
  intro p e s m args below meth c A Q C hnm Rt
  have gx0 := fb_rng x0
  have hiX9 : ∀ w ∈ wsX90, w ∈ wsX4_takeNumber := fun w h => List.mem_cons_of_mem _ (List.mem_append_left _ (List.mem_append_left _ (List.mem_append_left _ (List.mem_append_right _ (h)))))
  refine r_iload_n 0 1 C dX4_takeNumber_0 rfl ?_
  refine r_callSNi 1 C dX4_takeNumber_1 [] [] [(h0, .inr (8, [.ref h1, .ref h6, .ref h2, .int x1, .int x2, .long y0, .int x3, .int x4, .int x5, .int x6, .ref h7, .ref h8, .ref h9, .int x7, .int x8, .ref h10, .ref h11, .int x9, .ref h12, .int x10])), (h1, .inr (6, [.ref h3, .ref h13, .int x11, .int x12])), (h2, .inr (3, [.ref h4, .ref h14, .ref h15, .ref h16, .int x13, .int x14, .int x15])), (h3, .inl (gJ g, 48, .inr (.inl fm0))), (h4, .inr (4, [.ref h5, .int x16])), (h5, .inl (gB g, 1500, .inl fn0))] (fun sz => c65_X11_bytesBehind l g x0  sz) gX4_takeNumber_X11_bytesBehind_n105 rfl ⟨rfl, rfl⟩ 1 (by decide) ⟨Nat.le_of_ble_eq_true rfl, Nat.le_of_ble_eq_true rfl⟩ (mg 27 rfl) (mg 4 rfl) (mg 3 rfl) [] [0, 1, 2, 3, 4, 5] rfl rfl (by decide) (by decide) (by decide) rfl rfl (Nat.le_of_ble_eq_true rfl) ⟨Nat.le_of_ble_eq_true rfl, Nat.le_of_ble_eq_true rfl⟩ (fun r1 _ w2 => ?_)
  refine r_ws [(h0, .inr (8, [.ref h1, .ref h6, .ref h2, .int x1, .int x2, .long y0, .int x3, .int x4, .int x5, .int x6, .ref h7, .ref h8, .ref h9, .int x7, .int x8, .ref h10, .ref h11, .int x9, .ref h12, .int x10])), (h1, .inr (6, [.ref h3, .ref h13, .int x11, .int x12])), (h2, .inr (3, [.ref h4, .ref h14, .ref h15, .ref h16, .int x13, .int x14, .int x15])), (h3, .inl (gJ g, 48, .inr (.inl fm0))), (h4, .inr (4, [.ref h5, .int x16])), (h5, .inl (gB g, 1500, .inl fn0))] rfl ?_
  have p3 : 0 ≤ (Int32.toInt r1) := w2.1
  have p4 : (Int32.toInt r1) ≤ 4 := w2.2.1
  have p5 : BB (Int32.toInt x0) (Int32.toInt r1) := w2.2.2
  refine r_istore_n 4 C dX4_takeNumber_4 [(2, .int r1), (0, .ref h0), (1, .int x0)] (by decide) rfl ?_
  refine r_iconst 5 0 C dX4_takeNumber_5 (by decide) ?_
  refine r_istore_n 6 C dX4_takeNumber_6 [(3, .int 0), (2, .int r1), (0, .ref h0), (1, .int x0)] (by decide) rfl ?_
  refine r_iconst 7 0 C dX4_takeNumber_7 (by decide) ?_
  refine r_istore 8 C dX4_takeNumber_8 [(4, .int 0), (3, .int 0), (2, .int r1), (0, .ref h0), (1, .int x0)] (by decide) rfl ?_
  have lp10 : ∀ (n9 : Nat) (z6 : Int32) (z7 : Int32) (z8 : Int32), (0 ≤ (Int32.toInt z6) ∧ (Int32.toInt z6) ≤ 4) → Int.toNat (4 - (Int32.toInt z6)) < n9 → WW p l e ({ frames := 2, cells := 0, slots := 0, locals := 42 } : Room) s m args below meth c A Q g 6 0 0 [(h0, .inr (8, [.ref h1, .ref h6, .ref h2, .int x1, .int x2, .long y0, .int x3, .int x4, .int z8, .int x6, .ref h7, .ref h8, .ref h9, .int x7, .int x8, .ref h10, .ref h11, .int x9, .ref h12, .int x10])), (h1, .inr (6, [.ref h3, .ref h13, .int x11, .int x12])), (h2, .inr (3, [.ref h4, .ref h14, .ref h15, .ref h16, .int x13, .int x14, .int x15])), (h3, .inl (gJ g, 48, .inr (.inl fm0))), (h4, .inr (4, [.ref h5, .int x16])), (h5, .inl (gB g, 1500, .inl fn0))] 10 [(4, .int z6), (3, .int z7), (2, .int r1), (0, .ref h0), (1, .int x0)] [] := by
    intro n9
    induction n9 with
    | zero => intro z6 z7 z8 i13 hm12; exact absurd hm12 (Nat.not_lt_zero _)
    | succ n9 ih11 =>
      intro z6 z7 z8 i13 hm12
      obtain ⟨i13a, i13b⟩ := i13
      have gz7 := fb_rng z7
      have gz8 := fb_rng z8
      refine r_iload 10 0 C dX4_takeNumber_10 rfl ?_
      refine r_iload_n 12 2 C dX4_takeNumber_12 rfl ?_
      refine r_icmp_ge 13 45 C dX4_takeNumber_13 (by decide) (fun c14 => ?_) (fun c14 => ?_)
      · skip
        have k15 : (Int32.toInt r1) ≤ (Int32.toInt z6) := (fa_le r1 z6).mp c14
        refine r_aload_n 45 3 C dX4_takeNumber_45 rfl ?_
        refine r_get 46 C dX4_takeNumber_46 (k := 0) 0 rfl rfl hiX9 (by decide) rfl (mg 1 rfl) (Or.inl rfl) rfl ?_
        refine r_iload_n 49 4 C dX4_takeNumber_49 rfl ?_
        refine r_sipush 50 255 C dX4_takeNumber_50 (by decide) ?_
        refine r_icmp_ne 53 64 C dX4_takeNumber_53 (by decide) (fun c16 => ?_) (fun c16 => ?_)
        · skip
          have k17 : ¬ ((Int32.toInt x0) = 255) := fun h_9 => c16 ((fa_eq x0 255).mpr h_9)
          refine r_iload_n 64 4 C dX4_takeNumber_64 rfl ?_
          refine r_iload_n 65 1 C dX4_takeNumber_65 rfl ?_
          refine r_callSNi 66 C dX4_takeNumber_66 [.ref h1] [] [(h0, .inr (8, [.ref h1, .ref h6, .ref h2, .int x1, .int x2, .long y0, .int x3, .int x4, .int z8, .int x6, .ref h7, .ref h8, .ref h9, .int x7, .int x8, .ref h10, .ref h11, .int x9, .ref h12, .int x10])), (h1, .inr (6, [.ref h3, .ref h13, .int x11, .int x12])), (h2, .inr (3, [.ref h4, .ref h14, .ref h15, .ref h16, .int x13, .int x14, .int x15])), (h3, .inl (gJ g, 48, .inr (.inl fm0))), (h4, .inr (4, [.ref h5, .int x16])), (h5, .inl (gB g, 1500, .inl fn0))] (fun sz => c66_X11_wholeNumber l g x0 z7  sz) gX4_takeNumber_X11_wholeNumber_n112 rfl ⟨rfl, rfl⟩ 2 (by decide) ⟨Nat.le_of_ble_eq_true rfl, Nat.le_of_ble_eq_true rfl⟩ (mg 28 rfl) (mg 4 rfl) (mg 34 rfl) [] [0, 1, 2, 3, 4, 5] rfl rfl (by decide) (by decide) (by decide) rfl rfl (Nat.le_of_ble_eq_true rfl) ⟨Nat.le_of_ble_eq_true rfl, Nat.le_of_ble_eq_true rfl⟩ (fun r18 _ w19 => ?_)
          refine r_ws [(h0, .inr (8, [.ref h1, .ref h6, .ref h2, .int x1, .int x2, .long y0, .int x3, .int x4, .int z8, .int x6, .ref h7, .ref h8, .ref h9, .int x7, .int x8, .ref h10, .ref h11, .int x9, .ref h12, .int x10])), (h1, .inr (6, [.ref h3, .ref h13, .int x11, .int x12])), (h2, .inr (3, [.ref h4, .ref h14, .ref h15, .ref h16, .int x13, .int x14, .int x15])), (h3, .inl (gJ g, 48, .inr (.inl fm0))), (h4, .inr (4, [.ref h5, .int x16])), (h5, .inl (gB g, 1500, .inl fn0))] rfl ?_
          have p20 : CND (((Int32.toInt x0) = 29 ∨ (0 ≤ (Int32.toInt z7) ∧ (Int32.toInt z7) ≤ 65535)) ∧ -1 ≤ (Int32.toInt x0) ∧ (Int32.toInt x0) ≤ 255) (WHO (Int32.toInt x0) (Int32.toInt z7) (Int32.toInt r18)) := w19
          have gr18 := fb_rng r18
          obtain ⟨z21, ez21⟩ : ∃ z_9, Int32.toInt64 r18 = z_9 := ⟨_, rfl⟩
          have tz21 : (Int64.toInt z21) = (Int32.toInt r18) := by rw [← ez21]; exact Int32.toInt_toInt64 _
          refine r_i2l 69 z21 C dX4_takeNumber_69 ez21 ?_
          refine r_ldc2 70 65536 C dX4_takeNumber_70 (mg 2 rfl) ?_
          obtain ⟨z22, ez22⟩ : ∃ z_9, z21 * 65536 = z_9 := ⟨_, rfl⟩
          have tz22 : (Int64.toInt z22) = (Int64.toInt z21) * 65536 := by rw [← ez22]; exact fb_mulL (by show -9223372036854775808 ≤ (Int64.toInt z21) * 65536; omega) (by show (Int64.toInt z21) * 65536 < 9223372036854775808; omega)
          refine r_lmul 73 z22 C dX4_takeNumber_73 ez22 ?_
          refine r_callVi 74 C dX4_takeNumber_74 [] [(h1, .inr (6, [.ref h3, .ref h13, .int x11, .int x12])), (h3, .inl (gJ g, 48, .inr (.inl fm0)))] [(h0, .inr (8, [.ref h1, .ref h6, .ref h2, .int x1, .int x2, .long y0, .int x3, .int x4, .int z8, .int x6, .ref h7, .ref h8, .ref h9, .int x7, .int x8, .ref h10, .ref h11, .int x9, .ref h12, .int x10])), (h2, .inr (3, [.ref h4, .ref h14, .ref h15, .ref h16, .int x13, .int x14, .int x15])), (h4, .inr (4, [.ref h5, .int x16])), (h5, .inl (gB g, 1500, .inl fn0))] (fun sz => c227_X7_push l g h1 h3 z22 h13 x11 x12 fm0 i_x11 i_x12 sz) gX4_takeNumber_X7_push rfl ⟨rfl, rfl⟩ 1 (by decide) ⟨Nat.le_of_ble_eq_true rfl, Nat.le_of_ble_eq_true rfl⟩ 1 rfl rfl [1, 3] [0, 2, 4, 5] rfl rfl (by decide) (by decide) (by decide) rfl rfl (Nat.le_of_ble_eq_true rfl) ⟨Nat.le_of_ble_eq_true rfl, Nat.le_of_ble_eq_true rfl⟩ (fun r25 u27 w26 => ?_)
          obtain ⟨z23, f24⟩ := u27
          refine r_ws [(h0, .inr (8, [.ref h1, .ref h6, .ref h2, .int x1, .int x2, .long y0, .int x3, .int x4, .int z8, .int x6, .ref h7, .ref h8, .ref h9, .int x7, .int x8, .ref h10, .ref h11, .int x9, .ref h12, .int x10])), (h2, .inr (3, [.ref h4, .ref h14, .ref h15, .ref h16, .int x13, .int x14, .int x15])), (h4, .inr (4, [.ref h5, .int x16])), (h5, .inl (gB g, 1500, .inl fn0)), (h1, .inr (6, [.ref h3, .ref h13, .int z23, .int x12])), (h3, .inl (gJ g, 48, .inr (.inl f24)))] rfl ?_
          have p28 : 0 ≤ (Int32.toInt r25) := w26.1
          have p29 : (Int32.toInt r25) ≤ 3 := w26.2.1
          have p30 : 0 ≤ (Int32.toInt z23) := w26.2.2.1
          have p31 : (Int32.toInt z23) ≤ 48 := w26.2.2.2
          exact r_iret 77 Rt dX4_takeNumber_77 (z8, z23, f24) (show 0 ≤ (Int32.toInt r25) ∧ (Int32.toInt r25) ≤ 7 ∧ 0 ≤ (Int32.toInt z23) ∧ (Int32.toInt z23) ≤ 48 from ⟨(iv_wide (c := 0) (d := 7) ⟨p28, p29⟩ (by decide) (by decide)).1, (iv_wide (c := 0) (d := 7) ⟨p28, p29⟩ (by decide) (by decide)).2, (show _ ∧ _ from ⟨p30, p31⟩).1, (show _ ∧ _ from ⟨p30, p31⟩).2⟩) [0, 4, 1, 5, 2, 3] (by decide) rfl (Nat.le_of_ble_eq_true rfl) (Nat.le_of_ble_eq_true rfl)
        · skip
          have k32 : (Int32.toInt x0) = 255 := (fa_eq x0 255).mp c16
          refine r_aload_n 56 3 C dX4_takeNumber_56 rfl ?_
          refine r_iload_n 57 1 C dX4_takeNumber_57 rfl ?_
          refine r_callAl 58 C dX4_takeNumber_58 [.ref h1] [] [(h0, .inr (8, [.ref h1, .ref h6, .ref h2, .int x1, .int x2, .long y0, .int x3, .int x4, .int z8, .int x6, .ref h7, .ref h8, .ref h9, .int x7, .int x8, .ref h10, .ref h11, .int x9, .ref h12, .int x10])), (h1, .inr (6, [.ref h3, .ref h13, .int x11, .int x12])), (h2, .inr (3, [.ref h4, .ref h14, .ref h15, .ref h16, .int x13, .int x14, .int x15])), (h3, .inl (gJ g, 48, .inr (.inl fm0))), (h4, .inr (4, [.ref h5, .int x16])), (h5, .inl (gB g, 1500, .inl fn0))] (fun sz => c228_X9_longNumber l g h0 z7  sz) gX4_takeNumber_X9_longNumber_u108X9 rfl ⟨rfl, rfl⟩ 1 (mg 38 rfl) (by decide) ⟨Nat.le_of_ble_eq_true rfl, Nat.le_of_ble_eq_true rfl⟩ 0 rfl rfl [] [0, 1, 2, 3, 4, 5] rfl rfl (by decide) (by decide) (by decide) rfl rfl (Nat.le_of_ble_eq_true rfl) ⟨Nat.le_of_ble_eq_true rfl, Nat.le_of_ble_eq_true rfl⟩ (fun r33 _ w34 => ?_)
          refine r_ws [(h0, .inr (8, [.ref h1, .ref h6, .ref h2, .int x1, .int x2, .long y0, .int x3, .int x4, .int z8, .int x6, .ref h7, .ref h8, .ref h9, .int x7, .int x8, .ref h10, .ref h11, .int x9, .ref h12, .int x10])), (h1, .inr (6, [.ref h3, .ref h13, .int x11, .int x12])), (h2, .inr (3, [.ref h4, .ref h14, .ref h15, .ref h16, .int x13, .int x14, .int x15])), (h3, .inl (gJ g, 48, .inr (.inl fm0))), (h4, .inr (4, [.ref h5, .int x16])), (h5, .inl (gB g, 1500, .inl fn0))] rfl ?_
          have p35 : -140737488355328 ≤ (Int64.toInt r33) := w34.1
          have p36 : (Int64.toInt r33) ≤ 140737488289792 := w34.2
          refine r_goto 61 74 C dX4_takeNumber_61 (by decide) ?_
          refine r_callVi 74 C dX4_takeNumber_74 [] [(h1, .inr (6, [.ref h3, .ref h13, .int x11, .int x12])), (h3, .inl (gJ g, 48, .inr (.inl fm0)))] [(h0, .inr (8, [.ref h1, .ref h6, .ref h2, .int x1, .int x2, .long y0, .int x3, .int x4, .int z8, .int x6, .ref h7, .ref h8, .ref h9, .int x7, .int x8, .ref h10, .ref h11, .int x9, .ref h12, .int x10])), (h2, .inr (3, [.ref h4, .ref h14, .ref h15, .ref h16, .int x13, .int x14, .int x15])), (h4, .inr (4, [.ref h5, .int x16])), (h5, .inl (gB g, 1500, .inl fn0))] (fun sz => c227_X7_push l g h1 h3 r33 h13 x11 x12 fm0 i_x11 i_x12 sz) gX4_takeNumber_X7_push rfl ⟨rfl, rfl⟩ 1 (by decide) ⟨Nat.le_of_ble_eq_true rfl, Nat.le_of_ble_eq_true rfl⟩ 1 rfl rfl [1, 3] [0, 2, 4, 5] rfl rfl (by decide) (by decide) (by decide) rfl rfl (Nat.le_of_ble_eq_true rfl) ⟨Nat.le_of_ble_eq_true rfl, Nat.le_of_ble_eq_true rfl⟩ (fun r39 u41 w40 => ?_)
          obtain ⟨z37, f38⟩ := u41
          refine r_ws [(h0, .inr (8, [.ref h1, .ref h6, .ref h2, .int x1, .int x2, .long y0, .int x3, .int x4, .int z8, .int x6, .ref h7, .ref h8, .ref h9, .int x7, .int x8, .ref h10, .ref h11, .int x9, .ref h12, .int x10])), (h2, .inr (3, [.ref h4, .ref h14, .ref h15, .ref h16, .int x13, .int x14, .int x15])), (h4, .inr (4, [.ref h5, .int x16])), (h5, .inl (gB g, 1500, .inl fn0)), (h1, .inr (6, [.ref h3, .ref h13, .int z37, .int x12])), (h3, .inl (gJ g, 48, .inr (.inl f38)))] rfl ?_
          have p42 : 0 ≤ (Int32.toInt r39) := w40.1
          have p43 : (Int32.toInt r39) ≤ 3 := w40.2.1
          have p44 : 0 ≤ (Int32.toInt z37) := w40.2.2.1
          have p45 : (Int32.toInt z37) ≤ 48 := w40.2.2.2
          exact r_iret 77 Rt dX4_takeNumber_77 (z8, z37, f38) (show 0 ≤ (Int32.toInt r39) ∧ (Int32.toInt r39) ≤ 7 ∧ 0 ≤ (Int32.toInt z37) ∧ (Int32.toInt z37) ≤ 48 from ⟨(iv_wide (c := 0) (d := 7) ⟨p42, p43⟩ (by decide) (by decide)).1, (iv_wide (c := 0) (d := 7) ⟨p42, p43⟩ (by decide) (by decide)).2, (show _ ∧ _ from ⟨p44, p45⟩).1, (show _ ∧ _ from ⟨p44, p45⟩).2⟩) [0, 4, 1, 5, 2, 3] (by decide) rfl (Nat.le_of_ble_eq_true rfl) (Nat.le_of_ble_eq_true rfl)
      · skip
        have k46 : ¬ ((Int32.toInt r1) ≤ (Int32.toInt z6)) := fun h_9 => c14 ((fa_le r1 z6).mpr h_9)
        refine r_aload_n 16 3 C dX4_takeNumber_16 rfl ?_
        refine r_callUi 17 C dX4_takeNumber_17 [] [(h0, .inr (8, [.ref h1, .ref h6, .ref h2, .int x1, .int x2, .long y0, .int x3, .int x4, .int z8, .int x6, .ref h7, .ref h8, .ref h9, .int x7, .int x8, .ref h10, .ref h11, .int x9, .ref h12, .int x10])), (h2, .inr (3, [.ref h4, .ref h14, .ref h15, .ref h16, .int x13, .int x14, .int x15])), (h4, .inr (4, [.ref h5, .int x16])), (h5, .inl (gB g, 1500, .inl fn0))] [(h1, .inr (6, [.ref h3, .ref h13, .int x11, .int x12])), (h3, .inl (gJ g, 48, .inr (.inl fm0)))] (fun sz => c225_X4_takeByte l g h0 h2 h4 h5 h1 h6 x1 x2 y0 x3 x4 z8 x6 h7 h8 h9 x7 x8 h10 h11 x9 h12 x10 h14 h15 h16 x13 x14 x15 x16 fn0 i_x6 i_x7 i_x8 i_x9 i_x10 i_x16 sz) gX4_takeNumber_X4_takeByte_u85X9 rfl ⟨rfl, rfl⟩ 0 rfl (by decide) ⟨Nat.le_of_ble_eq_true rfl, Nat.le_of_ble_eq_true rfl⟩ 0 rfl rfl [0, 2, 4, 5] [1, 3] rfl rfl (by decide) (by decide) (by decide) rfl rfl (Nat.le_of_ble_eq_true rfl) ⟨Nat.le_of_ble_eq_true rfl, Nat.le_of_ble_eq_true rfl⟩ (fun r48 z47 w49 => ?_)
        refine r_ws [(h1, .inr (6, [.ref h3, .ref h13, .int x11, .int x12])), (h3, .inl (gJ g, 48, .inr (.inl fm0))), (h0, .inr (8, [.ref h1, .ref h6, .ref h2, .int x1, .int x2, .long y0, .int x3, .int x4, .int z47, .int x6, .ref h7, .ref h8, .ref h9, .int x7, .int x8, .ref h10, .ref h11, .int x9, .ref h12, .int x10])), (h2, .inr (3, [.ref h4, .ref h14, .ref h15, .ref h16, .int x13, .int x14, .int x15])), (h4, .inr (4, [.ref h5, .int x16])), (h5, .inl (gB g, 1500, .inl fn0))] rfl ?_
        have gz47 := fb_rng z47
        have p50 : -1 ≤ (Int32.toInt r48) := w49.1
        have p51 : (Int32.toInt r48) ≤ 255 := w49.2
        refine r_istore 20 C dX4_takeNumber_20 [(5, .int r48), (4, .int z6), (3, .int z7), (2, .int r1), (0, .ref h0), (1, .int x0)] (by decide) rfl ?_
        refine r_iload 22 0 C dX4_takeNumber_22 rfl ?_
        refine r_iconst 24 (-1) C dX4_takeNumber_24 (by decide) ?_
        refine r_icmp_ne 25 31 C dX4_takeNumber_25 (by decide) (fun c52 => ?_) (fun c52 => ?_)
        · skip
          have k53 : ¬ ((Int32.toInt r48) = (-1)) := fun h_9 => c52 ((fa_eq r48 (-1)).mpr h_9)
          refine r_iload_n 31 2 C dX4_takeNumber_31 rfl ?_
          refine r_bipush 32 8 C dX4_takeNumber_32 (by decide) ?_
          obtain ⟨z54, ez54⟩ : ∃ z_9, z7 <<< (8 &&& 31) = z_9 := ⟨_, rfl⟩
          have gz54 := fb_rng z54
          refine r_ishl 34 z54 C dX4_takeNumber_34 ez54 ?_
          refine r_iload 35 0 C dX4_takeNumber_35 rfl ?_
          obtain ⟨z55, ez55⟩ : ∃ z_9, z54 ||| r48 = z_9 := ⟨_, rfl⟩
          have gz55 := fb_rng z55
          refine r_ior 37 z55 C dX4_takeNumber_37 ez55 ?_
          refine r_istore_n 38 C dX4_takeNumber_38 [(3, .int z55), (5, .int r48), (4, .int z6), (2, .int r1), (0, .ref h0), (1, .int x0)] (by decide) rfl ?_
          obtain ⟨z56, ez56⟩ : ∃ z_9, z6 + Int32.ofInt 1 = z_9 := ⟨_, rfl⟩
          have tz56 : (Int32.toInt z56) = (Int32.toInt z6) + 1 := by rw [← ez56]; exact fb_addIv (a := 0) (b := 4) (c := 1) (d := 1) ⟨i13a, i13b⟩ ⟨by decide, by decide⟩ (by decide) (by decide)
          refine r_iinc 39 2 z56 C dX4_takeNumber_39 rfl ez56 [(4, .int z56), (3, .int z55), (5, .int r48), (2, .int r1), (0, .ref h0), (1, .int x0)] (by decide) rfl ?_
          refine r_goto 42 10 C dX4_takeNumber_42 (by decide) ?_
          refine r_lv [(4, .int z56), (3, .int z55), (2, .int r1), (0, .ref h0), (1, .int x0)] [0, 1, 3, 4, 5] rfl ?_
          refine r_pick [(h0, .inr (8, [.ref h1, .ref h6, .ref h2, .int x1, .int x2, .long y0, .int x3, .int x4, .int z47, .int x6, .ref h7, .ref h8, .ref h9, .int x7, .int x8, .ref h10, .ref h11, .int x9, .ref h12, .int x10])), (h1, .inr (6, [.ref h3, .ref h13, .int x11, .int x12])), (h2, .inr (3, [.ref h4, .ref h14, .ref h15, .ref h16, .int x13, .int x14, .int x15])), (h3, .inl (gJ g, 48, .inr (.inl fm0))), (h4, .inr (4, [.ref h5, .int x16])), (h5, .inl (gB g, 1500, .inl fn0))] [2, 0, 3, 1, 4, 5] (by decide) rfl ?_
          exact ih11 z56 z55 z47 ⟨by omega, by omega⟩ (by omega)
        · skip
          have k57 : (Int32.toInt r48) = (-1) := (fa_eq r48 (-1)).mp c52
          refine r_bipush 28 7 C dX4_takeNumber_28 (by decide) ?_
          exact r_iret 30 Rt dX4_takeNumber_30 (z47, x11, fm0) (show 0 ≤ (Int32.toInt 7) ∧ (Int32.toInt 7) ≤ 7 ∧ 0 ≤ (Int32.toInt x11) ∧ (Int32.toInt x11) ≤ 48 from ⟨(by ((repeat' apply And.intro) <;> first | trivial | rfl | assumption | omega | decide | exact Or.inl rfl | exact Or.inr (Or.inl rfl) | exact Or.inr (Or.inr rfl))), (by ((repeat' apply And.intro) <;> first | trivial | rfl | assumption | omega | decide | exact Or.inl rfl | exact Or.inr (Or.inl rfl) | exact Or.inr (Or.inr rfl))), i_x11.1, i_x11.2⟩) [2, 0, 3, 1, 4, 5] (by decide) rfl (Nat.le_of_ble_eq_true rfl) (Nat.le_of_ble_eq_true rfl)
  exact lp10 _ 0 0 x5 (by decide) (Nat.lt_succ_self _)
set_option maxHeartbeats 4000000 in
set_option maxRecDepth 100000 in
theorem c230_X4_takeOperator (l : Launch) (g : GD) (h0 : Nat) (h1 : Nat) (h2 : Nat) (h3 : Nat) (h4 : Nat) (h5 : Nat) (h6 : Nat) (x0 : Int32) (x1 : Int32) (y0 : Int64) (x2 : Int32) (x3 : Int32) (x4 : Int32) (x5 : Int32) (h7 : Nat) (h8 : Nat) (h9 : Nat) (x6 : Int32) (x7 : Int32) (h10 : Nat) (h11 : Nat) (x8 : Int32) (h12 : Nat) (x9 : Int32) (h13 : Nat) (x10 : Int32) (x11 : Int32) (h14 : Nat) (h15 : Nat) (h16 : Nat) (x12 : Int32) (x13 : Int32) (x14 : Int32) (fm0 : Nat → Int64) (x15 : Int32) (fn0 : Nat → Int32) (i_x5 : (0 ≤ (Int32.toInt x5) ∧ (Int32.toInt x5) ≤ 1)) (i_x6 : (0 ≤ (Int32.toInt x6) ∧ (Int32.toInt x6) ≤ 10)) (i_x7 : (0 ≤ (Int32.toInt x7) ∧ (Int32.toInt x7) ≤ 1)) (i_x8 : (0 ≤ (Int32.toInt x8) ∧ (Int32.toInt x8) ≤ 7)) (i_x9 : (0 ≤ (Int32.toInt x9) ∧ (Int32.toInt x9) ≤ 24)) (i_x10 : (0 ≤ (Int32.toInt x10) ∧ (Int32.toInt x10) ≤ 48)) (i_x11 : (0 ≤ (Int32.toInt x11) ∧ (Int32.toInt x11) ≤ 48)) (i_x15 : (0 ≤ (Int32.toInt x15) ∧ (Int32.toInt x15) ≤ 1500)) (sz : Nat) : Met l yX4_takeOperator wsX4_takeOperator ({ frames := 3, cells := 0, slots := 0, locals := 67 }) (va_Pc [.ref h0] (PW g [(h0, .inr (8, [.ref h1, .ref h6, .ref h2, .int x0, .int x1, .long y0, .int x2, .int x3, .int x4, .int x5, .ref h7, .ref h8, .ref h9, .int x6, .int x7, .ref h10, .ref h11, .int x8, .ref h12, .int x9])), (h1, .inr (6, [.ref h3, .ref h13, .int x10, .int x11])), (h2, .inr (3, [.ref h4, .ref h14, .ref h15, .ref h16, .int x12, .int x13, .int x14])), (h3, .inl (gJ g, 48, .inr (.inl fm0))), (h4, .inr (4, [.ref h5, .int x15])), (h5, .inl (gB g, 1500, .inl fn0))] sz)) (va_Qi (fun (r : Int32) (u : (Int32) × (Int32) × (Nat → Int64)) => -8 ≤ (Int32.toInt r) ∧ (Int32.toInt r) ≤ 511 ∧ 0 ≤ (Int32.toInt (u.2.1)) ∧ (Int32.toInt (u.2.1)) ≤ 48) (BW g (va_A [(h0, .inr (8, [.ref h1, .ref h6, .ref h2, .int x0, .int x1, .long y0, .int x2, .int x3, .int x4, .int x5, .ref h7, .ref h8, .ref h9, .int x6, .int x7, .ref h10, .ref h11, .int x8, .ref h12, .int x9])), (h1, .inr (6, [.ref h3, .ref h13, .int x10, .int x11])), (h2, .inr (3, [.ref h4, .ref h14, .ref h15, .ref h16, .int x12, .int x13, .int x14])), (h3, .inl (gJ g, 48, .inr (.inl fm0))), (h4, .inr (4, [.ref h5, .int x15])), (h5, .inl (gB g, 1500, .inl fn0))] sz) (fun u : (Int32) × (Int32) × (Nat → Int64) => [(h0, .inr (8, [.ref h1, .ref h6, .ref h2, .int x0, .int x1, .long y0, .int x2, .int x3, .int u.1, .int x5, .ref h7, .ref h8, .ref h9, .int x6, .int x7, .ref h10, .ref h11, .int x8, .ref h12, .int x9])), (h1, .inr (6, [.ref h3, .ref h13, .int u.2.1, .int x11])), (h2, .inr (3, [.ref h4, .ref h14, .ref h15, .ref h16, .int x12, .int x13, .int x14])), (h3, .inl (gJ g, 48, .inr (.inl u.2.2))), (h4, .inr (4, [.ref h5, .int x15])), (h5, .inl (gB g, 1500, .inl fn0))])) (va_A [(h0, .inr (8, [.ref h1, .ref h6, .ref h2, .int x0, .int x1, .long y0, .int x2, .int x3, .int x4, .int x5, .ref h7, .ref h8, .ref h9, .int x6, .int x7, .ref h10, .ref h11, .int x8, .ref h12, .int x9])), (h1, .inr (6, [.ref h3, .ref h13, .int x10, .int x11])), (h2, .inr (3, [.ref h4, .ref h14, .ref h15, .ref h16, .int x12, .int x13, .int x14])), (h3, .inl (gJ g, 48, .inr (.inl fm0))), (h4, .inr (4, [.ref h5, .int x15])), (h5, .inl (gB g, 1500, .inl fn0))] sz)) 0 0 (va_A [(h0, .inr (8, [.ref h1, .ref h6, .ref h2, .int x0, .int x1, .long y0, .int x2, .int x3, .int x4, .int x5, .ref h7, .ref h8, .ref h9, .int x6, .int x7, .ref h10, .ref h11, .int x8, .ref h12, .int x9])), (h1, .inr (6, [.ref h3, .ref h13, .int x10, .int x11])), (h2, .inr (3, [.ref h4, .ref h14, .ref h15, .ref h16, .int x12, .int x13, .int x14])), (h3, .inl (gJ g, 48, .inr (.inl fm0))), (h4, .inr (4, [.ref h5, .int x15])), (h5, .inl (gB g, 1500, .inl fn0))] sz) := by
  refine met_i RX4 (by decide) rfl rfl (Nat.le_of_ble_eq_true rfl) [(0, .ref h0)] rfl ?_
  intro p e s m args below meth c A Q C hnm Rt
  have gx0 := fb_rng x0
  have hiX9 : ∀ w ∈ wsX90, w ∈ wsX4_takeOperator := fun w h => List.mem_cons_of_mem _ (List.mem_append_left _ (List.mem_append_left _ (List.mem_append_left _ (List.mem_append_right _ (h)))))
  refine r_aload_n 0 0 C dX4_takeOperator_0 rfl ?_
  refine r_callUi 1 C dX4_takeOperator_1 [] [(h0, .inr (8, [.ref h1, .ref h6, .ref h2, .int x0, .int x1, .long y0, .int x2, .int x3, .int x4, .int x5, .ref h7, .ref h8, .ref h9, .int x6, .int x7, .ref h10, .ref h11, .int x8, .ref h12, .int x9])), (h2, .inr (3, [.ref h4, .ref h14, .ref h15, .ref h16, .int x12, .int x13, .int x14])), (h4, .inr (4, [.ref h5, .int x15])), (h5, .inl (gB g, 1500, .inl fn0))] [(h1, .inr (6, [.ref h3, .ref h13, .int x10, .int x11])), (h3, .inl (gJ g, 48, .inr (.inl fm0)))] (fun sz => c225_X4_takeByte l g h0 h2 h4 h5 h1 h6 x0 x1 y0 x2 x3 x4 x5 h7 h8 h9 x6 x7 h10 h11 x8 h12 x9 h14 h15 h16 x12 x13 x14 x15 fn0 i_x5 i_x6 i_x7 i_x8 i_x9 i_x15 sz) gX4_takeOperator_X4_takeByte_u85X9 rfl ⟨rfl, rfl⟩ 0 rfl (by decide) ⟨Nat.le_of_ble_eq_true rfl, Nat.le_of_ble_eq_true rfl⟩ 0 rfl rfl [0, 2, 4, 5] [1, 3] rfl rfl (by decide) (by decide) (by decide) rfl rfl (Nat.le_of_ble_eq_true rfl) ⟨Nat.le_of_ble_eq_true rfl, Nat.le_of_ble_eq_true rfl⟩ (fun r2 z1 w3 => ?_)
  refine r_ws [(h1, .inr (6, [.ref h3, .ref h13, .int x10, .int x11])), (h3, .inl (gJ g, 48, .inr (.inl fm0))), (h0, .inr (8, [.ref h1, .ref h6, .ref h2, .int x0, .int x1, .long y0, .int x2, .int x3, .int z1, .int x5, .ref h7, .ref h8, .ref h9, .int x6, .int x7, .ref h10, .ref h11, .int x8, .ref h12, .int x9])), (h2, .inr (3, [.ref h4, .ref h14, .ref h15, .ref h16, .int x12, .int x13, .int x14])), (h4, .inr (4, [.ref h5, .int x15])), (h5, .inl (gB g, 1500, .inl fn0))] rfl ?_
  have gz1 := fb_rng z1
  have p4 : -1 ≤ (Int32.toInt r2) := w3.1
  have p5 : (Int32.toInt r2) ≤ 255 := w3.2
  refine r_istore_n 4 C dX4_takeOperator_4 [(1, .int r2), (0, .ref h0)] (by decide) rfl ?_
  refine r_iconst 5 0 C dX4_takeOperator_5 (by decide) ?_
  refine r_istore_n 6 C dX4_takeOperator_6 [(2, .int 0), (1, .int r2), (0, .ref h0)] (by decide) rfl ?_
  have lp12 : ∀ (n11 : Nat) (z6 : Int32) (z7 : Int32) (z8 : Int32) (f9 : Nat → Int64) (z10 : Int32), (0 ≤ (Int32.toInt z6) ∧ (Int32.toInt z6) ≤ 49) → (-1 ≤ (Int32.toInt z7) ∧ (Int32.toInt z7) ≤ 255) → (0 ≤ (Int32.toInt z8) ∧ (Int32.toInt z8) ≤ 48) → Int.toNat (49 - (Int32.toInt z6)) < n11 → WW p l e ({ frames := 3, cells := 0, slots := 0, locals := 67 } : Room) s m args below meth c A Q g 4 0 0 [(h1, .inr (6, [.ref h3, .ref h13, .int z8, .int x11])), (h3, .inl (gJ g, 48, .inr (.inl f9))), (h0, .inr (8, [.ref h1, .ref h6, .ref h2, .int x0, .int x1, .long y0, .int x2, .int x3, .int z10, .int x5, .ref h7, .ref h8, .ref h9, .int x6, .int x7, .ref h10, .ref h11, .int x8, .ref h12, .int x9])), (h2, .inr (3, [.ref h4, .ref h14, .ref h15, .ref h16, .int x12, .int x13, .int x14])), (h4, .inr (4, [.ref h5, .int x15])), (h5, .inl (gB g, 1500, .inl fn0))] 7 [(2, .int z6), (1, .int z7), (0, .ref h0)] [] := by
    intro n11
    induction n11 with
    | zero => intro z6 z7 z8 f9 z10 i15 i16 i17 hm14; exact absurd hm14 (Nat.not_lt_zero _)
    | succ n11 ih13 =>
      intro z6 z7 z8 f9 z10 i15 i16 i17 hm14
      obtain ⟨i15a, i15b⟩ := i15
      obtain ⟨i16a, i16b⟩ := i16
      obtain ⟨i17a, i17b⟩ := i17
      have gz10 := fb_rng z10
      refine r_iload_n 7 0 C dX4_takeOperator_7 rfl ?_
      refine r_bipush 8 48 C dX4_takeOperator_8 (by decide) ?_
      refine r_icmp_gt 10 45 C dX4_takeOperator_10 (by decide) (fun c18 => ?_) (fun c18 => ?_)
      · skip
        have k19 : 48 < (Int32.toInt z6) := (fa_lt 48 z6).mp c18
        refine r_iload_n 45 1 C dX4_takeOperator_45 rfl ?_
        refine r_iconst 46 (-1) C dX4_takeOperator_46 (by decide) ?_
        refine r_icmp_ne 47 53 C dX4_takeOperator_47 (by decide) (fun c20 => ?_) (fun c20 => ?_)
        · skip
          have k21 : ¬ ((Int32.toInt z7) = (-1)) := fun h_9 => c20 ((fa_eq z7 (-1)).mpr h_9)
          refine r_aload_n 53 2 C dX4_takeOperator_53 rfl ?_
          refine r_get 54 C dX4_takeOperator_54 (k := 3) 2 rfl rfl hiX9 (by decide) rfl (mg 1 rfl) (Or.inl rfl) rfl ?_
          refine r_sipush 57 3000 C dX4_takeOperator_57 (by decide) ?_
          refine r_icmp_lt 60 66 C dX4_takeOperator_60 (by decide) (fun c22 => ?_) (fun c22 => ?_)
          · skip
            have k23 : (Int32.toInt x0) < 3000 := (fa_lt x0 3000).mp c22
            refine r_iload_n 66 1 C dX4_takeOperator_66 rfl ?_
            refine r_bipush 67 12 C dX4_takeOperator_67 (by decide) ?_
            refine r_icmp_eq 69 74 C dX4_takeOperator_69 (by decide) (fun c24 => ?_) (fun c24 => ?_)
            · skip
              have k25 : (Int32.toInt z7) = 12 := (fa_eq z7 12).mp c24
              refine r_aload_n 74 2 C dX4_takeOperator_74 rfl ?_
              refine r_callUi 75 C dX4_takeOperator_75 [] [(h0, .inr (8, [.ref h1, .ref h6, .ref h2, .int x0, .int x1, .long y0, .int x2, .int x3, .int z10, .int x5, .ref h7, .ref h8, .ref h9, .int x6, .int x7, .ref h10, .ref h11, .int x8, .ref h12, .int x9])), (h2, .inr (3, [.ref h4, .ref h14, .ref h15, .ref h16, .int x12, .int x13, .int x14])), (h4, .inr (4, [.ref h5, .int x15])), (h5, .inl (gB g, 1500, .inl fn0))] [(h1, .inr (6, [.ref h3, .ref h13, .int z8, .int x11])), (h3, .inl (gJ g, 48, .inr (.inl f9)))] (fun sz => c225_X4_takeByte l g h0 h2 h4 h5 h1 h6 x0 x1 y0 x2 x3 z10 x5 h7 h8 h9 x6 x7 h10 h11 x8 h12 x9 h14 h15 h16 x12 x13 x14 x15 fn0 i_x5 i_x6 i_x7 i_x8 i_x9 i_x15 sz) gX4_takeOperator_X4_takeByte_u85X9 rfl ⟨rfl, rfl⟩ 0 rfl (by decide) ⟨Nat.le_of_ble_eq_true rfl, Nat.le_of_ble_eq_true rfl⟩ 2 rfl rfl [2, 3, 4, 5] [0, 1] rfl rfl (by decide) (by decide) (by decide) rfl rfl (Nat.le_of_ble_eq_true rfl) ⟨Nat.le_of_ble_eq_true rfl, Nat.le_of_ble_eq_true rfl⟩ (fun r27 z26 w28 => ?_)
              refine r_ws [(h1, .inr (6, [.ref h3, .ref h13, .int z8, .int x11])), (h3, .inl (gJ g, 48, .inr (.inl f9))), (h0, .inr (8, [.ref h1, .ref h6, .ref h2, .int x0, .int x1, .long y0, .int x2, .int x3, .int z26, .int x5, .ref h7, .ref h8, .ref h9, .int x6, .int x7, .ref h10, .ref h11, .int x8, .ref h12, .int x9])), (h2, .inr (3, [.ref h4, .ref h14, .ref h15, .ref h16, .int x12, .int x13, .int x14])), (h4, .inr (4, [.ref h5, .int x15])), (h5, .inl (gB g, 1500, .inl fn0))] rfl ?_
              have gz26 := fb_rng z26
              have p29 : -1 ≤ (Int32.toInt r27) := w28.1
              have p30 : (Int32.toInt r27) ≤ 255 := w28.2
              refine r_istore_n 78 C dX4_takeOperator_78 [(2, .int r27), (1, .int z7), (0, .ref h0)] (by decide) rfl ?_
              refine r_iload_n 79 0 C dX4_takeOperator_79 rfl ?_
              refine r_iconst 80 (-1) C dX4_takeOperator_80 (by decide) ?_
              refine r_icmp_ne 81 89 C dX4_takeOperator_81 (by decide) (fun c31 => ?_) (fun c31 => ?_)
              · skip
                have k32 : ¬ ((Int32.toInt r27) = (-1)) := fun h_9 => c31 ((fa_eq r27 (-1)).mpr h_9)
                refine r_sipush 89 256 C dX4_takeOperator_89 (by decide) ?_
                refine r_iload_n 92 0 C dX4_takeOperator_92 rfl ?_
                obtain ⟨z33, ez33⟩ : ∃ z_9, 256 + r27 = z_9 := ⟨_, rfl⟩
                have tz33 : (Int32.toInt z33) = 256 + (Int32.toInt r27) := by rw [← ez33]; exact fb_addIv (a := 256) (b := 256) (c := (-1)) (d := 255) ⟨by decide, by decide⟩ ⟨p29, p30⟩ (by decide) (by decide)
                refine r_iadd 93 z33 C dX4_takeOperator_93 ez33 ?_
                exact r_iret 94 Rt dX4_takeOperator_94 (z26, z8, f9) (show -8 ≤ (Int32.toInt z33) ∧ (Int32.toInt z33) ≤ 511 ∧ 0 ≤ (Int32.toInt z8) ∧ (Int32.toInt z8) ≤ 48 from ⟨(iv_wide (c := (-8)) (d := 511) (iv_add (a := 256) (b := 256) (c := (-1)) (d := 255) ⟨by decide, by decide⟩ ⟨p29, p30⟩ tz33) (by decide) (by decide)).1, (iv_wide (c := (-8)) (d := 511) (iv_add (a := 256) (b := 256) (c := (-1)) (d := 255) ⟨by decide, by decide⟩ ⟨p29, p30⟩ tz33) (by decide) (by decide)).2, (show _ ∧ _ from ⟨i17a, i17b⟩).1, (show _ ∧ _ from ⟨i17a, i17b⟩).2⟩) [2, 0, 3, 1, 4, 5] (by decide) rfl (Nat.le_of_ble_eq_true rfl) (Nat.le_of_ble_eq_true rfl)
              · skip
                have k34 : (Int32.toInt r27) = (-1) := (fa_eq r27 (-1)).mp c31
                refine r_bipush 84 (-7) C dX4_takeOperator_84 (by decide) ?_
                refine r_goto 86 94 C dX4_takeOperator_86 (by decide) ?_
                exact r_iret 94 Rt dX4_takeOperator_94 (z26, z8, f9) (show -8 ≤ (Int32.toInt (-7)) ∧ (Int32.toInt (-7)) ≤ 511 ∧ 0 ≤ (Int32.toInt z8) ∧ (Int32.toInt z8) ≤ 48 from ⟨(by ((repeat' apply And.intro) <;> first | trivial | rfl | assumption | omega | decide | exact Or.inl rfl | exact Or.inr (Or.inl rfl) | exact Or.inr (Or.inr rfl))), (by ((repeat' apply And.intro) <;> first | trivial | rfl | assumption | omega | decide | exact Or.inl rfl | exact Or.inr (Or.inl rfl) | exact Or.inr (Or.inr rfl))), (show _ ∧ _ from ⟨i17a, i17b⟩).1, (show _ ∧ _ from ⟨i17a, i17b⟩).2⟩) [2, 0, 3, 1, 4, 5] (by decide) rfl (Nat.le_of_ble_eq_true rfl) (Nat.le_of_ble_eq_true rfl)
            · skip
              have k35 : ¬ ((Int32.toInt z7) = 12) := fun h_9 => c24 ((fa_eq z7 12).mpr h_9)
              refine r_iload_n 72 1 C dX4_takeOperator_72 rfl ?_
              exact r_iret 73 Rt dX4_takeOperator_73 (z10, z8, f9) (show -8 ≤ (Int32.toInt z7) ∧ (Int32.toInt z7) ≤ 511 ∧ 0 ≤ (Int32.toInt z8) ∧ (Int32.toInt z8) ≤ 48 from ⟨(iv_wide (c := (-8)) (d := 511) ⟨i16a, i16b⟩ (by decide) (by decide)).1, (iv_wide (c := (-8)) (d := 511) ⟨i16a, i16b⟩ (by decide) (by decide)).2, (show _ ∧ _ from ⟨i17a, i17b⟩).1, (show _ ∧ _ from ⟨i17a, i17b⟩).2⟩) [2, 0, 3, 1, 4, 5] (by decide) rfl (Nat.le_of_ble_eq_true rfl) (Nat.le_of_ble_eq_true rfl)
          · skip
            have k36 : ¬ ((Int32.toInt x0) < 3000) := fun h_9 => c22 ((fa_lt x0 3000).mpr h_9)
            refine r_bipush 63 (-8) C dX4_takeOperator_63 (by decide) ?_
            exact r_iret 65 Rt dX4_takeOperator_65 (z10, z8, f9) (show -8 ≤ (Int32.toInt (-8)) ∧ (Int32.toInt (-8)) ≤ 511 ∧ 0 ≤ (Int32.toInt z8) ∧ (Int32.toInt z8) ≤ 48 from ⟨(by ((repeat' apply And.intro) <;> first | trivial | rfl | assumption | omega | decide | exact Or.inl rfl | exact Or.inr (Or.inl rfl) | exact Or.inr (Or.inr rfl))), (by ((repeat' apply And.intro) <;> first | trivial | rfl | assumption | omega | decide | exact Or.inl rfl | exact Or.inr (Or.inl rfl) | exact Or.inr (Or.inr rfl))), (show _ ∧ _ from ⟨i17a, i17b⟩).1, (show _ ∧ _ from ⟨i17a, i17b⟩).2⟩) [2, 0, 3, 1, 4, 5] (by decide) rfl (Nat.le_of_ble_eq_true rfl) (Nat.le_of_ble_eq_true rfl)
        · skip
          have k37 : (Int32.toInt z7) = (-1) := (fa_eq z7 (-1)).mp c20
          refine r_bipush 50 (-7) C dX4_takeOperator_50 (by decide) ?_
          exact r_iret 52 Rt dX4_takeOperator_52 (z10, z8, f9) (show -8 ≤ (Int32.toInt (-7)) ∧ (Int32.toInt (-7)) ≤ 511 ∧ 0 ≤ (Int32.toInt z8) ∧ (Int32.toInt z8) ≤ 48 from ⟨(by ((repeat' apply And.intro) <;> first | trivial | rfl | assumption | omega | decide | exact Or.inl rfl | exact Or.inr (Or.inl rfl) | exact Or.inr (Or.inr rfl))), (by ((repeat' apply And.intro) <;> first | trivial | rfl | assumption | omega | decide | exact Or.inl rfl | exact Or.inr (Or.inl rfl) | exact Or.inr (Or.inr rfl))), (show _ ∧ _ from ⟨i17a, i17b⟩).1, (show _ ∧ _ from ⟨i17a, i17b⟩).2⟩) [2, 0, 3, 1, 4, 5] (by decide) rfl (Nat.le_of_ble_eq_true rfl) (Nat.le_of_ble_eq_true rfl)
      · skip
        have k38 : ¬ (48 < (Int32.toInt z6)) := fun h_9 => c18 ((fa_lt 48 z6).mpr h_9)
        refine r_aload_n 13 2 C dX4_takeOperator_13 rfl ?_
        refine r_iload_n 14 1 C dX4_takeOperator_14 rfl ?_
        refine r_callAi 15 C dX4_takeOperator_15 [] [] [(h1, .inr (6, [.ref h3, .ref h13, .int z8, .int x11])), (h3, .inl (gJ g, 48, .inr (.inl f9))), (h0, .inr (8, [.ref h1, .ref h6, .ref h2, .int x0, .int x1, .long y0, .int x2, .int x3, .int z10, .int x5, .ref h7, .ref h8, .ref h9, .int x6, .int x7, .ref h10, .ref h11, .int x8, .ref h12, .int x9])), (h2, .inr (3, [.ref h4, .ref h14, .ref h15, .ref h16, .int x12, .int x13, .int x14])), (h4, .inr (4, [.ref h5, .int x15])), (h5, .inl (gB g, 1500, .inl fn0))] (fun sz => c226_X9_isNumber l g h0 z7  sz) gX4_takeOperator_X9_isNumber_u88X9 rfl ⟨rfl, rfl⟩ 1 (mg 37 rfl) (by decide) ⟨Nat.le_of_ble_eq_true rfl, Nat.le_of_ble_eq_true rfl⟩ 2 rfl rfl [] [0, 1, 2, 3, 4, 5] rfl rfl (by decide) (by decide) (by decide) rfl rfl (Nat.le_of_ble_eq_true rfl) ⟨Nat.le_of_ble_eq_true rfl, Nat.le_of_ble_eq_true rfl⟩ (fun r39 _ w40 => ?_)
        refine r_ws [(h1, .inr (6, [.ref h3, .ref h13, .int z8, .int x11])), (h3, .inl (gJ g, 48, .inr (.inl f9))), (h0, .inr (8, [.ref h1, .ref h6, .ref h2, .int x0, .int x1, .long y0, .int x2, .int x3, .int z10, .int x5, .ref h7, .ref h8, .ref h9, .int x6, .int x7, .ref h10, .ref h11, .int x8, .ref h12, .int x9])), (h2, .inr (3, [.ref h4, .ref h14, .ref h15, .ref h16, .int x12, .int x13, .int x14])), (h4, .inr (4, [.ref h5, .int x15])), (h5, .inl (gB g, 1500, .inl fn0))] rfl ?_
        have p41 : 0 ≤ (Int32.toInt r39) := w40.1
        have p42 : (Int32.toInt r39) ≤ 1 := w40.2
        refine r_if_eq 18 45 C dX4_takeOperator_18 (by decide) (fun c43 => ?_) (fun c43 => ?_)
        · skip
          have k44 : (Int32.toInt r39) = 0 := (fa_eq r39 0).mp c43
          refine r_iload_n 45 1 C dX4_takeOperator_45 rfl ?_
          refine r_iconst 46 (-1) C dX4_takeOperator_46 (by decide) ?_
          refine r_icmp_ne 47 53 C dX4_takeOperator_47 (by decide) (fun c45 => ?_) (fun c45 => ?_)
          · skip
            have k46 : ¬ ((Int32.toInt z7) = (-1)) := fun h_9 => c45 ((fa_eq z7 (-1)).mpr h_9)
            refine r_aload_n 53 2 C dX4_takeOperator_53 rfl ?_
            refine r_get 54 C dX4_takeOperator_54 (k := 3) 2 rfl rfl hiX9 (by decide) rfl (mg 1 rfl) (Or.inl rfl) rfl ?_
            refine r_sipush 57 3000 C dX4_takeOperator_57 (by decide) ?_
            refine r_icmp_lt 60 66 C dX4_takeOperator_60 (by decide) (fun c47 => ?_) (fun c47 => ?_)
            · skip
              have k48 : (Int32.toInt x0) < 3000 := (fa_lt x0 3000).mp c47
              refine r_iload_n 66 1 C dX4_takeOperator_66 rfl ?_
              refine r_bipush 67 12 C dX4_takeOperator_67 (by decide) ?_
              refine r_icmp_eq 69 74 C dX4_takeOperator_69 (by decide) (fun c49 => ?_) (fun c49 => ?_)
              · skip
                have k50 : (Int32.toInt z7) = 12 := (fa_eq z7 12).mp c49
                refine r_aload_n 74 2 C dX4_takeOperator_74 rfl ?_
                refine r_callUi 75 C dX4_takeOperator_75 [] [(h0, .inr (8, [.ref h1, .ref h6, .ref h2, .int x0, .int x1, .long y0, .int x2, .int x3, .int z10, .int x5, .ref h7, .ref h8, .ref h9, .int x6, .int x7, .ref h10, .ref h11, .int x8, .ref h12, .int x9])), (h2, .inr (3, [.ref h4, .ref h14, .ref h15, .ref h16, .int x12, .int x13, .int x14])), (h4, .inr (4, [.ref h5, .int x15])), (h5, .inl (gB g, 1500, .inl fn0))] [(h1, .inr (6, [.ref h3, .ref h13, .int z8, .int x11])), (h3, .inl (gJ g, 48, .inr (.inl f9)))] (fun sz => c225_X4_takeByte l g h0 h2 h4 h5 h1 h6 x0 x1 y0 x2 x3 z10 x5 h7 h8 h9 x6 x7 h10 h11 x8 h12 x9 h14 h15 h16 x12 x13 x14 x15 fn0 i_x5 i_x6 i_x7 i_x8 i_x9 i_x15 sz) gX4_takeOperator_X4_takeByte_u85X9 rfl ⟨rfl, rfl⟩ 0 rfl (by decide) ⟨Nat.le_of_ble_eq_true rfl, Nat.le_of_ble_eq_true rfl⟩ 2 rfl rfl [2, 3, 4, 5] [0, 1] rfl rfl (by decide) (by decide) (by decide) rfl rfl (Nat.le_of_ble_eq_true rfl) ⟨Nat.le_of_ble_eq_true rfl, Nat.le_of_ble_eq_true rfl⟩ (fun r52 z51 w53 => ?_)
                refine r_ws [(h1, .inr (6, [.ref h3, .ref h13, .int z8, .int x11])), (h3, .inl (gJ g, 48, .inr (.inl f9))), (h0, .inr (8, [.ref h1, .ref h6, .ref h2, .int x0, .int x1, .long y0, .int x2, .int x3, .int z51, .int x5, .ref h7, .ref h8, .ref h9, .int x6, .int x7, .ref h10, .ref h11, .int x8, .ref h12, .int x9])), (h2, .inr (3, [.ref h4, .ref h14, .ref h15, .ref h16, .int x12, .int x13, .int x14])), (h4, .inr (4, [.ref h5, .int x15])), (h5, .inl (gB g, 1500, .inl fn0))] rfl ?_
                have gz51 := fb_rng z51
                have p54 : -1 ≤ (Int32.toInt r52) := w53.1
                have p55 : (Int32.toInt r52) ≤ 255 := w53.2
                refine r_istore_n 78 C dX4_takeOperator_78 [(2, .int r52), (1, .int z7), (0, .ref h0)] (by decide) rfl ?_
                refine r_iload_n 79 0 C dX4_takeOperator_79 rfl ?_
                refine r_iconst 80 (-1) C dX4_takeOperator_80 (by decide) ?_
                refine r_icmp_ne 81 89 C dX4_takeOperator_81 (by decide) (fun c56 => ?_) (fun c56 => ?_)
                · skip
                  have k57 : ¬ ((Int32.toInt r52) = (-1)) := fun h_9 => c56 ((fa_eq r52 (-1)).mpr h_9)
                  refine r_sipush 89 256 C dX4_takeOperator_89 (by decide) ?_
                  refine r_iload_n 92 0 C dX4_takeOperator_92 rfl ?_
                  obtain ⟨z58, ez58⟩ : ∃ z_9, 256 + r52 = z_9 := ⟨_, rfl⟩
                  have tz58 : (Int32.toInt z58) = 256 + (Int32.toInt r52) := by rw [← ez58]; exact fb_addIv (a := 256) (b := 256) (c := (-1)) (d := 255) ⟨by decide, by decide⟩ ⟨p54, p55⟩ (by decide) (by decide)
                  refine r_iadd 93 z58 C dX4_takeOperator_93 ez58 ?_
                  exact r_iret 94 Rt dX4_takeOperator_94 (z51, z8, f9) (show -8 ≤ (Int32.toInt z58) ∧ (Int32.toInt z58) ≤ 511 ∧ 0 ≤ (Int32.toInt z8) ∧ (Int32.toInt z8) ≤ 48 from ⟨(iv_wide (c := (-8)) (d := 511) (iv_add (a := 256) (b := 256) (c := (-1)) (d := 255) ⟨by decide, by decide⟩ ⟨p54, p55⟩ tz58) (by decide) (by decide)).1, (iv_wide (c := (-8)) (d := 511) (iv_add (a := 256) (b := 256) (c := (-1)) (d := 255) ⟨by decide, by decide⟩ ⟨p54, p55⟩ tz58) (by decide) (by decide)).2, (show _ ∧ _ from ⟨i17a, i17b⟩).1, (show _ ∧ _ from ⟨i17a, i17b⟩).2⟩) [2, 0, 3, 1, 4, 5] (by decide) rfl (Nat.le_of_ble_eq_true rfl) (Nat.le_of_ble_eq_true rfl)
                · skip
                  have k59 : (Int32.toInt r52) = (-1) := (fa_eq r52 (-1)).mp c56
                  refine r_bipush 84 (-7) C dX4_takeOperator_84 (by decide) ?_
                  refine r_goto 86 94 C dX4_takeOperator_86 (by decide) ?_
                  exact r_iret 94 Rt dX4_takeOperator_94 (z51, z8, f9) (show -8 ≤ (Int32.toInt (-7)) ∧ (Int32.toInt (-7)) ≤ 511 ∧ 0 ≤ (Int32.toInt z8) ∧ (Int32.toInt z8) ≤ 48 from ⟨(by ((repeat' apply And.intro) <;> first | trivial | rfl | assumption | omega | decide | exact Or.inl rfl | exact Or.inr (Or.inl rfl) | exact Or.inr (Or.inr rfl))), (by ((repeat' apply And.intro) <;> first | trivial | rfl | assumption | omega | decide | exact Or.inl rfl | exact Or.inr (Or.inl rfl) | exact Or.inr (Or.inr rfl))), (show _ ∧ _ from ⟨i17a, i17b⟩).1, (show _ ∧ _ from ⟨i17a, i17b⟩).2⟩) [2, 0, 3, 1, 4, 5] (by decide) rfl (Nat.le_of_ble_eq_true rfl) (Nat.le_of_ble_eq_true rfl)
              · skip
                have k60 : ¬ ((Int32.toInt z7) = 12) := fun h_9 => c49 ((fa_eq z7 12).mpr h_9)
                refine r_iload_n 72 1 C dX4_takeOperator_72 rfl ?_
                exact r_iret 73 Rt dX4_takeOperator_73 (z10, z8, f9) (show -8 ≤ (Int32.toInt z7) ∧ (Int32.toInt z7) ≤ 511 ∧ 0 ≤ (Int32.toInt z8) ∧ (Int32.toInt z8) ≤ 48 from ⟨(iv_wide (c := (-8)) (d := 511) ⟨i16a, i16b⟩ (by decide) (by decide)).1, (iv_wide (c := (-8)) (d := 511) ⟨i16a, i16b⟩ (by decide) (by decide)).2, (show _ ∧ _ from ⟨i17a, i17b⟩).1, (show _ ∧ _ from ⟨i17a, i17b⟩).2⟩) [2, 0, 3, 1, 4, 5] (by decide) rfl (Nat.le_of_ble_eq_true rfl) (Nat.le_of_ble_eq_true rfl)
            · skip
              have k61 : ¬ ((Int32.toInt x0) < 3000) := fun h_9 => c47 ((fa_lt x0 3000).mpr h_9)
              refine r_bipush 63 (-8) C dX4_takeOperator_63 (by decide) ?_
              exact r_iret 65 Rt dX4_takeOperator_65 (z10, z8, f9) (show -8 ≤ (Int32.toInt (-8)) ∧ (Int32.toInt (-8)) ≤ 511 ∧ 0 ≤ (Int32.toInt z8) ∧ (Int32.toInt z8) ≤ 48 from ⟨(by ((repeat' apply And.intro) <;> first | trivial | rfl | assumption | omega | decide | exact Or.inl rfl | exact Or.inr (Or.inl rfl) | exact Or.inr (Or.inr rfl))), (by ((repeat' apply And.intro) <;> first | trivial | rfl | assumption | omega | decide | exact Or.inl rfl | exact Or.inr (Or.inl rfl) | exact Or.inr (Or.inr rfl))), (show _ ∧ _ from ⟨i17a, i17b⟩).1, (show _ ∧ _ from ⟨i17a, i17b⟩).2⟩) [2, 0, 3, 1, 4, 5] (by decide) rfl (Nat.le_of_ble_eq_true rfl) (Nat.le_of_ble_eq_true rfl)
          · skip
            have k62 : (Int32.toInt z7) = (-1) := (fa_eq z7 (-1)).mp c45
            refine r_bipush 50 (-7) C dX4_takeOperator_50 (by decide) ?_
            exact r_iret 52 Rt dX4_takeOperator_52 (z10, z8, f9) (show -8 ≤ (Int32.toInt (-7)) ∧ (Int32.toInt (-7)) ≤ 511 ∧ 0 ≤ (Int32.toInt z8) ∧ (Int32.toInt z8) ≤ 48 from ⟨(by ((repeat' apply And.intro) <;> first | trivial | rfl | assumption | omega | decide | exact Or.inl rfl | exact Or.inr (Or.inl rfl) | exact Or.inr (Or.inr rfl))), (by ((repeat' apply And.intro) <;> first | trivial | rfl | assumption | omega | decide | exact Or.inl rfl | exact Or.inr (Or.inl rfl) | exact Or.inr (Or.inr rfl))), (show _ ∧ _ from ⟨i17a, i17b⟩).1, (show _ ∧ _ from ⟨i17a, i17b⟩).2⟩) [2, 0, 3, 1, 4, 5] (by decide) rfl (Nat.le_of_ble_eq_true rfl) (Nat.le_of_ble_eq_true rfl)
        · skip
          have k63 : ¬ ((Int32.toInt r39) = 0) := fun h_9 => c43 ((fa_eq r39 0).mpr h_9)
          refine r_aload_n 21 2 C dX4_takeOperator_21 rfl ?_
          refine r_iload_n 22 1 C dX4_takeOperator_22 rfl ?_
          refine r_callUi 23 C dX4_takeOperator_23 [] [(h0, .inr (8, [.ref h1, .ref h6, .ref h2, .int x0, .int x1, .long y0, .int x2, .int x3, .int z10, .int x5, .ref h7, .ref h8, .ref h9, .int x6, .int x7, .ref h10, .ref h11, .int x8, .ref h12, .int x9])), (h1, .inr (6, [.ref h3, .ref h13, .int z8, .int x11])), (h2, .inr (3, [.ref h4, .ref h14, .ref h15, .ref h16, .int x12, .int x13, .int x14])), (h3, .inl (gJ g, 48, .inr (.inl f9))), (h4, .inr (4, [.ref h5, .int x15])), (h5, .inl (gB g, 1500, .inl fn0))] [] (fun sz => c229_X4_takeNumber l g h0 h1 h2 h3 h4 h5 z7 h6 x0 x1 y0 x2 x3 z10 x5 h7 h8 h9 x6 x7 h10 h11 x8 h12 x9 h13 z8 x11 h14 h15 h16 x12 x13 x14 f9 x15 fn0 i_x5 i_x6 i_x7 i_x8 i_x9 ⟨i17a, i17b⟩ i_x11 i_x15 sz) gX4_takeOperator_X4_takeNumber_u92X9 rfl ⟨rfl, rfl⟩ 1 rfl (by decide) ⟨Nat.le_of_ble_eq_true rfl, Nat.le_of_ble_eq_true rfl⟩ 2 rfl rfl [2, 0, 3, 1, 4, 5] [] rfl rfl (by decide) (by decide) (by decide) rfl rfl (Nat.le_of_ble_eq_true rfl) ⟨Nat.le_of_ble_eq_true rfl, Nat.le_of_ble_eq_true rfl⟩ (fun r67 u69 w68 => ?_)
          obtain ⟨z64, z65, f66⟩ := u69
          refine r_ws [(h0, .inr (8, [.ref h1, .ref h6, .ref h2, .int x0, .int x1, .long y0, .int x2, .int x3, .int z64, .int x5, .ref h7, .ref h8, .ref h9, .int x6, .int x7, .ref h10, .ref h11, .int x8, .ref h12, .int x9])), (h1, .inr (6, [.ref h3, .ref h13, .int z65, .int x11])), (h2, .inr (3, [.ref h4, .ref h14, .ref h15, .ref h16, .int x12, .int x13, .int x14])), (h3, .inl (gJ g, 48, .inr (.inl f66))), (h4, .inr (4, [.ref h5, .int x15])), (h5, .inl (gB g, 1500, .inl fn0))] rfl ?_
          have gz64 := fb_rng z64
          have p70 : 0 ≤ (Int32.toInt r67) := w68.1
          have p71 : (Int32.toInt r67) ≤ 7 := w68.2.1
          have p72 : 0 ≤ (Int32.toInt z65) := w68.2.2.1
          have p73 : (Int32.toInt z65) ≤ 48 := w68.2.2.2
          refine r_istore_n 26 C dX4_takeOperator_26 [(3, .int r67), (2, .int z6), (1, .int z7), (0, .ref h0)] (by decide) rfl ?_
          refine r_iload_n 27 0 C dX4_takeOperator_27 rfl ?_
          refine r_if_eq 28 34 C dX4_takeOperator_28 (by decide) (fun c74 => ?_) (fun c74 => ?_)
          · skip
            have k75 : (Int32.toInt r67) = 0 := (fa_eq r67 0).mp c74
            refine r_aload_n 34 3 C dX4_takeOperator_34 rfl ?_
            refine r_callUi 35 C dX4_takeOperator_35 [] [(h0, .inr (8, [.ref h1, .ref h6, .ref h2, .int x0, .int x1, .long y0, .int x2, .int x3, .int z64, .int x5, .ref h7, .ref h8, .ref h9, .int x6, .int x7, .ref h10, .ref h11, .int x8, .ref h12, .int x9])), (h2, .inr (3, [.ref h4, .ref h14, .ref h15, .ref h16, .int x12, .int x13, .int x14])), (h4, .inr (4, [.ref h5, .int x15])), (h5, .inl (gB g, 1500, .inl fn0))] [(h1, .inr (6, [.ref h3, .ref h13, .int z65, .int x11])), (h3, .inl (gJ g, 48, .inr (.inl f66)))] (fun sz => c225_X4_takeByte l g h0 h2 h4 h5 h1 h6 x0 x1 y0 x2 x3 z64 x5 h7 h8 h9 x6 x7 h10 h11 x8 h12 x9 h14 h15 h16 x12 x13 x14 x15 fn0 i_x5 i_x6 i_x7 i_x8 i_x9 i_x15 sz) gX4_takeOperator_X4_takeByte_u85X9 rfl ⟨rfl, rfl⟩ 0 rfl (by decide) ⟨Nat.le_of_ble_eq_true rfl, Nat.le_of_ble_eq_true rfl⟩ 0 rfl rfl [0, 2, 4, 5] [1, 3] rfl rfl (by decide) (by decide) (by decide) rfl rfl (Nat.le_of_ble_eq_true rfl) ⟨Nat.le_of_ble_eq_true rfl, Nat.le_of_ble_eq_true rfl⟩ (fun r77 z76 w78 => ?_)
            refine r_ws [(h1, .inr (6, [.ref h3, .ref h13, .int z65, .int x11])), (h3, .inl (gJ g, 48, .inr (.inl f66))), (h0, .inr (8, [.ref h1, .ref h6, .ref h2, .int x0, .int x1, .long y0, .int x2, .int x3, .int z76, .int x5, .ref h7, .ref h8, .ref h9, .int x6, .int x7, .ref h10, .ref h11, .int x8, .ref h12, .int x9])), (h2, .inr (3, [.ref h4, .ref h14, .ref h15, .ref h16, .int x12, .int x13, .int x14])), (h4, .inr (4, [.ref h5, .int x15])), (h5, .inl (gB g, 1500, .inl fn0))] rfl ?_
            have gz76 := fb_rng z76
            have p79 : -1 ≤ (Int32.toInt r77) := w78.1
            have p80 : (Int32.toInt r77) ≤ 255 := w78.2
            refine r_istore_n 38 C dX4_takeOperator_38 [(1, .int r77), (3, .int r67), (2, .int z6), (0, .ref h0)] (by decide) rfl ?_
            obtain ⟨z81, ez81⟩ : ∃ z_9, z6 + Int32.ofInt 1 = z_9 := ⟨_, rfl⟩
            have tz81 : (Int32.toInt z81) = (Int32.toInt z6) + 1 := by rw [← ez81]; exact fb_addIv (a := 0) (b := 49) (c := 1) (d := 1) ⟨i15a, i15b⟩ ⟨by decide, by decide⟩ (by decide) (by decide)
            refine r_iinc 39 2 z81 C dX4_takeOperator_39 rfl ez81 [(2, .int z81), (1, .int r77), (3, .int r67), (0, .ref h0)] (by decide) rfl ?_
            refine r_goto 42 7 C dX4_takeOperator_42 (by decide) ?_
            refine r_lv [(2, .int z81), (1, .int r77), (0, .ref h0)] [0, 1, 3] rfl ?_
            exact ih13 z81 r77 z65 f66 z76 ⟨by omega, by omega⟩ ⟨p79, p80⟩ ⟨p72, p73⟩ (by omega)
          · skip
            have k82 : ¬ ((Int32.toInt r67) = 0) := fun h_9 => c74 ((fa_eq r67 0).mpr h_9)
            refine r_iload_n 31 0 C dX4_takeOperator_31 rfl ?_
            obtain ⟨z83, ez83⟩ : ∃ z_9, -r67 = z_9 := ⟨_, rfl⟩
            have tz83 : (Int32.toInt z83) = -(Int32.toInt r67) := by rw [← ez83]; exact neg_in (by omega)
            refine r_ineg 32 z83 C dX4_takeOperator_32 ez83 ?_
            exact r_iret 33 Rt dX4_takeOperator_33 (z64, z65, f66) (show -8 ≤ (Int32.toInt z83) ∧ (Int32.toInt z83) ≤ 511 ∧ 0 ≤ (Int32.toInt z65) ∧ (Int32.toInt z65) ≤ 48 from ⟨(by ((repeat' apply And.intro) <;> first | trivial | rfl | assumption | omega | decide | exact Or.inl rfl | exact Or.inr (Or.inl rfl) | exact Or.inr (Or.inr rfl))), (by ((repeat' apply And.intro) <;> first | trivial | rfl | assumption | omega | decide | exact Or.inl rfl | exact Or.inr (Or.inl rfl) | exact Or.inr (Or.inr rfl))), (show _ ∧ _ from ⟨p72, p73⟩).1, (show _ ∧ _ from ⟨p72, p73⟩).2⟩) [0, 1, 2, 3, 4, 5] (by decide) rfl (Nat.le_of_ble_eq_true rfl) (Nat.le_of_ble_eq_true rfl)
  exact lp12 _ 0 r2 x10 fm0 z1 (by decide) ⟨p4, p5⟩ i_x10 (Nat.lt_succ_self _)
set_option maxHeartbeats 4000000 in
set_option maxRecDepth 100000 in
theorem c231_X7_size (l : Launch) (g : GD) (h0 : Nat) (h1 : Nat) (h2 : Nat) (x0 : Int32) (x1 : Int32) (i_x0 : (0 ≤ (Int32.toInt x0) ∧ (Int32.toInt x0) ≤ 48)) (i_x1 : (0 ≤ (Int32.toInt x1) ∧ (Int32.toInt x1) ≤ 48)) (sz : Nat) : Met l yX7_size wsX7_size ({ frames := 0, cells := 0, slots := 0, locals := 0 }) (va_Pc [.ref h0] (PW g [(h0, .inr (6, [.ref h1, .ref h2, .int x0, .int x1]))] sz)) (va_Qi (fun (r : Int32) (_ : Unit) => r = x0) (BW g (va_A [(h0, .inr (6, [.ref h1, .ref h2, .int x0, .int x1]))] sz) (fun _ : Unit => [(h0, .inr (6, [.ref h1, .ref h2, .int x0, .int x1]))])) (va_A [(h0, .inr (6, [.ref h1, .ref h2, .int x0, .int x1]))] sz)) 0 0 (va_A [(h0, .inr (6, [.ref h1, .ref h2, .int x0, .int x1]))] sz) := by
  refine met_i RX7 (by decide) rfl rfl (Nat.le_of_ble_eq_true rfl) [(0, .ref h0)] rfl ?_
  intro p e s m args below meth c A Q C hnm Rt
  have hiX7 : ∀ w ∈ wsX70, w ∈ wsX7_size := fun w h => List.mem_cons_of_mem _ (List.mem_append_right _ (h))
  refine r_aload_n 0 0 C dX7_size_0 rfl ?_
  refine r_get 1 C dX7_size_1 (k := 2) 0 rfl rfl hiX7 (by decide) rfl (mg 1 rfl) (Or.inl rfl) rfl ?_
  exact r_iret 4 Rt dX7_size_4 () (show x0 = x0 from (by ((repeat' apply And.intro) <;> first | trivial | rfl | assumption | omega | decide | exact Or.inl rfl | exact Or.inr (Or.inl rfl) | exact Or.inr (Or.inr rfl)))) [0] (by decide) rfl (Nat.le_of_ble_eq_true rfl) (Nat.le_of_ble_eq_true rfl)
set_option maxHeartbeats 4000000 in
set_option maxRecDepth 100000 in
theorem c232_X7_get (l : Launch) (g : GD) (h0 : Nat) (h1 : Nat) (x0 : Int32) (h2 : Nat) (x1 : Int32) (x2 : Int32) (fm0 : Nat → Int64) (i_x1 : (0 ≤ (Int32.toInt x1) ∧ (Int32.toInt x1) ≤ 48)) (i_x2 : (0 ≤ (Int32.toInt x2) ∧ (Int32.toInt x2) ≤ 48)) (sz : Nat) : Met l yX7_get wsX7_get ({ frames := 0, cells := 0, slots := 0, locals := 0 }) (va_Pc [.ref h0, .int x0] (PW g [(h0, .inr (6, [.ref h1, .ref h2, .int x1, .int x2])), (h1, .inl (gJ g, 48, .inr (.inl fm0)))] sz)) (va_Ql (fun (r : Int64) (_ : Unit) => True) (BW g (va_A [(h0, .inr (6, [.ref h1, .ref h2, .int x1, .int x2])), (h1, .inl (gJ g, 48, .inr (.inl fm0)))] sz) (fun _ : Unit => [(h0, .inr (6, [.ref h1, .ref h2, .int x1, .int x2])), (h1, .inl (gJ g, 48, .inr (.inl fm0)))])) (va_A [(h0, .inr (6, [.ref h1, .ref h2, .int x1, .int x2])), (h1, .inl (gJ g, 48, .inr (.inl fm0)))] sz)) 0 0 (va_A [(h0, .inr (6, [.ref h1, .ref h2, .int x1, .int x2])), (h1, .inl (gJ g, 48, .inr (.inl fm0)))] sz) := by
  refine met_l RX7 (by decide) rfl rfl (Nat.le_of_ble_eq_true rfl) [(0, .ref h0), (1, .int x0)] rfl ?_
  intro p e s m args below meth c A Q C hnm Rt
  have gx0 := fb_rng x0
  have hiX7 : ∀ w ∈ wsX70, w ∈ wsX7_get := fun w h => List.mem_cons_of_mem _ (List.mem_append_right _ (h))
  refine r_iload_n 0 1 C dX7_get_0 rfl ?_
  refine r_if_lt 1 21 C dX7_get_1 (by decide) (fun c1 => ?_) (fun c1 => ?_)
  · skip
    have k2 : (Int32.toInt x0) < 0 := (fa_lt x0 0).mp c1
    refine r_lconst 21 0 C dX7_get_21 (by decide) ?_
    exact r_lret 22 Rt dX7_get_22 () trivial [0, 1] (by decide) rfl (Nat.le_of_ble_eq_true rfl) (Nat.le_of_ble_eq_true rfl)
  · skip
    have k3 : ¬ ((Int32.toInt x0) < 0) := fun h_9 => c1 ((fa_lt x0 0).mpr h_9)
    refine r_iload_n 4 1 C dX7_get_4 rfl ?_
    refine r_aload_n 5 0 C dX7_get_5 rfl ?_
    refine r_get 6 C dX7_get_6 (k := 2) 0 rfl rfl hiX7 (by decide) rfl (mg 1 rfl) (Or.inl rfl) rfl ?_
    refine r_icmp_ge 9 21 C dX7_get_9 (by decide) (fun c4 => ?_) (fun c4 => ?_)
    · skip
      have k5 : (Int32.toInt x1) ≤ (Int32.toInt x0) := (fa_le x1 x0).mp c4
      refine r_lconst 21 0 C dX7_get_21 (by decide) ?_
      exact r_lret 22 Rt dX7_get_22 () trivial [0, 1] (by decide) rfl (Nat.le_of_ble_eq_true rfl) (Nat.le_of_ble_eq_true rfl)
    · skip
      have k6 : ¬ ((Int32.toInt x1) ≤ (Int32.toInt x0)) := fun h_9 => c4 ((fa_le x1 x0).mpr h_9)
      refine r_aload_n 12 0 C dX7_get_12 rfl ?_
      refine r_get 13 C dX7_get_13 (k := 0) 0 rfl rfl hiX7 (by decide) rfl (mg 2 rfl) (Or.inl rfl) rfl ?_
      refine r_iload_n 16 1 C dX7_get_16 rfl ?_
      obtain ⟨z7, ez7⟩ : ∃ z_9, fm0 (Int32.toNatClampNeg x0) = z_9 := ⟨_, rfl⟩
      refine r_lald 17 z7 C dX7_get_17 1 rfl (vinI (by omega) (by omega)) ez7 ?_
      have gz7 := fb_rngL z7
      refine r_goto 18 22 C dX7_get_18 (by decide) ?_
      exact r_lret 22 Rt dX7_get_22 () trivial [0, 1] (by decide) rfl (Nat.le_of_ble_eq_true rfl) (Nat.le_of_ble_eq_true rfl)
set_option maxHeartbeats 4000000 in
set_option maxRecDepth 100000 in
theorem c233_X7_below (l : Launch) (g : GD) (h0 : Nat) (h1 : Nat) (x0 : Int32) (h2 : Nat) (x1 : Int32) (x2 : Int32) (fm0 : Nat → Int64) (i_x1 : (0 ≤ (Int32.toInt x1) ∧ (Int32.toInt x1) ≤ 48)) (i_x2 : (0 ≤ (Int32.toInt x2) ∧ (Int32.toInt x2) ≤ 48)) (sz : Nat) : Met l yX7_below wsX7_below ({ frames := 1, cells := 0, slots := 0, locals := 21 }) (va_Pc [.ref h0, .int x0] (PW g [(h0, .inr (6, [.ref h1, .ref h2, .int x1, .int x2])), (h1, .inl (gJ g, 48, .inr (.inl fm0)))] sz)) (va_Ql (fun (r : Int64) (_ : Unit) => True) (BW g (va_A [(h0, .inr (6, [.ref h1, .ref h2, .int x1, .int x2])), (h1, .inl (gJ g, 48, .inr (.inl fm0)))] sz) (fun _ : Unit => [(h0, .inr (6, [.ref h1, .ref h2, .int x1, .int x2])), (h1, .inl (gJ g, 48, .inr (.inl fm0)))])) (va_A [(h0, .inr (6, [.ref h1, .ref h2, .int x1, .int x2])), (h1, .inl (gJ g, 48, .inr (.inl fm0)))] sz)) 0 0 (va_A [(h0, .inr (6, [.ref h1, .ref h2, .int x1, .int x2])), (h1, .inl (gJ g, 48, .inr (.inl fm0)))] sz) := by
  refine met_l RX7 (by decide) rfl rfl (Nat.le_of_ble_eq_true rfl) [(0, .ref h0), (1, .int x0)] rfl ?_
  intro p e s m args below meth c A Q C hnm Rt
  have hiX7 : ∀ w ∈ wsX70, w ∈ wsX7_below := fun w h => List.mem_cons_of_mem _ (List.mem_append_right _ (h))
  refine r_aload_n 0 0 C dX7_below_0 rfl ?_
  refine r_aload_n 1 0 C dX7_below_1 rfl ?_
  refine r_get 2 C dX7_below_2 (k := 2) 0 rfl rfl hiX7 (by decide) rfl (mg 1 rfl) (Or.inl rfl) rfl ?_
  refine r_iconst 5 1 C dX7_below_5 (by decide) ?_
  obtain ⟨z1, ez1⟩ : ∃ z_9, x1 - 1 = z_9 := ⟨_, rfl⟩
  have tz1 : (Int32.toInt z1) = (Int32.toInt x1) - 1 := by rw [← ez1]; exact fb_subIv (a := 0) (b := 48) (c := 1) (d := 1) i_x1 ⟨by decide, by decide⟩ (by decide) (by decide)
  refine r_isub 6 z1 C dX7_below_6 ez1 ?_
  refine r_iload_n 7 1 C dX7_below_7 rfl ?_
  obtain ⟨z2, ez2⟩ : ∃ z_9, z1 - x0 = z_9 := ⟨_, rfl⟩
  have gz2 := fb_rng z2
  refine r_isub 8 z2 C dX7_below_8 ez2 ?_
  refine r_callVl 9 C dX7_below_9 [] [(h0, .inr (6, [.ref h1, .ref h2, .int x1, .int x2])), (h1, .inl (gJ g, 48, .inr (.inl fm0)))] [] (fun sz => c232_X7_get l g h0 h1 z2 h2 x1 x2 fm0 i_x1 i_x2 sz) gX7_below_X7_get rfl ⟨rfl, rfl⟩ 1 (by decide) ⟨Nat.le_of_ble_eq_true rfl, Nat.le_of_ble_eq_true rfl⟩ 0 rfl rfl [0, 1] [] rfl rfl (by decide) (by decide) (by decide) rfl rfl (Nat.le_of_ble_eq_true rfl) ⟨Nat.le_of_ble_eq_true rfl, Nat.le_of_ble_eq_true rfl⟩ (fun r3 _ w4 => ?_)
  refine r_ws [(h0, .inr (6, [.ref h1, .ref h2, .int x1, .int x2])), (h1, .inl (gJ g, 48, .inr (.inl fm0)))] rfl ?_
  have gr3 := fb_rngL r3
  exact r_lret 12 Rt dX7_below_12 () trivial [0, 1] (by decide) rfl (Nat.le_of_ble_eq_true rfl) (Nat.le_of_ble_eq_true rfl)
set_option maxHeartbeats 4000000 in
set_option maxRecDepth 100000 in
theorem c234_X7_wholeBelow (l : Launch) (g : GD) (h0 : Nat) (h1 : Nat) (x0 : Int32) (h2 : Nat) (x1 : Int32) (x2 : Int32) (fm0 : Nat → Int64) (i_x1 : (0 ≤ (Int32.toInt x1) ∧ (Int32.toInt x1) ≤ 48)) (i_x2 : (0 ≤ (Int32.toInt x2) ∧ (Int32.toInt x2) ≤ 48)) (sz : Nat) : Met l yX7_wholeBelow wsX7_wholeBelow ({ frames := 2, cells := 0, slots := 0, locals := 42 }) (va_Pc [.ref h0, .int x0] (PW g [(h0, .inr (6, [.ref h1, .ref h2, .int x1, .int x2])), (h1, .inl (gJ g, 48, .inr (.inl fm0)))] sz)) (va_Ql (fun (r : Int64) (_ : Unit) => True) (BW g (va_A [(h0, .inr (6, [.ref h1, .ref h2, .int x1, .int x2])), (h1, .inl (gJ g, 48, .inr (.inl fm0)))] sz) (fun _ : Unit => [(h0, .inr (6, [.ref h1, .ref h2, .int x1, .int x2])), (h1, .inl (gJ g, 48, .inr (.inl fm0)))])) (va_A [(h0, .inr (6, [.ref h1, .ref h2, .int x1, .int x2])), (h1, .inl (gJ g, 48, .inr (.inl fm0)))] sz)) 0 0 (va_A [(h0, .inr (6, [.ref h1, .ref h2, .int x1, .int x2])), (h1, .inl (gJ g, 48, .inr (.inl fm0)))] sz) := by
  refine met_l RX7 (by decide) rfl rfl (Nat.le_of_ble_eq_true rfl) [(0, .ref h0), (1, .int x0)] rfl ?_
  intro p e s m args below meth c A Q C hnm Rt
  refine r_aload_n 0 0 C dX7_wholeBelow_0 rfl ?_
  refine r_iload_n 1 1 C dX7_wholeBelow_1 rfl ?_
  refine r_callVl 2 C dX7_wholeBelow_2 [] [(h0, .inr (6, [.ref h1, .ref h2, .int x1, .int x2])), (h1, .inl (gJ g, 48, .inr (.inl fm0)))] [] (fun sz => c233_X7_below l g h0 h1 x0 h2 x1 x2 fm0 i_x1 i_x2 sz) gX7_wholeBelow_X7_below rfl ⟨rfl, rfl⟩ 1 (by decide) ⟨Nat.le_of_ble_eq_true rfl, Nat.le_of_ble_eq_true rfl⟩ 0 rfl rfl [0, 1] [] rfl rfl (by decide) (by decide) (by decide) rfl rfl (Nat.le_of_ble_eq_true rfl) ⟨Nat.le_of_ble_eq_true rfl, Nat.le_of_ble_eq_true rfl⟩ (fun r1 _ w2 => ?_)
  refine r_ws [(h0, .inr (6, [.ref h1, .ref h2, .int x1, .int x2])), (h1, .inl (gJ g, 48, .inr (.inl fm0)))] rfl ?_
  have gr1 := fb_rngL r1
  refine r_bipush 5 16 C dX7_wholeBelow_5 (by decide) ?_
  obtain ⟨z3, ez3⟩ : ∃ z_9, r1 >>> (Int32.toInt64 16 &&& 63) = z_9 := ⟨_, rfl⟩
  have gz3 := fb_rngL z3
  refine r_lshr 7 z3 C dX7_wholeBelow_7 ez3 ?_
  exact r_lret 8 Rt dX7_wholeBelow_8 () trivial [0, 1] (by decide) rfl (Nat.le_of_ble_eq_true rfl) (Nat.le_of_ble_eq_true rfl)
set_option maxHeartbeats 4000000 in
set_option maxRecDepth 100000 in
theorem c235_X7_drop (l : Launch) (g : GD) (h0 : Nat) (x0 : Int32) (h1 : Nat) (h2 : Nat) (x1 : Int32) (x2 : Int32) (i_x1 : (0 ≤ (Int32.toInt x1) ∧ (Int32.toInt x1) ≤ 48)) (i_x2 : (0 ≤ (Int32.toInt x2) ∧ (Int32.toInt x2) ≤ 48)) (sz : Nat) : Met l yX7_drop wsX7_drop ({ frames := 0, cells := 0, slots := 0, locals := 0 }) (va_Pc [.ref h0, .int x0] (PW g [(h0, .inr (6, [.ref h1, .ref h2, .int x1, .int x2]))] sz)) (va_Qv (fun (u : (Int32)) => 0 ≤ (Int32.toInt u) ∧ (Int32.toInt u) ≤ 48) (BW g (va_A [(h0, .inr (6, [.ref h1, .ref h2, .int x1, .int x2]))] sz) (fun u : (Int32) => [(h0, .inr (6, [.ref h1, .ref h2, .int u, .int x2]))])) (va_A [(h0, .inr (6, [.ref h1, .ref h2, .int x1, .int x2]))] sz)) 0 0 (va_A [(h0, .inr (6, [.ref h1, .ref h2, .int x1, .int x2]))] sz) := by
  refine met_v RX7 (by decide) rfl rfl (Nat.le_of_ble_eq_true rfl) [(0, .ref h0), (1, .int x0)] rfl ?_
  intro p e s m args below meth c A Q C hnm Rt
  have gx0 := fb_rng x0
  have hiX7 : ∀ w ∈ wsX70, w ∈ wsX7_drop := fun w h => List.mem_cons_of_mem _ (List.mem_append_right _ (h))
  refine r_iload_n 0 1 C dX7_drop_0 rfl ?_
  refine r_if_le 1 26 C dX7_drop_1 (by decide) (fun c1 => ?_) (fun c1 => ?_)
  · skip
    have k2 : (Int32.toInt x0) ≤ 0 := (fa_le x0 0).mp c1
    exact r_vret 26 Rt dX7_drop_26 x1 (show 0 ≤ (Int32.toInt x1) ∧ (Int32.toInt x1) ≤ 48 from ⟨i_x1.1, i_x1.2⟩) [0] (by decide) rfl (Nat.le_of_ble_eq_true rfl) (Nat.le_of_ble_eq_true rfl)
  · skip
    have k3 : ¬ ((Int32.toInt x0) ≤ 0) := fun h_9 => c1 ((fa_le x0 0).mpr h_9)
    refine r_aload_n 4 0 C dX7_drop_4 rfl ?_
    refine r_iload_n 5 1 C dX7_drop_5 rfl ?_
    refine r_aload_n 6 0 C dX7_drop_6 rfl ?_
    refine r_get 7 C dX7_drop_7 (k := 2) 0 rfl rfl hiX7 (by decide) rfl (mg 1 rfl) (Or.inl rfl) rfl ?_
    refine r_icmp_ge 10 22 C dX7_drop_10 (by decide) (fun c4 => ?_) (fun c4 => ?_)
    · skip
      have k5 : (Int32.toInt x1) ≤ (Int32.toInt x0) := (fa_le x1 x0).mp c4
      refine r_iconst 22 0 C dX7_drop_22 (by decide) ?_
      refine r_put 23 C dX7_drop_23 (k := 2) 0 rfl rfl hiX7 tyX7 tyX7_ok nmX7 (by decide) rfl (mg 1 rfl) (Or.inl rfl) rfl rfl rfl rfl (Nat.le_of_ble_eq_true rfl) [(h0, .inr (6, [.ref h1, .ref h2, .int 0, .int x2]))] rfl ?_
      exact r_vret 26 Rt dX7_drop_26 0 (show 0 ≤ (Int32.toInt 0) ∧ (Int32.toInt 0) ≤ 48 from ⟨(by ((repeat' apply And.intro) <;> first | trivial | rfl | assumption | omega | decide | exact Or.inl rfl | exact Or.inr (Or.inl rfl) | exact Or.inr (Or.inr rfl))), (by ((repeat' apply And.intro) <;> first | trivial | rfl | assumption | omega | decide | exact Or.inl rfl | exact Or.inr (Or.inl rfl) | exact Or.inr (Or.inr rfl)))⟩) [0] (by decide) rfl (Nat.le_of_ble_eq_true rfl) (Nat.le_of_ble_eq_true rfl)
    · skip
      have k6 : ¬ ((Int32.toInt x1) ≤ (Int32.toInt x0)) := fun h_9 => c4 ((fa_le x1 x0).mpr h_9)
      refine r_aload_n 13 0 C dX7_drop_13 rfl ?_
      refine r_get 14 C dX7_drop_14 (k := 2) 0 rfl rfl hiX7 (by decide) rfl (mg 1 rfl) (Or.inl rfl) rfl ?_
      refine r_iload_n 17 1 C dX7_drop_17 rfl ?_
      obtain ⟨z7, ez7⟩ : ∃ z_9, x1 - x0 = z_9 := ⟨_, rfl⟩
      have tz7 : (Int32.toInt z7) = (Int32.toInt x1) - (Int32.toInt x0) := by rw [← ez7]; exact fb_subI (by show -2147483648 ≤ (Int32.toInt x1) - (Int32.toInt x0); omega) (by show (Int32.toInt x1) - (Int32.toInt x0) < 2147483648; omega)
      refine r_isub 18 z7 C dX7_drop_18 ez7 ?_
      refine r_goto 19 23 C dX7_drop_19 (by decide) ?_
      refine r_put 23 C dX7_drop_23 (k := 2) 0 rfl rfl hiX7 tyX7 tyX7_ok nmX7 (by decide) rfl (mg 1 rfl) (Or.inl rfl) rfl rfl rfl rfl (Nat.le_of_ble_eq_true rfl) [(h0, .inr (6, [.ref h1, .ref h2, .int z7, .int x2]))] rfl ?_
      exact r_vret 26 Rt dX7_drop_26 z7 (show 0 ≤ (Int32.toInt z7) ∧ (Int32.toInt z7) ≤ 48 from ⟨(by ((repeat' apply And.intro) <;> first | trivial | rfl | assumption | omega | decide | exact Or.inl rfl | exact Or.inr (Or.inl rfl) | exact Or.inr (Or.inr rfl))), (by ((repeat' apply And.intro) <;> first | trivial | rfl | assumption | omega | decide | exact Or.inl rfl | exact Or.inr (Or.inl rfl) | exact Or.inr (Or.inr rfl)))⟩) [0] (by decide) rfl (Nat.le_of_ble_eq_true rfl) (Nat.le_of_ble_eq_true rfl)
set_option maxHeartbeats 4000000 in
set_option maxRecDepth 100000 in
theorem c236_X4_call (l : Launch) (g : GD) (h0 : Nat) (h1 : Nat) (h2 : Nat) (h3 : Nat) (h4 : Nat) (h5 : Nat) (h6 : Nat) (h7 : Nat) (h8 : Nat) (h9 : Nat) (h10 : Nat) (x0 : Int32) (h11 : Nat) (h12 : Nat) (x1 : Int32) (x2 : Int32) (y0 : Int64) (x3 : Int32) (x4 : Int32) (x5 : Int32) (x6 : Int32) (x7 : Int32) (x8 : Int32) (h13 : Nat) (h14 : Nat) (x9 : Int32) (h15 : Nat) (x10 : Int32) (x11 : Int32) (x12 : Int32) (x13 : Int32) (h16 : Nat) (x14 : Int32) (x15 : Int32) (fn0 : Nat → Int32) (fn1 : Nat → Int32) (fn2 : Nat → Int32) (x16 : Int32) (fn3 : Nat → Int32) (fn4 : Nat → Int32) (fm0 : Nat → Int64) (fn5 : Nat → Int32) (i_x6 : (0 ≤ (Int32.toInt x6) ∧ (Int32.toInt x6) ≤ 1)) (i_x7 : (0 ≤ (Int32.toInt x7) ∧ (Int32.toInt x7) ≤ 10)) (i_x8 : (0 ≤ (Int32.toInt x8) ∧ (Int32.toInt x8) ≤ 1)) (i_x9 : (0 ≤ (Int32.toInt x9) ∧ (Int32.toInt x9) ≤ 7)) (i_x10 : (0 ≤ (Int32.toInt x10) ∧ (Int32.toInt x10) ≤ 24)) (i_x14 : (0 ≤ (Int32.toInt x14) ∧ (Int32.toInt x14) ≤ 48)) (i_x15 : (0 ≤ (Int32.toInt x15) ∧ (Int32.toInt x15) ≤ 48)) (i_x16 : (0 ≤ (Int32.toInt x16) ∧ (Int32.toInt x16) ≤ 1500)) (sz : Nat) : Met l yX4_call wsX4_call ({ frames := 3, cells := 0, slots := 0, locals := 66 }) (va_Pc [.ref h0, .ref h1, .int x0] (PW g [(h0, .inr (8, [.ref h2, .ref h11, .ref h12, .int x1, .int x2, .long y0, .int x3, .int x4, .int x5, .int x6, .ref h3, .ref h4, .ref h5, .int x7, .int x8, .ref h13, .ref h14, .int x9, .ref h15, .int x10])), (h1, .inr (7, [.ref h6, .ref h7, .ref h8, .int x11, .int x12, .int x13])), (h2, .inr (6, [.ref h9, .ref h16, .int x14, .int x15])), (h3, .inl (gI g, 10, .inl fn0)), (h4, .inl (gI g, 10, .inl fn1)), (h5, .inl (gI g, 10, .inl fn2)), (h6, .inr (4, [.ref h10, .int x16])), (h7, .inl (gI g, 200, .inl fn3)), (h8, .inl (gI g, 200, .inl fn4)), (h9, .inl (gJ g, 48, .inr (.inl fm0))), (h10, .inl (gB g, 1500, .inl fn5))] sz)) (va_Qi (fun (r : Int32) (u : (Int32) × (Int32) × (Int32) × (Int32) × (Int32) × (Nat → Int32) × (Nat → Int32) × (Nat → Int32)) => 0 ≤ (Int32.toInt r) ∧ (Int32.toInt r) ≤ 5 ∧ 0 ≤ (Int32.toInt (u.2.2.2.1)) ∧ (Int32.toInt (u.2.2.2.1)) ≤ 10 ∧ 0 ≤ (Int32.toInt (u.2.2.2.2.1)) ∧ (Int32.toInt (u.2.2.2.2.1)) ≤ 48) (BW g (va_A [(h0, .inr (8, [.ref h2, .ref h11, .ref h12, .int x1, .int x2, .long y0, .int x3, .int x4, .int x5, .int x6, .ref h3, .ref h4, .ref h5, .int x7, .int x8, .ref h13, .ref h14, .int x9, .ref h15, .int x10])), (h1, .inr (7, [.ref h6, .ref h7, .ref h8, .int x11, .int x12, .int x13])), (h2, .inr (6, [.ref h9, .ref h16, .int x14, .int x15])), (h3, .inl (gI g, 10, .inl fn0)), (h4, .inl (gI g, 10, .inl fn1)), (h5, .inl (gI g, 10, .inl fn2)), (h6, .inr (4, [.ref h10, .int x16])), (h7, .inl (gI g, 200, .inl fn3)), (h8, .inl (gI g, 200, .inl fn4)), (h9, .inl (gJ g, 48, .inr (.inl fm0))), (h10, .inl (gB g, 1500, .inl fn5))] sz) (fun u : (Int32) × (Int32) × (Int32) × (Int32) × (Int32) × (Nat → Int32) × (Nat → Int32) × (Nat → Int32) => [(h0, .inr (8, [.ref h2, .ref h11, .ref h12, .int x1, .int x2, .long y0, .int u.1, .int u.2.1, .int u.2.2.1, .int x6, .ref h3, .ref h4, .ref h5, .int u.2.2.2.1, .int x8, .ref h13, .ref h14, .int x9, .ref h15, .int x10])), (h1, .inr (7, [.ref h6, .ref h7, .ref h8, .int x11, .int x12, .int x13])), (h2, .inr (6, [.ref h9, .ref h16, .int u.2.2.2.2.1, .int x15])), (h3, .inl (gI g, 10, .inl u.2.2.2.2.2.1)), (h4, .inl (gI g, 10, .inl u.2.2.2.2.2.2.1)), (h5, .inl (gI g, 10, .inl u.2.2.2.2.2.2.2)), (h6, .inr (4, [.ref h10, .int x16])), (h7, .inl (gI g, 200, .inl fn3)), (h8, .inl (gI g, 200, .inl fn4)), (h9, .inl (gJ g, 48, .inr (.inl fm0))), (h10, .inl (gB g, 1500, .inl fn5))])) (va_A [(h0, .inr (8, [.ref h2, .ref h11, .ref h12, .int x1, .int x2, .long y0, .int x3, .int x4, .int x5, .int x6, .ref h3, .ref h4, .ref h5, .int x7, .int x8, .ref h13, .ref h14, .int x9, .ref h15, .int x10])), (h1, .inr (7, [.ref h6, .ref h7, .ref h8, .int x11, .int x12, .int x13])), (h2, .inr (6, [.ref h9, .ref h16, .int x14, .int x15])), (h3, .inl (gI g, 10, .inl fn0)), (h4, .inl (gI g, 10, .inl fn1)), (h5, .inl (gI g, 10, .inl fn2)), (h6, .inr (4, [.ref h10, .int x16])), (h7, .inl (gI g, 200, .inl fn3)), (h8, .inl (gI g, 200, .inl fn4)), (h9, .inl (gJ g, 48, .inr (.inl fm0))), (h10, .inl (gB g, 1500, .inl fn5))] sz)) 0 0 (va_A [(h0, .inr (8, [.ref h2, .ref h11, .ref h12, .int x1, .int x2, .long y0, .int x3, .int x4, .int x5, .int x6, .ref h3, .ref h4, .ref h5, .int x7, .int x8, .ref h13, .ref h14, .int x9, .ref h15, .int x10])), (h1, .inr (7, [.ref h6, .ref h7, .ref h8, .int x11, .int x12, .int x13])), (h2, .inr (6, [.ref h9, .ref h16, .int x14, .int x15])), (h3, .inl (gI g, 10, .inl fn0)), (h4, .inl (gI g, 10, .inl fn1)), (h5, .inl (gI g, 10, .inl fn2)), (h6, .inr (4, [.ref h10, .int x16])), (h7, .inl (gI g, 200, .inl fn3)), (h8, .inl (gI g, 200, .inl fn4)), (h9, .inl (gJ g, 48, .inr (.inl fm0))), (h10, .inl (gB g, 1500, .inl fn5))] sz) := by
  refine met_i RX4 (by decide) rfl rfl (Nat.le_of_ble_eq_true rfl) [(0, .ref h0), (1, .ref h1), (2, .int x0)] rfl ?_
  intro p e s m args below meth c A Q C hnm Rt
  have gx0 := fb_rng x0
  have gx11 := fb_rng x11
  have gx12 := fb_rng x12
  have gx13 := fb_rng x13
  have hiX9 : ∀ w ∈ wsX90, w ∈ wsX4_call := fun w h => List.mem_cons_of_mem _ (List.mem_append_left _ (List.mem_append_left _ (List.mem_append_left _ (List.mem_append_right _ (h)))))
  refine r_aload_n 0 0 C dX4_call_0 rfl ?_
  refine r_get 1 C dX4_call_1 (k := 0) 0 rfl rfl hiX9 (by decide) rfl (mg 1 rfl) (Or.inl rfl) rfl ?_
  refine r_callVi 4 C dX4_call_4 [] [(h2, .inr (6, [.ref h9, .ref h16, .int x14, .int x15]))] [(h0, .inr (8, [.ref h2, .ref h11, .ref h12, .int x1, .int x2, .long y0, .int x3, .int x4, .int x5, .int x6, .ref h3, .ref h4, .ref h5, .int x7, .int x8, .ref h13, .ref h14, .int x9, .ref h15, .int x10])), (h1, .inr (7, [.ref h6, .ref h7, .ref h8, .int x11, .int x12, .int x13])), (h3, .inl (gI g, 10, .inl fn0)), (h4, .inl (gI g, 10, .inl fn1)), (h5, .inl (gI g, 10, .inl fn2)), (h6, .inr (4, [.ref h10, .int x16])), (h7, .inl (gI g, 200, .inl fn3)), (h8, .inl (gI g, 200, .inl fn4)), (h9, .inl (gJ g, 48, .inr (.inl fm0))), (h10, .inl (gB g, 1500, .inl fn5))] (fun sz => c231_X7_size l g h2 h9 h16 x14 x15 i_x14 i_x15 sz) gX4_call_X7_size rfl ⟨rfl, rfl⟩ 0 (by decide) ⟨Nat.le_of_ble_eq_true rfl, Nat.le_of_ble_eq_true rfl⟩ 2 rfl rfl [2] [0, 1, 3, 4, 5, 6, 7, 8, 9, 10] rfl rfl (by decide) (by decide) (by decide) rfl rfl (Nat.le_of_ble_eq_true rfl) ⟨Nat.le_of_ble_eq_true rfl, Nat.le_of_ble_eq_true rfl⟩ (fun r1 _ w2 => ?_)
  refine r_ws [(h0, .inr (8, [.ref h2, .ref h11, .ref h12, .int x1, .int x2, .long y0, .int x3, .int x4, .int x5, .int x6, .ref h3, .ref h4, .ref h5, .int x7, .int x8, .ref h13, .ref h14, .int x9, .ref h15, .int x10])), (h1, .inr (7, [.ref h6, .ref h7, .ref h8, .int x11, .int x12, .int x13])), (h3, .inl (gI g, 10, .inl fn0)), (h4, .inl (gI g, 10, .inl fn1)), (h5, .inl (gI g, 10, .inl fn2)), (h6, .inr (4, [.ref h10, .int x16])), (h7, .inl (gI g, 200, .inl fn3)), (h8, .inl (gI g, 200, .inl fn4)), (h9, .inl (gJ g, 48, .inr (.inl fm0))), (h10, .inl (gB g, 1500, .inl fn5)), (h2, .inr (6, [.ref h9, .ref h16, .int x14, .int x15]))] rfl ?_
  have p3 : x14 = r1 := (w2).symm
  subst p3
  refine r_iconst 7 1 C dX4_call_7 (by decide) ?_
  refine r_icmp_ge 8 13 C dX4_call_8 (by decide) (fun c4 => ?_) (fun c4 => ?_)
  · skip
    have k5 : 1 ≤ (Int32.toInt x14) := (fa_le 1 x14).mp c4
    refine r_aload_n 13 0 C dX4_call_13 rfl ?_
    refine r_get 14 C dX4_call_14 (k := 0) 0 rfl rfl hiX9 (by decide) rfl (mg 1 rfl) (Or.inl rfl) rfl ?_
    refine r_iconst 17 0 C dX4_call_17 (by decide) ?_
    refine r_callVl 18 C dX4_call_18 [] [(h2, .inr (6, [.ref h9, .ref h16, .int x14, .int x15])), (h9, .inl (gJ g, 48, .inr (.inl fm0)))] [(h0, .inr (8, [.ref h2, .ref h11, .ref h12, .int x1, .int x2, .long y0, .int x3, .int x4, .int x5, .int x6, .ref h3, .ref h4, .ref h5, .int x7, .int x8, .ref h13, .ref h14, .int x9, .ref h15, .int x10])), (h1, .inr (7, [.ref h6, .ref h7, .ref h8, .int x11, .int x12, .int x13])), (h3, .inl (gI g, 10, .inl fn0)), (h4, .inl (gI g, 10, .inl fn1)), (h5, .inl (gI g, 10, .inl fn2)), (h6, .inr (4, [.ref h10, .int x16])), (h7, .inl (gI g, 200, .inl fn3)), (h8, .inl (gI g, 200, .inl fn4)), (h10, .inl (gB g, 1500, .inl fn5))] (fun sz => c234_X7_wholeBelow l g h2 h9 0 h16 x14 x15 fm0 i_x14 i_x15 sz) gX4_call_X7_wholeBelow rfl ⟨rfl, rfl⟩ 1 (by decide) ⟨Nat.le_of_ble_eq_true rfl, Nat.le_of_ble_eq_true rfl⟩ 10 rfl rfl [10, 8] [0, 1, 2, 3, 4, 5, 6, 7, 9] rfl rfl (by decide) (by decide) (by decide) rfl rfl (Nat.le_of_ble_eq_true rfl) ⟨Nat.le_of_ble_eq_true rfl, Nat.le_of_ble_eq_true rfl⟩ (fun r6 _ w7 => ?_)
    refine r_ws [(h0, .inr (8, [.ref h2, .ref h11, .ref h12, .int x1, .int x2, .long y0, .int x3, .int x4, .int x5, .int x6, .ref h3, .ref h4, .ref h5, .int x7, .int x8, .ref h13, .ref h14, .int x9, .ref h15, .int x10])), (h1, .inr (7, [.ref h6, .ref h7, .ref h8, .int x11, .int x12, .int x13])), (h3, .inl (gI g, 10, .inl fn0)), (h4, .inl (gI g, 10, .inl fn1)), (h5, .inl (gI g, 10, .inl fn2)), (h6, .inr (4, [.ref h10, .int x16])), (h7, .inl (gI g, 200, .inl fn3)), (h8, .inl (gI g, 200, .inl fn4)), (h10, .inl (gB g, 1500, .inl fn5)), (h2, .inr (6, [.ref h9, .ref h16, .int x14, .int x15])), (h9, .inl (gJ g, 48, .inr (.inl fm0)))] rfl ?_
    have gr6 := fb_rngL r6
    refine r_iload_n 21 2 C dX4_call_21 rfl ?_
    obtain ⟨z8, ez8⟩ : ∃ z_9, Int32.toInt64 x0 = z_9 := ⟨_, rfl⟩
    have tz8 : (Int64.toInt z8) = (Int32.toInt x0) := by rw [← ez8]; exact Int32.toInt_toInt64 _
    refine r_i2l 22 z8 C dX4_call_22 ez8 ?_
    obtain ⟨z9, ez9⟩ : ∃ z_9, r6 + z8 = z_9 := ⟨_, rfl⟩
    have gz9 := fb_rngL z9
    refine r_ladd 23 z9 C dX4_call_23 ez9 ?_
    refine r_lstore_n 24 C dX4_call_24 [(3, .long z9), (0, .ref h0), (1, .ref h1), (2, .int x0)] (by decide) rfl ?_
    refine r_aload_n 25 2 C dX4_call_25 rfl ?_
    refine r_lload_n 26 0 C dX4_call_26 rfl ?_
    refine r_callVi 27 C dX4_call_27 [] [(h1, .inr (7, [.ref h6, .ref h7, .ref h8, .int x11, .int x12, .int x13])), (h7, .inl (gI g, 200, .inl fn3))] [(h0, .inr (8, [.ref h2, .ref h11, .ref h12, .int x1, .int x2, .long y0, .int x3, .int x4, .int x5, .int x6, .ref h3, .ref h4, .ref h5, .int x7, .int x8, .ref h13, .ref h14, .int x9, .ref h15, .int x10])), (h3, .inl (gI g, 10, .inl fn0)), (h4, .inl (gI g, 10, .inl fn1)), (h5, .inl (gI g, 10, .inl fn2)), (h6, .inr (4, [.ref h10, .int x16])), (h8, .inl (gI g, 200, .inl fn4)), (h10, .inl (gB g, 1500, .inl fn5)), (h2, .inr (6, [.ref h9, .ref h16, .int x14, .int x15])), (h9, .inl (gJ g, 48, .inr (.inl fm0)))] (fun sz => c33_X8_has l g h1 h7 z9 h6 h8 x11 x12 x13 fn3  sz) gX4_call_X8_has rfl ⟨rfl, rfl⟩ 1 (by decide) ⟨Nat.le_of_ble_eq_true rfl, Nat.le_of_ble_eq_true rfl⟩ 1 rfl rfl [1, 6] [0, 2, 3, 4, 5, 7, 8, 9, 10] rfl rfl (by decide) (by decide) (by decide) rfl rfl (Nat.le_of_ble_eq_true rfl) ⟨Nat.le_of_ble_eq_true rfl, Nat.le_of_ble_eq_true rfl⟩ (fun r10 _ w11 => ?_)
    refine r_ws [(h0, .inr (8, [.ref h2, .ref h11, .ref h12, .int x1, .int x2, .long y0, .int x3, .int x4, .int x5, .int x6, .ref h3, .ref h4, .ref h5, .int x7, .int x8, .ref h13, .ref h14, .int x9, .ref h15, .int x10])), (h3, .inl (gI g, 10, .inl fn0)), (h4, .inl (gI g, 10, .inl fn1)), (h5, .inl (gI g, 10, .inl fn2)), (h6, .inr (4, [.ref h10, .int x16])), (h8, .inl (gI g, 200, .inl fn4)), (h10, .inl (gB g, 1500, .inl fn5)), (h2, .inr (6, [.ref h9, .ref h16, .int x14, .int x15])), (h9, .inl (gJ g, 48, .inr (.inl fm0))), (h1, .inr (7, [.ref h6, .ref h7, .ref h8, .int x11, .int x12, .int x13])), (h7, .inl (gI g, 200, .inl fn3))] rfl ?_
    have p12 : HSB (Int32.toInt r10) (HASP (Int32.toInt x11) (Int32.toInt x13) fn3 200 (Int64.toInt z9)) := w11.2
    have w13 : (((Int64.toInt z9) < 0 ∧ r10 = 0) ∨ (¬ ((Int64.toInt z9) < 0) ∧ 0 < (Int32.toInt x13) ∧ r10 = 1) ∨ (¬ ((Int64.toInt z9) < 0) ∧ ¬ (0 < (Int32.toInt x13)) ∧ 200 ≤ (Int64.toInt z9) ∧ r10 = 0) ∨ (¬ ((Int64.toInt z9) < 0) ∧ ¬ (0 < (Int32.toInt x13)) ∧ ¬ (200 ≤ (Int64.toInt z9)) ∧ r10 = 0) ∨ (¬ ((Int64.toInt z9) < 0) ∧ ¬ (0 < (Int32.toInt x13)) ∧ ¬ (200 ≤ (Int64.toInt z9)) ∧ r10 = 1) ∨ (¬ ((Int64.toInt z9) < 0) ∧ r10 = 0)) := w11.1
    rcases w13 with ⟨k14, k15⟩ | w13
    · skip
      have k15 := k15.symm
      subst k15
      refine r_if_ne_f 30 35 C dX4_call_30 (by decide) (by decide) ?_
      refine r_iconst 33 4 C dX4_call_33 (by decide) ?_
      exact r_iret 34 Rt dX4_call_34 (x3, x4, x5, x7, x14, fn0, fn1, fn2) (show 0 ≤ (Int32.toInt 4) ∧ (Int32.toInt 4) ≤ 5 ∧ 0 ≤ (Int32.toInt x7) ∧ (Int32.toInt x7) ≤ 10 ∧ 0 ≤ (Int32.toInt x14) ∧ (Int32.toInt x14) ≤ 48 from ⟨(by ((repeat' apply And.intro) <;> first | trivial | rfl | assumption | omega | decide | exact Or.inl rfl | exact Or.inr (Or.inl rfl) | exact Or.inr (Or.inr rfl))), (by ((repeat' apply And.intro) <;> first | trivial | rfl | assumption | omega | decide | exact Or.inl rfl | exact Or.inr (Or.inl rfl) | exact Or.inr (Or.inr rfl))), i_x7.1, i_x7.2, i_x14.1, i_x14.2⟩) [0, 9, 7, 1, 2, 3, 4, 10, 5, 8, 6] (by decide) rfl (Nat.le_of_ble_eq_true rfl) (Nat.le_of_ble_eq_true rfl)
    rcases w13 with ⟨k16, k17, k18⟩ | w13
    · skip
      have k18 := k18.symm
      subst k18
      refine r_if_ne_t 30 35 C dX4_call_30 (by decide) (by decide) ?_
      refine r_aload_n 35 1 C dX4_call_35 rfl ?_
      refine r_get 36 C dX4_call_36 (k := 13) 0 rfl rfl hiX9 (by decide) rfl (mg 2 rfl) (Or.inl rfl) rfl ?_
      refine r_bipush 39 10 C dX4_call_39 (by decide) ?_
      refine r_icmp_lt 41 46 C dX4_call_41 (by decide) (fun c19 => ?_) (fun c19 => ?_)
      · skip
        have k20 : (Int32.toInt x7) < 10 := (fa_lt x7 10).mp c19
        refine r_aload_n 46 1 C dX4_call_46 rfl ?_
        refine r_get 47 C dX4_call_47 (k := 0) 0 rfl rfl hiX9 (by decide) rfl (mg 1 rfl) (Or.inl rfl) rfl ?_
        refine r_iconst 50 1 C dX4_call_50 (by decide) ?_
        refine r_callVv 51 C dX4_call_51 [] [(h2, .inr (6, [.ref h9, .ref h16, .int x14, .int x15]))] [(h0, .inr (8, [.ref h2, .ref h11, .ref h12, .int x1, .int x2, .long y0, .int x3, .int x4, .int x5, .int x6, .ref h3, .ref h4, .ref h5, .int x7, .int x8, .ref h13, .ref h14, .int x9, .ref h15, .int x10])), (h3, .inl (gI g, 10, .inl fn0)), (h4, .inl (gI g, 10, .inl fn1)), (h5, .inl (gI g, 10, .inl fn2)), (h6, .inr (4, [.ref h10, .int x16])), (h8, .inl (gI g, 200, .inl fn4)), (h10, .inl (gB g, 1500, .inl fn5)), (h9, .inl (gJ g, 48, .inr (.inl fm0))), (h1, .inr (7, [.ref h6, .ref h7, .ref h8, .int x11, .int x12, .int x13])), (h7, .inl (gI g, 200, .inl fn3))] (fun sz => c235_X7_drop l g h2 1 h9 h16 x14 x15 i_x14 i_x15 sz) gX4_call_X7_drop rfl ⟨rfl, rfl⟩ 1 (by decide) ⟨Nat.le_of_ble_eq_true rfl, Nat.le_of_ble_eq_true rfl⟩ 7 rfl rfl [7] [0, 1, 2, 3, 4, 5, 6, 8, 9, 10] rfl rfl (by decide) (by decide) (by decide) rfl rfl (Nat.le_of_ble_eq_true rfl) ⟨Nat.le_of_ble_eq_true rfl, Nat.le_of_ble_eq_true rfl⟩ (fun  z21 w22 => ?_)
        refine r_ws [(h0, .inr (8, [.ref h2, .ref h11, .ref h12, .int x1, .int x2, .long y0, .int x3, .int x4, .int x5, .int x6, .ref h3, .ref h4, .ref h5, .int x7, .int x8, .ref h13, .ref h14, .int x9, .ref h15, .int x10])), (h3, .inl (gI g, 10, .inl fn0)), (h4, .inl (gI g, 10, .inl fn1)), (h5, .inl (gI g, 10, .inl fn2)), (h6, .inr (4, [.ref h10, .int x16])), (h8, .inl (gI g, 200, .inl fn4)), (h10, .inl (gB g, 1500, .inl fn5)), (h9, .inl (gJ g, 48, .inr (.inl fm0))), (h1, .inr (7, [.ref h6, .ref h7, .ref h8, .int x11, .int x12, .int x13])), (h7, .inl (gI g, 200, .inl fn3)), (h2, .inr (6, [.ref h9, .ref h16, .int z21, .int x15]))] rfl ?_
        have p23 : 0 ≤ (Int32.toInt z21) := w22.1
        have p24 : (Int32.toInt z21) ≤ 48 := w22.2
        refine r_aload_n 54 1 C dX4_call_54 rfl ?_
        refine r_get 55 C dX4_call_55 (k := 10) 0 rfl rfl hiX9 (by decide) rfl (mg 3 rfl) (Or.inl rfl) rfl ?_
        refine r_aload_n 58 1 C dX4_call_58 rfl ?_
        refine r_get 59 C dX4_call_59 (k := 13) 0 rfl rfl hiX9 (by decide) rfl (mg 2 rfl) (Or.inl rfl) rfl ?_
        refine r_aload_n 62 1 C dX4_call_62 rfl ?_
        refine r_get 63 C dX4_call_63 (k := 6) 0 rfl rfl hiX9 (by decide) rfl (mg 4 rfl) (Or.inl rfl) rfl ?_
        obtain ⟨f25, ef25⟩ : ∃ f_9, upd fn0 (Int32.toNatClampNeg x7) x3 = f_9 := ⟨_, rfl⟩
        refine r_iast 66 C dX4_call_66 1 rfl (vinI (by omega) (by omega)) f25 ef25 [(h0, .inr (8, [.ref h2, .ref h11, .ref h12, .int x1, .int x2, .long y0, .int x3, .int x4, .int x5, .int x6, .ref h3, .ref h4, .ref h5, .int x7, .int x8, .ref h13, .ref h14, .int x9, .ref h15, .int x10])), (h3, .inl (gI g, 10, .inl f25)), (h4, .inl (gI g, 10, .inl fn1)), (h5, .inl (gI g, 10, .inl fn2)), (h6, .inr (4, [.ref h10, .int x16])), (h8, .inl (gI g, 200, .inl fn4)), (h10, .inl (gB g, 1500, .inl fn5)), (h9, .inl (gJ g, 48, .inr (.inl fm0))), (h1, .inr (7, [.ref h6, .ref h7, .ref h8, .int x11, .int x12, .int x13])), (h7, .inl (gI g, 200, .inl fn3)), (h2, .inr (6, [.ref h9, .ref h16, .int z21, .int x15]))] rfl ?_
        refine r_aload_n 67 1 C dX4_call_67 rfl ?_
        refine r_get 68 C dX4_call_68 (k := 11) 0 rfl rfl hiX9 (by decide) rfl (mg 5 rfl) (Or.inl rfl) rfl ?_
        refine r_aload_n 71 1 C dX4_call_71 rfl ?_
        refine r_get 72 C dX4_call_72 (k := 13) 0 rfl rfl hiX9 (by decide) rfl (mg 2 rfl) (Or.inl rfl) rfl ?_
        refine r_aload_n 75 1 C dX4_call_75 rfl ?_
        refine r_get 76 C dX4_call_76 (k := 7) 0 rfl rfl hiX9 (by decide) rfl (mg 6 rfl) (Or.inl rfl) rfl ?_
        obtain ⟨f26, ef26⟩ : ∃ f_9, upd fn1 (Int32.toNatClampNeg x7) x4 = f_9 := ⟨_, rfl⟩
        refine r_iast 79 C dX4_call_79 2 rfl (vinI (by omega) (by omega)) f26 ef26 [(h0, .inr (8, [.ref h2, .ref h11, .ref h12, .int x1, .int x2, .long y0, .int x3, .int x4, .int x5, .int x6, .ref h3, .ref h4, .ref h5, .int x7, .int x8, .ref h13, .ref h14, .int x9, .ref h15, .int x10])), (h3, .inl (gI g, 10, .inl f25)), (h4, .inl (gI g, 10, .inl f26)), (h5, .inl (gI g, 10, .inl fn2)), (h6, .inr (4, [.ref h10, .int x16])), (h8, .inl (gI g, 200, .inl fn4)), (h10, .inl (gB g, 1500, .inl fn5)), (h9, .inl (gJ g, 48, .inr (.inl fm0))), (h1, .inr (7, [.ref h6, .ref h7, .ref h8, .int x11, .int x12, .int x13])), (h7, .inl (gI g, 200, .inl fn3)), (h2, .inr (6, [.ref h9, .ref h16, .int z21, .int x15]))] rfl ?_
        refine r_aload_n 80 1 C dX4_call_80 rfl ?_
        refine r_get 81 C dX4_call_81 (k := 12) 0 rfl rfl hiX9 (by decide) rfl (mg 7 rfl) (Or.inl rfl) rfl ?_
        refine r_aload_n 84 1 C dX4_call_84 rfl ?_
        refine r_get 85 C dX4_call_85 (k := 13) 0 rfl rfl hiX9 (by decide) rfl (mg 2 rfl) (Or.inl rfl) rfl ?_
        refine r_aload_n 88 1 C dX4_call_88 rfl ?_
        refine r_get 89 C dX4_call_89 (k := 8) 0 rfl rfl hiX9 (by decide) rfl (mg 8 rfl) (Or.inl rfl) rfl ?_
        obtain ⟨f27, ef27⟩ : ∃ f_9, upd fn2 (Int32.toNatClampNeg x7) x5 = f_9 := ⟨_, rfl⟩
        refine r_iast 92 C dX4_call_92 3 rfl (vinI (by omega) (by omega)) f27 ef27 [(h0, .inr (8, [.ref h2, .ref h11, .ref h12, .int x1, .int x2, .long y0, .int x3, .int x4, .int x5, .int x6, .ref h3, .ref h4, .ref h5, .int x7, .int x8, .ref h13, .ref h14, .int x9, .ref h15, .int x10])), (h3, .inl (gI g, 10, .inl f25)), (h4, .inl (gI g, 10, .inl f26)), (h5, .inl (gI g, 10, .inl f27)), (h6, .inr (4, [.ref h10, .int x16])), (h8, .inl (gI g, 200, .inl fn4)), (h10, .inl (gB g, 1500, .inl fn5)), (h9, .inl (gJ g, 48, .inr (.inl fm0))), (h1, .inr (7, [.ref h6, .ref h7, .ref h8, .int x11, .int x12, .int x13])), (h7, .inl (gI g, 200, .inl fn3)), (h2, .inr (6, [.ref h9, .ref h16, .int z21, .int x15]))] rfl ?_
        refine r_aload_n 93 1 C dX4_call_93 rfl ?_
        refine r_dup 94 C dX4_call_94 rfl ?_
        refine r_get 95 C dX4_call_95 (k := 13) 0 rfl rfl hiX9 (by decide) rfl (mg 2 rfl) (Or.inl rfl) rfl ?_
        refine r_iconst 98 1 C dX4_call_98 (by decide) ?_
        obtain ⟨z28, ez28⟩ : ∃ z_9, x7 + 1 = z_9 := ⟨_, rfl⟩
        have tz28 : (Int32.toInt z28) = (Int32.toInt x7) + 1 := by rw [← ez28]; exact fb_addIv (a := 0) (b := 10) (c := 1) (d := 1) i_x7 ⟨by decide, by decide⟩ (by decide) (by decide)
        refine r_iadd 99 z28 C dX4_call_99 ez28 ?_
        refine r_put 100 C dX4_call_100 (k := 13) 0 rfl rfl hiX9 tyX9 tyX9_ok nmX9 (by decide) rfl (mg 2 rfl) (Or.inl rfl) rfl rfl rfl rfl (Nat.le_of_ble_eq_true rfl) [(h0, .inr (8, [.ref h2, .ref h11, .ref h12, .int x1, .int x2, .long y0, .int x3, .int x4, .int x5, .int x6, .ref h3, .ref h4, .ref h5, .int z28, .int x8, .ref h13, .ref h14, .int x9, .ref h15, .int x10])), (h3, .inl (gI g, 10, .inl f25)), (h4, .inl (gI g, 10, .inl f26)), (h5, .inl (gI g, 10, .inl f27)), (h6, .inr (4, [.ref h10, .int x16])), (h8, .inl (gI g, 200, .inl fn4)), (h10, .inl (gB g, 1500, .inl fn5)), (h9, .inl (gJ g, 48, .inr (.inl fm0))), (h1, .inr (7, [.ref h6, .ref h7, .ref h8, .int x11, .int x12, .int x13])), (h7, .inl (gI g, 200, .inl fn3)), (h2, .inr (6, [.ref h9, .ref h16, .int z21, .int x15]))] rfl ?_
        refine r_aload_n 103 1 C dX4_call_103 rfl ?_
        refine r_aload_n 104 2 C dX4_call_104 rfl ?_
        refine r_lload_n 105 0 C dX4_call_105 rfl ?_
        obtain ⟨z29, ez29⟩ : ∃ z_9, Int64.toInt32 z9 = z_9 := ⟨_, rfl⟩
        have gz29 := fb_rng z29
        refine r_l2i 106 z29 C dX4_call_106 ez29 ?_
        refine r_callVi 107 C dX4_call_107 [.ref h0] [(h1, .inr (7, [.ref h6, .ref h7, .ref h8, .int x11, .int x12, .int x13])), (h6, .inr (4, [.ref h10, .int x16])), (h7, .inl (gI g, 200, .inl fn3)), (h10, .inl (gB g, 1500, .inl fn5))] [(h0, .inr (8, [.ref h2, .ref h11, .ref h12, .int x1, .int x2, .long y0, .int x3, .int x4, .int x5, .int x6, .ref h3, .ref h4, .ref h5, .int z28, .int x8, .ref h13, .ref h14, .int x9, .ref h15, .int x10])), (h3, .inl (gI g, 10, .inl f25)), (h4, .inl (gI g, 10, .inl f26)), (h5, .inl (gI g, 10, .inl f27)), (h8, .inl (gI g, 200, .inl fn4)), (h9, .inl (gJ g, 48, .inr (.inl fm0))), (h2, .inr (6, [.ref h9, .ref h16, .int z21, .int x15]))] (fun sz => c35_X8_beginOf l g h1 h6 h7 h10 z29 h8 x11 x12 x13 x16 fn3 fn5 i_x16 sz) gX4_call_X8_beginOf rfl ⟨rfl, rfl⟩ 1 (by decide) ⟨Nat.le_of_ble_eq_true rfl, Nat.le_of_ble_eq_true rfl⟩ 8 rfl rfl [8, 4, 9, 6] [0, 1, 2, 3, 5, 7, 10] rfl rfl (by decide) (by decide) (by decide) rfl rfl (Nat.le_of_ble_eq_true rfl) ⟨Nat.le_of_ble_eq_true rfl, Nat.le_of_ble_eq_true rfl⟩ (fun r30 _ w31 => ?_)
        refine r_ws [(h0, .inr (8, [.ref h2, .ref h11, .ref h12, .int x1, .int x2, .long y0, .int x3, .int x4, .int x5, .int x6, .ref h3, .ref h4, .ref h5, .int z28, .int x8, .ref h13, .ref h14, .int x9, .ref h15, .int x10])), (h3, .inl (gI g, 10, .inl f25)), (h4, .inl (gI g, 10, .inl f26)), (h5, .inl (gI g, 10, .inl f27)), (h8, .inl (gI g, 200, .inl fn4)), (h9, .inl (gJ g, 48, .inr (.inl fm0))), (h2, .inr (6, [.ref h9, .ref h16, .int z21, .int x15])), (h1, .inr (7, [.ref h6, .ref h7, .ref h8, .int x11, .int x12, .int x13])), (h6, .inr (4, [.ref h10, .int x16])), (h7, .inl (gI g, 200, .inl fn3)), (h10, .inl (gB g, 1500, .inl fn5))] rfl ?_
        have p32 : CND (BOK (GB fn5 (Int32.toInt x16)) (Int32.toInt x11) (Int32.toInt x13) (Int32.toInt x12) fn3 200 (Int32.toInt z29)) ((Int32.toInt r30) = BEGE (GB fn5 (Int32.toInt x16)) (Int32.toInt x11) (Int32.toInt x13) (Int32.toInt x12) fn3 (Int32.toInt z29)) := w31
        have gr30 := fb_rng r30
        refine r_put 110 C dX4_call_110 (k := 6) 0 rfl rfl hiX9 tyX9 tyX9_ok nmX9 (by decide) rfl (mg 4 rfl) (Or.inl rfl) rfl rfl rfl rfl (Nat.le_of_ble_eq_true rfl) [(h0, .inr (8, [.ref h2, .ref h11, .ref h12, .int x1, .int x2, .long y0, .int r30, .int x4, .int x5, .int x6, .ref h3, .ref h4, .ref h5, .int z28, .int x8, .ref h13, .ref h14, .int x9, .ref h15, .int x10])), (h3, .inl (gI g, 10, .inl f25)), (h4, .inl (gI g, 10, .inl f26)), (h5, .inl (gI g, 10, .inl f27)), (h8, .inl (gI g, 200, .inl fn4)), (h9, .inl (gJ g, 48, .inr (.inl fm0))), (h2, .inr (6, [.ref h9, .ref h16, .int z21, .int x15])), (h1, .inr (7, [.ref h6, .ref h7, .ref h8, .int x11, .int x12, .int x13])), (h6, .inr (4, [.ref h10, .int x16])), (h7, .inl (gI g, 200, .inl fn3)), (h10, .inl (gB g, 1500, .inl fn5))] rfl ?_
        refine r_aload_n 113 1 C dX4_call_113 rfl ?_
        refine r_aload_n 114 2 C dX4_call_114 rfl ?_
        refine r_lload_n 115 0 C dX4_call_115 rfl ?_
        obtain ⟨z33, ez33⟩ : ∃ z_9, Int64.toInt32 z9 = z_9 := ⟨_, rfl⟩
        have gz33 := fb_rng z33
        refine r_l2i 116 z33 C dX4_call_116 ez33 ?_
        refine r_callVi 117 C dX4_call_117 [.ref h0] [(h1, .inr (7, [.ref h6, .ref h7, .ref h8, .int x11, .int x12, .int x13])), (h6, .inr (4, [.ref h10, .int x16])), (h7, .inl (gI g, 200, .inl fn3)), (h8, .inl (gI g, 200, .inl fn4)), (h10, .inl (gB g, 1500, .inl fn5))] [(h0, .inr (8, [.ref h2, .ref h11, .ref h12, .int x1, .int x2, .long y0, .int r30, .int x4, .int x5, .int x6, .ref h3, .ref h4, .ref h5, .int z28, .int x8, .ref h13, .ref h14, .int x9, .ref h15, .int x10])), (h3, .inl (gI g, 10, .inl f25)), (h4, .inl (gI g, 10, .inl f26)), (h5, .inl (gI g, 10, .inl f27)), (h9, .inl (gJ g, 48, .inr (.inl fm0))), (h2, .inr (6, [.ref h9, .ref h16, .int z21, .int x15]))] (fun sz => c34_X8_finishOf l g h1 h6 h7 h8 h10 z33 x11 x12 x13 x16 fn3 fn4 fn5 i_x16 sz) gX4_call_X8_finishOf rfl ⟨rfl, rfl⟩ 1 (by decide) ⟨Nat.le_of_ble_eq_true rfl, Nat.le_of_ble_eq_true rfl⟩ 7 rfl rfl [7, 8, 9, 4, 10] [0, 1, 2, 3, 5, 6] rfl rfl (by decide) (by decide) (by decide) rfl rfl (Nat.le_of_ble_eq_true rfl) ⟨Nat.le_of_ble_eq_true rfl, Nat.le_of_ble_eq_true rfl⟩ (fun r34 _ w35 => ?_)
        refine r_ws [(h0, .inr (8, [.ref h2, .ref h11, .ref h12, .int x1, .int x2, .long y0, .int r30, .int x4, .int x5, .int x6, .ref h3, .ref h4, .ref h5, .int z28, .int x8, .ref h13, .ref h14, .int x9, .ref h15, .int x10])), (h3, .inl (gI g, 10, .inl f25)), (h4, .inl (gI g, 10, .inl f26)), (h5, .inl (gI g, 10, .inl f27)), (h9, .inl (gJ g, 48, .inr (.inl fm0))), (h2, .inr (6, [.ref h9, .ref h16, .int z21, .int x15])), (h1, .inr (7, [.ref h6, .ref h7, .ref h8, .int x11, .int x12, .int x13])), (h6, .inr (4, [.ref h10, .int x16])), (h7, .inl (gI g, 200, .inl fn3)), (h8, .inl (gI g, 200, .inl fn4)), (h10, .inl (gB g, 1500, .inl fn5))] rfl ?_
        have p36 : CND (FOK (GB fn5 (Int32.toInt x16)) (Int32.toInt x11) (Int32.toInt x13) (Int32.toInt x12) fn3 fn4 200 (Int32.toInt z33)) ((Int32.toInt r34) = FINE (GB fn5 (Int32.toInt x16)) (Int32.toInt x11) (Int32.toInt x13) (Int32.toInt x12) fn4 (Int32.toInt z33)) := w35
        have gr34 := fb_rng r34
        refine r_put 120 C dX4_call_120 (k := 7) 0 rfl rfl hiX9 tyX9 tyX9_ok nmX9 (by decide) rfl (mg 6 rfl) (Or.inl rfl) rfl rfl rfl rfl (Nat.le_of_ble_eq_true rfl) [(h0, .inr (8, [.ref h2, .ref h11, .ref h12, .int x1, .int x2, .long y0, .int r30, .int r34, .int x5, .int x6, .ref h3, .ref h4, .ref h5, .int z28, .int x8, .ref h13, .ref h14, .int x9, .ref h15, .int x10])), (h3, .inl (gI g, 10, .inl f25)), (h4, .inl (gI g, 10, .inl f26)), (h5, .inl (gI g, 10, .inl f27)), (h9, .inl (gJ g, 48, .inr (.inl fm0))), (h2, .inr (6, [.ref h9, .ref h16, .int z21, .int x15])), (h1, .inr (7, [.ref h6, .ref h7, .ref h8, .int x11, .int x12, .int x13])), (h6, .inr (4, [.ref h10, .int x16])), (h7, .inl (gI g, 200, .inl fn3)), (h8, .inl (gI g, 200, .inl fn4)), (h10, .inl (gB g, 1500, .inl fn5))] rfl ?_
        refine r_aload_n 123 1 C dX4_call_123 rfl ?_
        refine r_aload_n 124 1 C dX4_call_124 rfl ?_
        refine r_get 125 C dX4_call_125 (k := 6) 0 rfl rfl hiX9 (by decide) rfl (mg 4 rfl) (Or.inl rfl) rfl ?_
        refine r_put 128 C dX4_call_128 (k := 8) 0 rfl rfl hiX9 tyX9 tyX9_ok nmX9 (by decide) rfl (mg 8 rfl) (Or.inl rfl) rfl rfl rfl rfl (Nat.le_of_ble_eq_true rfl) [(h0, .inr (8, [.ref h2, .ref h11, .ref h12, .int x1, .int x2, .long y0, .int r30, .int r34, .int r30, .int x6, .ref h3, .ref h4, .ref h5, .int z28, .int x8, .ref h13, .ref h14, .int x9, .ref h15, .int x10])), (h3, .inl (gI g, 10, .inl f25)), (h4, .inl (gI g, 10, .inl f26)), (h5, .inl (gI g, 10, .inl f27)), (h9, .inl (gJ g, 48, .inr (.inl fm0))), (h2, .inr (6, [.ref h9, .ref h16, .int z21, .int x15])), (h1, .inr (7, [.ref h6, .ref h7, .ref h8, .int x11, .int x12, .int x13])), (h6, .inr (4, [.ref h10, .int x16])), (h7, .inl (gI g, 200, .inl fn3)), (h8, .inl (gI g, 200, .inl fn4)), (h10, .inl (gB g, 1500, .inl fn5))] rfl ?_
        refine r_iconst 131 0 C dX4_call_131 (by decide) ?_
        exact r_iret 132 Rt dX4_call_132 (r30, r34, r30, z28, z21, f25, f26, f27) (show 0 ≤ (Int32.toInt 0) ∧ (Int32.toInt 0) ≤ 5 ∧ 0 ≤ (Int32.toInt z28) ∧ (Int32.toInt z28) ≤ 10 ∧ 0 ≤ (Int32.toInt z21) ∧ (Int32.toInt z21) ≤ 48 from ⟨(by ((repeat' apply And.intro) <;> first | trivial | rfl | assumption | omega | decide | exact Or.inl rfl | exact Or.inr (Or.inl rfl) | exact Or.inr (Or.inr rfl))), (by ((repeat' apply And.intro) <;> first | trivial | rfl | assumption | omega | decide | exact Or.inl rfl | exact Or.inr (Or.inl rfl) | exact Or.inr (Or.inr rfl))), (by ((repeat' apply And.intro) <;> first | trivial | rfl | assumption | omega | decide | exact Or.inl rfl | exact Or.inr (Or.inl rfl) | exact Or.inr (Or.inr rfl))), (by ((repeat' apply And.intro) <;> first | trivial | rfl | assumption | omega | decide | exact Or.inl rfl | exact Or.inr (Or.inl rfl) | exact Or.inr (Or.inr rfl))), (show _ ∧ _ from ⟨p23, p24⟩).1, (show _ ∧ _ from ⟨p23, p24⟩).2⟩) [0, 6, 5, 1, 2, 3, 7, 8, 9, 4, 10] (by decide) rfl (Nat.le_of_ble_eq_true rfl) (Nat.le_of_ble_eq_true rfl)
      · skip
        have k37 : ¬ ((Int32.toInt x7) < 10) := fun h_9 => c19 ((fa_lt x7 10).mpr h_9)
        refine r_iconst 44 5 C dX4_call_44 (by decide) ?_
        exact r_iret 45 Rt dX4_call_45 (x3, x4, x5, x7, x14, fn0, fn1, fn2) (show 0 ≤ (Int32.toInt 5) ∧ (Int32.toInt 5) ≤ 5 ∧ 0 ≤ (Int32.toInt x7) ∧ (Int32.toInt x7) ≤ 10 ∧ 0 ≤ (Int32.toInt x14) ∧ (Int32.toInt x14) ≤ 48 from ⟨(by ((repeat' apply And.intro) <;> first | trivial | rfl | assumption | omega | decide | exact Or.inl rfl | exact Or.inr (Or.inl rfl) | exact Or.inr (Or.inr rfl))), (by ((repeat' apply And.intro) <;> first | trivial | rfl | assumption | omega | decide | exact Or.inl rfl | exact Or.inr (Or.inl rfl) | exact Or.inr (Or.inr rfl))), i_x7.1, i_x7.2, i_x14.1, i_x14.2⟩) [0, 9, 7, 1, 2, 3, 4, 10, 5, 8, 6] (by decide) rfl (Nat.le_of_ble_eq_true rfl) (Nat.le_of_ble_eq_true rfl)
    rcases w13 with ⟨k38, k39, k40, k41⟩ | w13
    · skip
      have k41 := k41.symm
      subst k41
      refine r_if_ne_f 30 35 C dX4_call_30 (by decide) (by decide) ?_
      refine r_iconst 33 4 C dX4_call_33 (by decide) ?_
      exact r_iret 34 Rt dX4_call_34 (x3, x4, x5, x7, x14, fn0, fn1, fn2) (show 0 ≤ (Int32.toInt 4) ∧ (Int32.toInt 4) ≤ 5 ∧ 0 ≤ (Int32.toInt x7) ∧ (Int32.toInt x7) ≤ 10 ∧ 0 ≤ (Int32.toInt x14) ∧ (Int32.toInt x14) ≤ 48 from ⟨(by ((repeat' apply And.intro) <;> first | trivial | rfl | assumption | omega | decide | exact Or.inl rfl | exact Or.inr (Or.inl rfl) | exact Or.inr (Or.inr rfl))), (by ((repeat' apply And.intro) <;> first | trivial | rfl | assumption | omega | decide | exact Or.inl rfl | exact Or.inr (Or.inl rfl) | exact Or.inr (Or.inr rfl))), i_x7.1, i_x7.2, i_x14.1, i_x14.2⟩) [0, 9, 7, 1, 2, 3, 4, 10, 5, 8, 6] (by decide) rfl (Nat.le_of_ble_eq_true rfl) (Nat.le_of_ble_eq_true rfl)
    rcases w13 with ⟨k42, k43, k44, k45⟩ | w13
    · skip
      have k45 := k45.symm
      subst k45
      refine r_if_ne_f 30 35 C dX4_call_30 (by decide) (by decide) ?_
      refine r_iconst 33 4 C dX4_call_33 (by decide) ?_
      exact r_iret 34 Rt dX4_call_34 (x3, x4, x5, x7, x14, fn0, fn1, fn2) (show 0 ≤ (Int32.toInt 4) ∧ (Int32.toInt 4) ≤ 5 ∧ 0 ≤ (Int32.toInt x7) ∧ (Int32.toInt x7) ≤ 10 ∧ 0 ≤ (Int32.toInt x14) ∧ (Int32.toInt x14) ≤ 48 from ⟨(by ((repeat' apply And.intro) <;> first | trivial | rfl | assumption | omega | decide | exact Or.inl rfl | exact Or.inr (Or.inl rfl) | exact Or.inr (Or.inr rfl))), (by ((repeat' apply And.intro) <;> first | trivial | rfl | assumption | omega | decide | exact Or.inl rfl | exact Or.inr (Or.inl rfl) | exact Or.inr (Or.inr rfl))), i_x7.1, i_x7.2, i_x14.1, i_x14.2⟩) [0, 9, 7, 1, 2, 3, 4, 10, 5, 8, 6] (by decide) rfl (Nat.le_of_ble_eq_true rfl) (Nat.le_of_ble_eq_true rfl)
    rcases w13 with ⟨k46, k47, k48, k49⟩ | w13
    · skip
      have k49 := k49.symm
      subst k49
      refine r_if_ne_t 30 35 C dX4_call_30 (by decide) (by decide) ?_
      refine r_aload_n 35 1 C dX4_call_35 rfl ?_
      refine r_get 36 C dX4_call_36 (k := 13) 0 rfl rfl hiX9 (by decide) rfl (mg 2 rfl) (Or.inl rfl) rfl ?_
      refine r_bipush 39 10 C dX4_call_39 (by decide) ?_
      refine r_icmp_lt 41 46 C dX4_call_41 (by decide) (fun c50 => ?_) (fun c50 => ?_)
      · skip
        have k51 : (Int32.toInt x7) < 10 := (fa_lt x7 10).mp c50
        refine r_aload_n 46 1 C dX4_call_46 rfl ?_
        refine r_get 47 C dX4_call_47 (k := 0) 0 rfl rfl hiX9 (by decide) rfl (mg 1 rfl) (Or.inl rfl) rfl ?_
        refine r_iconst 50 1 C dX4_call_50 (by decide) ?_
        refine r_callVv 51 C dX4_call_51 [] [(h2, .inr (6, [.ref h9, .ref h16, .int x14, .int x15]))] [(h0, .inr (8, [.ref h2, .ref h11, .ref h12, .int x1, .int x2, .long y0, .int x3, .int x4, .int x5, .int x6, .ref h3, .ref h4, .ref h5, .int x7, .int x8, .ref h13, .ref h14, .int x9, .ref h15, .int x10])), (h3, .inl (gI g, 10, .inl fn0)), (h4, .inl (gI g, 10, .inl fn1)), (h5, .inl (gI g, 10, .inl fn2)), (h6, .inr (4, [.ref h10, .int x16])), (h8, .inl (gI g, 200, .inl fn4)), (h10, .inl (gB g, 1500, .inl fn5)), (h9, .inl (gJ g, 48, .inr (.inl fm0))), (h1, .inr (7, [.ref h6, .ref h7, .ref h8, .int x11, .int x12, .int x13])), (h7, .inl (gI g, 200, .inl fn3))] (fun sz => c235_X7_drop l g h2 1 h9 h16 x14 x15 i_x14 i_x15 sz) gX4_call_X7_drop rfl ⟨rfl, rfl⟩ 1 (by decide) ⟨Nat.le_of_ble_eq_true rfl, Nat.le_of_ble_eq_true rfl⟩ 7 rfl rfl [7] [0, 1, 2, 3, 4, 5, 6, 8, 9, 10] rfl rfl (by decide) (by decide) (by decide) rfl rfl (Nat.le_of_ble_eq_true rfl) ⟨Nat.le_of_ble_eq_true rfl, Nat.le_of_ble_eq_true rfl⟩ (fun  z52 w53 => ?_)
        refine r_ws [(h0, .inr (8, [.ref h2, .ref h11, .ref h12, .int x1, .int x2, .long y0, .int x3, .int x4, .int x5, .int x6, .ref h3, .ref h4, .ref h5, .int x7, .int x8, .ref h13, .ref h14, .int x9, .ref h15, .int x10])), (h3, .inl (gI g, 10, .inl fn0)), (h4, .inl (gI g, 10, .inl fn1)), (h5, .inl (gI g, 10, .inl fn2)), (h6, .inr (4, [.ref h10, .int x16])), (h8, .inl (gI g, 200, .inl fn4)), (h10, .inl (gB g, 1500, .inl fn5)), (h9, .inl (gJ g, 48, .inr (.inl fm0))), (h1, .inr (7, [.ref h6, .ref h7, .ref h8, .int x11, .int x12, .int x13])), (h7, .inl (gI g, 200, .inl fn3)), (h2, .inr (6, [.ref h9, .ref h16, .int z52, .int x15]))] rfl ?_
        have p54 : 0 ≤ (Int32.toInt z52) := w53.1
        have p55 : (Int32.toInt z52) ≤ 48 := w53.2
        refine r_aload_n 54 1 C dX4_call_54 rfl ?_
        refine r_get 55 C dX4_call_55 (k := 10) 0 rfl rfl hiX9 (by decide) rfl (mg 3 rfl) (Or.inl rfl) rfl ?_
        refine r_aload_n 58 1 C dX4_call_58 rfl ?_
        refine r_get 59 C dX4_call_59 (k := 13) 0 rfl rfl hiX9 (by decide) rfl (mg 2 rfl) (Or.inl rfl) rfl ?_
        refine r_aload_n 62 1 C dX4_call_62 rfl ?_
        refine r_get 63 C dX4_call_63 (k := 6) 0 rfl rfl hiX9 (by decide) rfl (mg 4 rfl) (Or.inl rfl) rfl ?_
        obtain ⟨f56, ef56⟩ : ∃ f_9, upd fn0 (Int32.toNatClampNeg x7) x3 = f_9 := ⟨_, rfl⟩
        refine r_iast 66 C dX4_call_66 1 rfl (vinI (by omega) (by omega)) f56 ef56 [(h0, .inr (8, [.ref h2, .ref h11, .ref h12, .int x1, .int x2, .long y0, .int x3, .int x4, .int x5, .int x6, .ref h3, .ref h4, .ref h5, .int x7, .int x8, .ref h13, .ref h14, .int x9, .ref h15, .int x10])), (h3, .inl (gI g, 10, .inl f56)), (h4, .inl (gI g, 10, .inl fn1)), (h5, .inl (gI g, 10, .inl fn2)), (h6, .inr (4, [.ref h10, .int x16])), (h8, .inl (gI g, 200, .inl fn4)), (h10, .inl (gB g, 1500, .inl fn5)), (h9, .inl (gJ g, 48, .inr (.inl fm0))), (h1, .inr (7, [.ref h6, .ref h7, .ref h8, .int x11, .int x12, .int x13])), (h7, .inl (gI g, 200, .inl fn3)), (h2, .inr (6, [.ref h9, .ref h16, .int z52, .int x15]))] rfl ?_
        refine r_aload_n 67 1 C dX4_call_67 rfl ?_
        refine r_get 68 C dX4_call_68 (k := 11) 0 rfl rfl hiX9 (by decide) rfl (mg 5 rfl) (Or.inl rfl) rfl ?_
        refine r_aload_n 71 1 C dX4_call_71 rfl ?_
        refine r_get 72 C dX4_call_72 (k := 13) 0 rfl rfl hiX9 (by decide) rfl (mg 2 rfl) (Or.inl rfl) rfl ?_
        refine r_aload_n 75 1 C dX4_call_75 rfl ?_
        refine r_get 76 C dX4_call_76 (k := 7) 0 rfl rfl hiX9 (by decide) rfl (mg 6 rfl) (Or.inl rfl) rfl ?_
        obtain ⟨f57, ef57⟩ : ∃ f_9, upd fn1 (Int32.toNatClampNeg x7) x4 = f_9 := ⟨_, rfl⟩
        refine r_iast 79 C dX4_call_79 2 rfl (vinI (by omega) (by omega)) f57 ef57 [(h0, .inr (8, [.ref h2, .ref h11, .ref h12, .int x1, .int x2, .long y0, .int x3, .int x4, .int x5, .int x6, .ref h3, .ref h4, .ref h5, .int x7, .int x8, .ref h13, .ref h14, .int x9, .ref h15, .int x10])), (h3, .inl (gI g, 10, .inl f56)), (h4, .inl (gI g, 10, .inl f57)), (h5, .inl (gI g, 10, .inl fn2)), (h6, .inr (4, [.ref h10, .int x16])), (h8, .inl (gI g, 200, .inl fn4)), (h10, .inl (gB g, 1500, .inl fn5)), (h9, .inl (gJ g, 48, .inr (.inl fm0))), (h1, .inr (7, [.ref h6, .ref h7, .ref h8, .int x11, .int x12, .int x13])), (h7, .inl (gI g, 200, .inl fn3)), (h2, .inr (6, [.ref h9, .ref h16, .int z52, .int x15]))] rfl ?_
        refine r_aload_n 80 1 C dX4_call_80 rfl ?_
        refine r_get 81 C dX4_call_81 (k := 12) 0 rfl rfl hiX9 (by decide) rfl (mg 7 rfl) (Or.inl rfl) rfl ?_
        refine r_aload_n 84 1 C dX4_call_84 rfl ?_
        refine r_get 85 C dX4_call_85 (k := 13) 0 rfl rfl hiX9 (by decide) rfl (mg 2 rfl) (Or.inl rfl) rfl ?_
        refine r_aload_n 88 1 C dX4_call_88 rfl ?_
        refine r_get 89 C dX4_call_89 (k := 8) 0 rfl rfl hiX9 (by decide) rfl (mg 8 rfl) (Or.inl rfl) rfl ?_
        obtain ⟨f58, ef58⟩ : ∃ f_9, upd fn2 (Int32.toNatClampNeg x7) x5 = f_9 := ⟨_, rfl⟩
        refine r_iast 92 C dX4_call_92 3 rfl (vinI (by omega) (by omega)) f58 ef58 [(h0, .inr (8, [.ref h2, .ref h11, .ref h12, .int x1, .int x2, .long y0, .int x3, .int x4, .int x5, .int x6, .ref h3, .ref h4, .ref h5, .int x7, .int x8, .ref h13, .ref h14, .int x9, .ref h15, .int x10])), (h3, .inl (gI g, 10, .inl f56)), (h4, .inl (gI g, 10, .inl f57)), (h5, .inl (gI g, 10, .inl f58)), (h6, .inr (4, [.ref h10, .int x16])), (h8, .inl (gI g, 200, .inl fn4)), (h10, .inl (gB g, 1500, .inl fn5)), (h9, .inl (gJ g, 48, .inr (.inl fm0))), (h1, .inr (7, [.ref h6, .ref h7, .ref h8, .int x11, .int x12, .int x13])), (h7, .inl (gI g, 200, .inl fn3)), (h2, .inr (6, [.ref h9, .ref h16, .int z52, .int x15]))] rfl ?_
        refine r_aload_n 93 1 C dX4_call_93 rfl ?_
        refine r_dup 94 C dX4_call_94 rfl ?_
        refine r_get 95 C dX4_call_95 (k := 13) 0 rfl rfl hiX9 (by decide) rfl (mg 2 rfl) (Or.inl rfl) rfl ?_
        refine r_iconst 98 1 C dX4_call_98 (by decide) ?_
        obtain ⟨z59, ez59⟩ : ∃ z_9, x7 + 1 = z_9 := ⟨_, rfl⟩
        have tz59 : (Int32.toInt z59) = (Int32.toInt x7) + 1 := by rw [← ez59]; exact fb_addIv (a := 0) (b := 10) (c := 1) (d := 1) i_x7 ⟨by decide, by decide⟩ (by decide) (by decide)
        refine r_iadd 99 z59 C dX4_call_99 ez59 ?_
        refine r_put 100 C dX4_call_100 (k := 13) 0 rfl rfl hiX9 tyX9 tyX9_ok nmX9 (by decide) rfl (mg 2 rfl) (Or.inl rfl) rfl rfl rfl rfl (Nat.le_of_ble_eq_true rfl) [(h0, .inr (8, [.ref h2, .ref h11, .ref h12, .int x1, .int x2, .long y0, .int x3, .int x4, .int x5, .int x6, .ref h3, .ref h4, .ref h5, .int z59, .int x8, .ref h13, .ref h14, .int x9, .ref h15, .int x10])), (h3, .inl (gI g, 10, .inl f56)), (h4, .inl (gI g, 10, .inl f57)), (h5, .inl (gI g, 10, .inl f58)), (h6, .inr (4, [.ref h10, .int x16])), (h8, .inl (gI g, 200, .inl fn4)), (h10, .inl (gB g, 1500, .inl fn5)), (h9, .inl (gJ g, 48, .inr (.inl fm0))), (h1, .inr (7, [.ref h6, .ref h7, .ref h8, .int x11, .int x12, .int x13])), (h7, .inl (gI g, 200, .inl fn3)), (h2, .inr (6, [.ref h9, .ref h16, .int z52, .int x15]))] rfl ?_
        refine r_aload_n 103 1 C dX4_call_103 rfl ?_
        refine r_aload_n 104 2 C dX4_call_104 rfl ?_
        refine r_lload_n 105 0 C dX4_call_105 rfl ?_
        obtain ⟨z60, ez60⟩ : ∃ z_9, Int64.toInt32 z9 = z_9 := ⟨_, rfl⟩
        have tz60 : (Int32.toInt z60) = (Int64.toInt z9) := by rw [← ez60]; exact l2i_in (by omega) (by omega)
        refine r_l2i 106 z60 C dX4_call_106 ez60 ?_
        refine r_callVi 107 C dX4_call_107 [.ref h0] [(h1, .inr (7, [.ref h6, .ref h7, .ref h8, .int x11, .int x12, .int x13])), (h6, .inr (4, [.ref h10, .int x16])), (h7, .inl (gI g, 200, .inl fn3)), (h10, .inl (gB g, 1500, .inl fn5))] [(h0, .inr (8, [.ref h2, .ref h11, .ref h12, .int x1, .int x2, .long y0, .int x3, .int x4, .int x5, .int x6, .ref h3, .ref h4, .ref h5, .int z59, .int x8, .ref h13, .ref h14, .int x9, .ref h15, .int x10])), (h3, .inl (gI g, 10, .inl f56)), (h4, .inl (gI g, 10, .inl f57)), (h5, .inl (gI g, 10, .inl f58)), (h8, .inl (gI g, 200, .inl fn4)), (h9, .inl (gJ g, 48, .inr (.inl fm0))), (h2, .inr (6, [.ref h9, .ref h16, .int z52, .int x15]))] (fun sz => c35_X8_beginOf l g h1 h6 h7 h10 z60 h8 x11 x12 x13 x16 fn3 fn5 i_x16 sz) gX4_call_X8_beginOf rfl ⟨rfl, rfl⟩ 1 (by decide) ⟨Nat.le_of_ble_eq_true rfl, Nat.le_of_ble_eq_true rfl⟩ 8 rfl rfl [8, 4, 9, 6] [0, 1, 2, 3, 5, 7, 10] rfl rfl (by decide) (by decide) (by decide) rfl rfl (Nat.le_of_ble_eq_true rfl) ⟨Nat.le_of_ble_eq_true rfl, Nat.le_of_ble_eq_true rfl⟩ (fun r61 _ w62 => ?_)
        refine r_ws [(h0, .inr (8, [.ref h2, .ref h11, .ref h12, .int x1, .int x2, .long y0, .int x3, .int x4, .int x5, .int x6, .ref h3, .ref h4, .ref h5, .int z59, .int x8, .ref h13, .ref h14, .int x9, .ref h15, .int x10])), (h3, .inl (gI g, 10, .inl f56)), (h4, .inl (gI g, 10, .inl f57)), (h5, .inl (gI g, 10, .inl f58)), (h8, .inl (gI g, 200, .inl fn4)), (h9, .inl (gJ g, 48, .inr (.inl fm0))), (h2, .inr (6, [.ref h9, .ref h16, .int z52, .int x15])), (h1, .inr (7, [.ref h6, .ref h7, .ref h8, .int x11, .int x12, .int x13])), (h6, .inr (4, [.ref h10, .int x16])), (h7, .inl (gI g, 200, .inl fn3)), (h10, .inl (gB g, 1500, .inl fn5))] rfl ?_
        have p63 : CND (BOK (GB fn5 (Int32.toInt x16)) (Int32.toInt x11) (Int32.toInt x13) (Int32.toInt x12) fn3 200 (Int32.toInt z60)) ((Int32.toInt r61) = BEGE (GB fn5 (Int32.toInt x16)) (Int32.toInt x11) (Int32.toInt x13) (Int32.toInt x12) fn3 (Int32.toInt z60)) := w62
        have gr61 := fb_rng r61
        refine r_put 110 C dX4_call_110 (k := 6) 0 rfl rfl hiX9 tyX9 tyX9_ok nmX9 (by decide) rfl (mg 4 rfl) (Or.inl rfl) rfl rfl rfl rfl (Nat.le_of_ble_eq_true rfl) [(h0, .inr (8, [.ref h2, .ref h11, .ref h12, .int x1, .int x2, .long y0, .int r61, .int x4, .int x5, .int x6, .ref h3, .ref h4, .ref h5, .int z59, .int x8, .ref h13, .ref h14, .int x9, .ref h15, .int x10])), (h3, .inl (gI g, 10, .inl f56)), (h4, .inl (gI g, 10, .inl f57)), (h5, .inl (gI g, 10, .inl f58)), (h8, .inl (gI g, 200, .inl fn4)), (h9, .inl (gJ g, 48, .inr (.inl fm0))), (h2, .inr (6, [.ref h9, .ref h16, .int z52, .int x15])), (h1, .inr (7, [.ref h6, .ref h7, .ref h8, .int x11, .int x12, .int x13])), (h6, .inr (4, [.ref h10, .int x16])), (h7, .inl (gI g, 200, .inl fn3)), (h10, .inl (gB g, 1500, .inl fn5))] rfl ?_
        refine r_aload_n 113 1 C dX4_call_113 rfl ?_
        refine r_aload_n 114 2 C dX4_call_114 rfl ?_
        refine r_lload_n 115 0 C dX4_call_115 rfl ?_
        obtain ⟨z64, ez64⟩ : ∃ z_9, Int64.toInt32 z9 = z_9 := ⟨_, rfl⟩
        have tz64 : (Int32.toInt z64) = (Int64.toInt z9) := by rw [← ez64]; exact l2i_in (by omega) (by omega)
        refine r_l2i 116 z64 C dX4_call_116 ez64 ?_
        refine r_callVi 117 C dX4_call_117 [.ref h0] [(h1, .inr (7, [.ref h6, .ref h7, .ref h8, .int x11, .int x12, .int x13])), (h6, .inr (4, [.ref h10, .int x16])), (h7, .inl (gI g, 200, .inl fn3)), (h8, .inl (gI g, 200, .inl fn4)), (h10, .inl (gB g, 1500, .inl fn5))] [(h0, .inr (8, [.ref h2, .ref h11, .ref h12, .int x1, .int x2, .long y0, .int r61, .int x4, .int x5, .int x6, .ref h3, .ref h4, .ref h5, .int z59, .int x8, .ref h13, .ref h14, .int x9, .ref h15, .int x10])), (h3, .inl (gI g, 10, .inl f56)), (h4, .inl (gI g, 10, .inl f57)), (h5, .inl (gI g, 10, .inl f58)), (h9, .inl (gJ g, 48, .inr (.inl fm0))), (h2, .inr (6, [.ref h9, .ref h16, .int z52, .int x15]))] (fun sz => c34_X8_finishOf l g h1 h6 h7 h8 h10 z64 x11 x12 x13 x16 fn3 fn4 fn5 i_x16 sz) gX4_call_X8_finishOf rfl ⟨rfl, rfl⟩ 1 (by decide) ⟨Nat.le_of_ble_eq_true rfl, Nat.le_of_ble_eq_true rfl⟩ 7 rfl rfl [7, 8, 9, 4, 10] [0, 1, 2, 3, 5, 6] rfl rfl (by decide) (by decide) (by decide) rfl rfl (Nat.le_of_ble_eq_true rfl) ⟨Nat.le_of_ble_eq_true rfl, Nat.le_of_ble_eq_true rfl⟩ (fun r65 _ w66 => ?_)
        refine r_ws [(h0, .inr (8, [.ref h2, .ref h11, .ref h12, .int x1, .int x2, .long y0, .int r61, .int x4, .int x5, .int x6, .ref h3, .ref h4, .ref h5, .int z59, .int x8, .ref h13, .ref h14, .int x9, .ref h15, .int x10])), (h3, .inl (gI g, 10, .inl f56)), (h4, .inl (gI g, 10, .inl f57)), (h5, .inl (gI g, 10, .inl f58)), (h9, .inl (gJ g, 48, .inr (.inl fm0))), (h2, .inr (6, [.ref h9, .ref h16, .int z52, .int x15])), (h1, .inr (7, [.ref h6, .ref h7, .ref h8, .int x11, .int x12, .int x13])), (h6, .inr (4, [.ref h10, .int x16])), (h7, .inl (gI g, 200, .inl fn3)), (h8, .inl (gI g, 200, .inl fn4)), (h10, .inl (gB g, 1500, .inl fn5))] rfl ?_
        have p67 : CND (FOK (GB fn5 (Int32.toInt x16)) (Int32.toInt x11) (Int32.toInt x13) (Int32.toInt x12) fn3 fn4 200 (Int32.toInt z64)) ((Int32.toInt r65) = FINE (GB fn5 (Int32.toInt x16)) (Int32.toInt x11) (Int32.toInt x13) (Int32.toInt x12) fn4 (Int32.toInt z64)) := w66
        have gr65 := fb_rng r65
        refine r_put 120 C dX4_call_120 (k := 7) 0 rfl rfl hiX9 tyX9 tyX9_ok nmX9 (by decide) rfl (mg 6 rfl) (Or.inl rfl) rfl rfl rfl rfl (Nat.le_of_ble_eq_true rfl) [(h0, .inr (8, [.ref h2, .ref h11, .ref h12, .int x1, .int x2, .long y0, .int r61, .int r65, .int x5, .int x6, .ref h3, .ref h4, .ref h5, .int z59, .int x8, .ref h13, .ref h14, .int x9, .ref h15, .int x10])), (h3, .inl (gI g, 10, .inl f56)), (h4, .inl (gI g, 10, .inl f57)), (h5, .inl (gI g, 10, .inl f58)), (h9, .inl (gJ g, 48, .inr (.inl fm0))), (h2, .inr (6, [.ref h9, .ref h16, .int z52, .int x15])), (h1, .inr (7, [.ref h6, .ref h7, .ref h8, .int x11, .int x12, .int x13])), (h6, .inr (4, [.ref h10, .int x16])), (h7, .inl (gI g, 200, .inl fn3)), (h8, .inl (gI g, 200, .inl fn4)), (h10, .inl (gB g, 1500, .inl fn5))] rfl ?_
        refine r_aload_n 123 1 C dX4_call_123 rfl ?_
        refine r_aload_n 124 1 C dX4_call_124 rfl ?_
        refine r_get 125 C dX4_call_125 (k := 6) 0 rfl rfl hiX9 (by decide) rfl (mg 4 rfl) (Or.inl rfl) rfl ?_
        refine r_put 128 C dX4_call_128 (k := 8) 0 rfl rfl hiX9 tyX9 tyX9_ok nmX9 (by decide) rfl (mg 8 rfl) (Or.inl rfl) rfl rfl rfl rfl (Nat.le_of_ble_eq_true rfl) [(h0, .inr (8, [.ref h2, .ref h11, .ref h12, .int x1, .int x2, .long y0, .int r61, .int r65, .int r61, .int x6, .ref h3, .ref h4, .ref h5, .int z59, .int x8, .ref h13, .ref h14, .int x9, .ref h15, .int x10])), (h3, .inl (gI g, 10, .inl f56)), (h4, .inl (gI g, 10, .inl f57)), (h5, .inl (gI g, 10, .inl f58)), (h9, .inl (gJ g, 48, .inr (.inl fm0))), (h2, .inr (6, [.ref h9, .ref h16, .int z52, .int x15])), (h1, .inr (7, [.ref h6, .ref h7, .ref h8, .int x11, .int x12, .int x13])), (h6, .inr (4, [.ref h10, .int x16])), (h7, .inl (gI g, 200, .inl fn3)), (h8, .inl (gI g, 200, .inl fn4)), (h10, .inl (gB g, 1500, .inl fn5))] rfl ?_
        refine r_iconst 131 0 C dX4_call_131 (by decide) ?_
        exact r_iret 132 Rt dX4_call_132 (r61, r65, r61, z59, z52, f56, f57, f58) (show 0 ≤ (Int32.toInt 0) ∧ (Int32.toInt 0) ≤ 5 ∧ 0 ≤ (Int32.toInt z59) ∧ (Int32.toInt z59) ≤ 10 ∧ 0 ≤ (Int32.toInt z52) ∧ (Int32.toInt z52) ≤ 48 from ⟨(by ((repeat' apply And.intro) <;> first | trivial | rfl | assumption | omega | decide | exact Or.inl rfl | exact Or.inr (Or.inl rfl) | exact Or.inr (Or.inr rfl))), (by ((repeat' apply And.intro) <;> first | trivial | rfl | assumption | omega | decide | exact Or.inl rfl | exact Or.inr (Or.inl rfl) | exact Or.inr (Or.inr rfl))), (by ((repeat' apply And.intro) <;> first | trivial | rfl | assumption | omega | decide | exact Or.inl rfl | exact Or.inr (Or.inl rfl) | exact Or.inr (Or.inr rfl))), (by ((repeat' apply And.intro) <;> first | trivial | rfl | assumption | omega | decide | exact Or.inl rfl | exact Or.inr (Or.inl rfl) | exact Or.inr (Or.inr rfl))), (show _ ∧ _ from ⟨p54, p55⟩).1, (show _ ∧ _ from ⟨p54, p55⟩).2⟩) [0, 6, 5, 1, 2, 3, 7, 8, 9, 4, 10] (by decide) rfl (Nat.le_of_ble_eq_true rfl) (Nat.le_of_ble_eq_true rfl)
      · skip
        have k68 : ¬ ((Int32.toInt x7) < 10) := fun h_9 => c50 ((fa_lt x7 10).mpr h_9)
        refine r_iconst 44 5 C dX4_call_44 (by decide) ?_
        exact r_iret 45 Rt dX4_call_45 (x3, x4, x5, x7, x14, fn0, fn1, fn2) (show 0 ≤ (Int32.toInt 5) ∧ (Int32.toInt 5) ≤ 5 ∧ 0 ≤ (Int32.toInt x7) ∧ (Int32.toInt x7) ≤ 10 ∧ 0 ≤ (Int32.toInt x14) ∧ (Int32.toInt x14) ≤ 48 from ⟨(by ((repeat' apply And.intro) <;> first | trivial | rfl | assumption | omega | decide | exact Or.inl rfl | exact Or.inr (Or.inl rfl) | exact Or.inr (Or.inr rfl))), (by ((repeat' apply And.intro) <;> first | trivial | rfl | assumption | omega | decide | exact Or.inl rfl | exact Or.inr (Or.inl rfl) | exact Or.inr (Or.inr rfl))), i_x7.1, i_x7.2, i_x14.1, i_x14.2⟩) [0, 9, 7, 1, 2, 3, 4, 10, 5, 8, 6] (by decide) rfl (Nat.le_of_ble_eq_true rfl) (Nat.le_of_ble_eq_true rfl)
    obtain ⟨k69, k70⟩ := w13
    have k70 := k70.symm
    subst k70
    refine r_if_ne_f 30 35 C dX4_call_30 (by decide) (by decide) ?_
    refine r_iconst 33 4 C dX4_call_33 (by decide) ?_
    exact r_iret 34 Rt dX4_call_34 (x3, x4, x5, x7, x14, fn0, fn1, fn2) (show 0 ≤ (Int32.toInt 4) ∧ (Int32.toInt 4) ≤ 5 ∧ 0 ≤ (Int32.toInt x7) ∧ (Int32.toInt x7) ≤ 10 ∧ 0 ≤ (Int32.toInt x14) ∧ (Int32.toInt x14) ≤ 48 from ⟨(by ((repeat' apply And.intro) <;> first | trivial | rfl | assumption | omega | decide | exact Or.inl rfl | exact Or.inr (Or.inl rfl) | exact Or.inr (Or.inr rfl))), (by ((repeat' apply And.intro) <;> first | trivial | rfl | assumption | omega | decide | exact Or.inl rfl | exact Or.inr (Or.inl rfl) | exact Or.inr (Or.inr rfl))), i_x7.1, i_x7.2, i_x14.1, i_x14.2⟩) [0, 9, 7, 1, 2, 3, 4, 10, 5, 8, 6] (by decide) rfl (Nat.le_of_ble_eq_true rfl) (Nat.le_of_ble_eq_true rfl)
  · skip
    have k71 : ¬ (1 ≤ (Int32.toInt x14)) := fun h_9 => c4 ((fa_le 1 x14).mpr h_9)
    refine r_iconst 11 2 C dX4_call_11 (by decide) ?_
    exact r_iret 12 Rt dX4_call_12 (x3, x4, x5, x7, x14, fn0, fn1, fn2) (show 0 ≤ (Int32.toInt 2) ∧ (Int32.toInt 2) ≤ 5 ∧ 0 ≤ (Int32.toInt x7) ∧ (Int32.toInt x7) ≤ 10 ∧ 0 ≤ (Int32.toInt x14) ∧ (Int32.toInt x14) ≤ 48 from ⟨(by ((repeat' apply And.intro) <;> first | trivial | rfl | assumption | omega | decide | exact Or.inl rfl | exact Or.inr (Or.inl rfl) | exact Or.inr (Or.inr rfl))), (by ((repeat' apply And.intro) <;> first | trivial | rfl | assumption | omega | decide | exact Or.inl rfl | exact Or.inr (Or.inl rfl) | exact Or.inr (Or.inr rfl))), i_x7.1, i_x7.2, i_x14.1, i_x14.2⟩) [0, 1, 10, 2, 3, 4, 5, 6, 7, 8, 9] (by decide) rfl (Nat.le_of_ble_eq_true rfl) (Nat.le_of_ble_eq_true rfl)
set_option maxHeartbeats 4000000 in
set_option maxRecDepth 100000 in
theorem c237_X4_goBack (l : Launch) (g : GD) (h0 : Nat) (h1 : Nat) (h2 : Nat) (h3 : Nat) (h4 : Nat) (h5 : Nat) (h6 : Nat) (x0 : Int32) (x1 : Int32) (y0 : Int64) (x2 : Int32) (x3 : Int32) (x4 : Int32) (x5 : Int32) (x6 : Int32) (x7 : Int32) (h7 : Nat) (h8 : Nat) (x8 : Int32) (h9 : Nat) (x9 : Int32) (fn0 : Nat → Int32) (fn1 : Nat → Int32) (fn2 : Nat → Int32) (i_x5 : (0 ≤ (Int32.toInt x5) ∧ (Int32.toInt x5) ≤ 1)) (i_x6 : (0 ≤ (Int32.toInt x6) ∧ (Int32.toInt x6) ≤ 10)) (i_x7 : (0 ≤ (Int32.toInt x7) ∧ (Int32.toInt x7) ≤ 1)) (i_x8 : (0 ≤ (Int32.toInt x8) ∧ (Int32.toInt x8) ≤ 7)) (i_x9 : (0 ≤ (Int32.toInt x9) ∧ (Int32.toInt x9) ≤ 24)) (sz : Nat) : Met l yX4_goBack wsX4_goBack ({ frames := 0, cells := 0, slots := 0, locals := 0 }) (va_Pc [.ref h0] (PW g [(h0, .inr (8, [.ref h4, .ref h5, .ref h6, .int x0, .int x1, .long y0, .int x2, .int x3, .int x4, .int x5, .ref h1, .ref h2, .ref h3, .int x6, .int x7, .ref h7, .ref h8, .int x8, .ref h9, .int x9])), (h1, .inl (gI g, 10, .inl fn0)), (h2, .inl (gI g, 10, .inl fn1)), (h3, .inl (gI g, 10, .inl fn2))] sz)) (va_Qi (fun (r : Int32) (u : (Int32) × (Int32) × (Int32) × (Int32)) => 0 ≤ (Int32.toInt r) ∧ (Int32.toInt r) ≤ 1 ∧ 0 ≤ (Int32.toInt (u.2.2.2)) ∧ (Int32.toInt (u.2.2.2)) ≤ 10) (BW g (va_A [(h0, .inr (8, [.ref h4, .ref h5, .ref h6, .int x0, .int x1, .long y0, .int x2, .int x3, .int x4, .int x5, .ref h1, .ref h2, .ref h3, .int x6, .int x7, .ref h7, .ref h8, .int x8, .ref h9, .int x9])), (h1, .inl (gI g, 10, .inl fn0)), (h2, .inl (gI g, 10, .inl fn1)), (h3, .inl (gI g, 10, .inl fn2))] sz) (fun u : (Int32) × (Int32) × (Int32) × (Int32) => [(h0, .inr (8, [.ref h4, .ref h5, .ref h6, .int x0, .int x1, .long y0, .int u.1, .int u.2.1, .int u.2.2.1, .int x5, .ref h1, .ref h2, .ref h3, .int u.2.2.2, .int x7, .ref h7, .ref h8, .int x8, .ref h9, .int x9])), (h1, .inl (gI g, 10, .inl fn0)), (h2, .inl (gI g, 10, .inl fn1)), (h3, .inl (gI g, 10, .inl fn2))])) (va_A [(h0, .inr (8, [.ref h4, .ref h5, .ref h6, .int x0, .int x1, .long y0, .int x2, .int x3, .int x4, .int x5, .ref h1, .ref h2, .ref h3, .int x6, .int x7, .ref h7, .ref h8, .int x8, .ref h9, .int x9])), (h1, .inl (gI g, 10, .inl fn0)), (h2, .inl (gI g, 10, .inl fn1)), (h3, .inl (gI g, 10, .inl fn2))] sz)) 0 0 (va_A [(h0, .inr (8, [.ref h4, .ref h5, .ref h6, .int x0, .int x1, .long y0, .int x2, .int x3, .int x4, .int x5, .ref h1, .ref h2, .ref h3, .int x6, .int x7, .ref h7, .ref h8, .int x8, .ref h9, .int x9])), (h1, .inl (gI g, 10, .inl fn0)), (h2, .inl (gI g, 10, .inl fn1)), (h3, .inl (gI g, 10, .inl fn2))] sz) := by
  refine met_i RX4 (by decide) rfl rfl (Nat.le_of_ble_eq_true rfl) [(0, .ref h0)] rfl ?_
  intro p e s m args below meth c A Q C hnm Rt
  have hiX9 : ∀ w ∈ wsX90, w ∈ wsX4_goBack := fun w h => List.mem_cons_of_mem _ (List.mem_append_right _ (h))
  refine r_aload_n 0 0 C dX4_goBack_0 rfl ?_
  refine r_get 1 C dX4_goBack_1 (k := 13) 0 rfl rfl hiX9 (by decide) rfl (mg 1 rfl) (Or.inl rfl) rfl ?_
  refine r_iconst 4 1 C dX4_goBack_4 (by decide) ?_
  refine r_icmp_ge 5 10 C dX4_goBack_5 (by decide) (fun c1 => ?_) (fun c1 => ?_)
  · skip
    have k2 : 1 ≤ (Int32.toInt x6) := (fa_le 1 x6).mp c1
    refine r_aload_n 10 0 C dX4_goBack_10 rfl ?_
    refine r_dup 11 C dX4_goBack_11 rfl ?_
    refine r_get 12 C dX4_goBack_12 (k := 13) 0 rfl rfl hiX9 (by decide) rfl (mg 1 rfl) (Or.inl rfl) rfl ?_
    refine r_iconst 15 1 C dX4_goBack_15 (by decide) ?_
    obtain ⟨z3, ez3⟩ : ∃ z_9, x6 - 1 = z_9 := ⟨_, rfl⟩
    have tz3 : (Int32.toInt z3) = (Int32.toInt x6) - 1 := by rw [← ez3]; exact fb_subIv (a := 0) (b := 10) (c := 1) (d := 1) i_x6 ⟨by decide, by decide⟩ (by decide) (by decide)
    refine r_isub 16 z3 C dX4_goBack_16 ez3 ?_
    refine r_put 17 C dX4_goBack_17 (k := 13) 0 rfl rfl hiX9 tyX9 tyX9_ok nmX9 (by decide) rfl (mg 1 rfl) (Or.inl rfl) rfl rfl rfl rfl (Nat.le_of_ble_eq_true rfl) [(h0, .inr (8, [.ref h4, .ref h5, .ref h6, .int x0, .int x1, .long y0, .int x2, .int x3, .int x4, .int x5, .ref h1, .ref h2, .ref h3, .int z3, .int x7, .ref h7, .ref h8, .int x8, .ref h9, .int x9])), (h1, .inl (gI g, 10, .inl fn0)), (h2, .inl (gI g, 10, .inl fn1)), (h3, .inl (gI g, 10, .inl fn2))] rfl ?_
    refine r_aload_n 20 0 C dX4_goBack_20 rfl ?_
    refine r_aload_n 21 0 C dX4_goBack_21 rfl ?_
    refine r_get 22 C dX4_goBack_22 (k := 10) 0 rfl rfl hiX9 (by decide) rfl (mg 2 rfl) (Or.inl rfl) rfl ?_
    refine r_aload_n 25 0 C dX4_goBack_25 rfl ?_
    refine r_get 26 C dX4_goBack_26 (k := 13) 0 rfl rfl hiX9 (by decide) rfl (mg 1 rfl) (Or.inl rfl) rfl ?_
    obtain ⟨z4, ez4⟩ : ∃ z_9, fn0 (Int32.toNatClampNeg z3) = z_9 := ⟨_, rfl⟩
    refine r_iald 29 z4 C dX4_goBack_29 1 rfl (vinI (by omega) (by omega)) ez4 ?_
    have gz4 := fb_rng z4
    refine r_put 30 C dX4_goBack_30 (k := 6) 0 rfl rfl hiX9 tyX9 tyX9_ok nmX9 (by decide) rfl (mg 3 rfl) (Or.inl rfl) rfl rfl rfl rfl (Nat.le_of_ble_eq_true rfl) [(h0, .inr (8, [.ref h4, .ref h5, .ref h6, .int x0, .int x1, .long y0, .int z4, .int x3, .int x4, .int x5, .ref h1, .ref h2, .ref h3, .int z3, .int x7, .ref h7, .ref h8, .int x8, .ref h9, .int x9])), (h1, .inl (gI g, 10, .inl fn0)), (h2, .inl (gI g, 10, .inl fn1)), (h3, .inl (gI g, 10, .inl fn2))] rfl ?_
    refine r_aload_n 33 0 C dX4_goBack_33 rfl ?_
    refine r_aload_n 34 0 C dX4_goBack_34 rfl ?_
    refine r_get 35 C dX4_goBack_35 (k := 11) 0 rfl rfl hiX9 (by decide) rfl (mg 4 rfl) (Or.inl rfl) rfl ?_
    refine r_aload_n 38 0 C dX4_goBack_38 rfl ?_
    refine r_get 39 C dX4_goBack_39 (k := 13) 0 rfl rfl hiX9 (by decide) rfl (mg 1 rfl) (Or.inl rfl) rfl ?_
    obtain ⟨z5, ez5⟩ : ∃ z_9, fn1 (Int32.toNatClampNeg z3) = z_9 := ⟨_, rfl⟩
    refine r_iald 42 z5 C dX4_goBack_42 2 rfl (vinI (by omega) (by omega)) ez5 ?_
    have gz5 := fb_rng z5
    refine r_put 43 C dX4_goBack_43 (k := 7) 0 rfl rfl hiX9 tyX9 tyX9_ok nmX9 (by decide) rfl (mg 5 rfl) (Or.inl rfl) rfl rfl rfl rfl (Nat.le_of_ble_eq_true rfl) [(h0, .inr (8, [.ref h4, .ref h5, .ref h6, .int x0, .int x1, .long y0, .int z4, .int z5, .int x4, .int x5, .ref h1, .ref h2, .ref h3, .int z3, .int x7, .ref h7, .ref h8, .int x8, .ref h9, .int x9])), (h1, .inl (gI g, 10, .inl fn0)), (h2, .inl (gI g, 10, .inl fn1)), (h3, .inl (gI g, 10, .inl fn2))] rfl ?_
    refine r_aload_n 46 0 C dX4_goBack_46 rfl ?_
    refine r_aload_n 47 0 C dX4_goBack_47 rfl ?_
    refine r_get 48 C dX4_goBack_48 (k := 12) 0 rfl rfl hiX9 (by decide) rfl (mg 6 rfl) (Or.inl rfl) rfl ?_
    refine r_aload_n 51 0 C dX4_goBack_51 rfl ?_
    refine r_get 52 C dX4_goBack_52 (k := 13) 0 rfl rfl hiX9 (by decide) rfl (mg 1 rfl) (Or.inl rfl) rfl ?_
    obtain ⟨z6, ez6⟩ : ∃ z_9, fn2 (Int32.toNatClampNeg z3) = z_9 := ⟨_, rfl⟩
    refine r_iald 55 z6 C dX4_goBack_55 3 rfl (vinI (by omega) (by omega)) ez6 ?_
    have gz6 := fb_rng z6
    refine r_put 56 C dX4_goBack_56 (k := 8) 0 rfl rfl hiX9 tyX9 tyX9_ok nmX9 (by decide) rfl (mg 7 rfl) (Or.inl rfl) rfl rfl rfl rfl (Nat.le_of_ble_eq_true rfl) [(h0, .inr (8, [.ref h4, .ref h5, .ref h6, .int x0, .int x1, .long y0, .int z4, .int z5, .int z6, .int x5, .ref h1, .ref h2, .ref h3, .int z3, .int x7, .ref h7, .ref h8, .int x8, .ref h9, .int x9])), (h1, .inl (gI g, 10, .inl fn0)), (h2, .inl (gI g, 10, .inl fn1)), (h3, .inl (gI g, 10, .inl fn2))] rfl ?_
    refine r_iconst 59 0 C dX4_goBack_59 (by decide) ?_
    exact r_iret 60 Rt dX4_goBack_60 (z4, z5, z6, z3) (show 0 ≤ (Int32.toInt 0) ∧ (Int32.toInt 0) ≤ 1 ∧ 0 ≤ (Int32.toInt z3) ∧ (Int32.toInt z3) ≤ 10 from ⟨(by ((repeat' apply And.intro) <;> first | trivial | rfl | assumption | omega | decide | exact Or.inl rfl | exact Or.inr (Or.inl rfl) | exact Or.inr (Or.inr rfl))), (by ((repeat' apply And.intro) <;> first | trivial | rfl | assumption | omega | decide | exact Or.inl rfl | exact Or.inr (Or.inl rfl) | exact Or.inr (Or.inr rfl))), (by ((repeat' apply And.intro) <;> first | trivial | rfl | assumption | omega | decide | exact Or.inl rfl | exact Or.inr (Or.inl rfl) | exact Or.inr (Or.inr rfl))), (by ((repeat' apply And.intro) <;> first | trivial | rfl | assumption | omega | decide | exact Or.inl rfl | exact Or.inr (Or.inl rfl) | exact Or.inr (Or.inr rfl)))⟩) [0, 1, 2, 3] (by decide) rfl (Nat.le_of_ble_eq_true rfl) (Nat.le_of_ble_eq_true rfl)
  · skip
    have k7 : ¬ (1 ≤ (Int32.toInt x6)) := fun h_9 => c1 ((fa_le 1 x6).mpr h_9)
    refine r_iconst 8 1 C dX4_goBack_8 (by decide) ?_
    exact r_iret 9 Rt dX4_goBack_9 (x2, x3, x4, x6) (show 0 ≤ (Int32.toInt 1) ∧ (Int32.toInt 1) ≤ 1 ∧ 0 ≤ (Int32.toInt x6) ∧ (Int32.toInt x6) ≤ 10 from ⟨(by ((repeat' apply And.intro) <;> first | trivial | rfl | assumption | omega | decide | exact Or.inl rfl | exact Or.inr (Or.inl rfl) | exact Or.inr (Or.inr rfl))), (by ((repeat' apply And.intro) <;> first | trivial | rfl | assumption | omega | decide | exact Or.inl rfl | exact Or.inr (Or.inl rfl) | exact Or.inr (Or.inr rfl))), i_x6.1, i_x6.2⟩) [0, 1, 2, 3] (by decide) rfl (Nat.le_of_ble_eq_true rfl) (Nat.le_of_ble_eq_true rfl)
set_option maxHeartbeats 4000000 in
set_option maxRecDepth 100000 in
theorem c238_X7_replace (l : Launch) (g : GD) (h0 : Nat) (h1 : Nat) (x0 : Int32) (y0 : Int64) (h2 : Nat) (x1 : Int32) (x2 : Int32) (fm0 : Nat → Int64) (i_x1 : (0 ≤ (Int32.toInt x1) ∧ (Int32.toInt x1) ≤ 48)) (i_x2 : (0 ≤ (Int32.toInt x2) ∧ (Int32.toInt x2) ≤ 48)) (sz : Nat) : Met l yX7_replace wsX7_replace ({ frames := 1, cells := 0, slots := 0, locals := 22 }) (va_Pc [.ref h0, .int x0, .long y0] (PW g [(h0, .inr (6, [.ref h1, .ref h2, .int x1, .int x2])), (h1, .inl (gJ g, 48, .inr (.inl fm0)))] sz)) (va_Qi (fun (r : Int32) (u : (Int32) × (Nat → Int64)) => 0 ≤ (Int32.toInt r) ∧ (Int32.toInt r) ≤ 3 ∧ 0 ≤ (Int32.toInt (u.1)) ∧ (Int32.toInt (u.1)) ≤ 48) (BW g (va_A [(h0, .inr (6, [.ref h1, .ref h2, .int x1, .int x2])), (h1, .inl (gJ g, 48, .inr (.inl fm0)))] sz) (fun u : (Int32) × (Nat → Int64) => [(h0, .inr (6, [.ref h1, .ref h2, .int u.1, .int x2])), (h1, .inl (gJ g, 48, .inr (.inl u.2)))])) (va_A [(h0, .inr (6, [.ref h1, .ref h2, .int x1, .int x2])), (h1, .inl (gJ g, 48, .inr (.inl fm0)))] sz)) 0 0 (va_A [(h0, .inr (6, [.ref h1, .ref h2, .int x1, .int x2])), (h1, .inl (gJ g, 48, .inr (.inl fm0)))] sz) := by
  refine met_i RX7 (by decide) rfl rfl (Nat.le_of_ble_eq_true rfl) [(0, .ref h0), (1, .int x0), (2, .long y0)] rfl ?_
  intro p e s m args below meth c A Q C hnm Rt
  refine r_aload_n 0 0 C dX7_replace_0 rfl ?_
  refine r_iload_n 1 1 C dX7_replace_1 rfl ?_
  refine r_callVv 2 C dX7_replace_2 [] [(h0, .inr (6, [.ref h1, .ref h2, .int x1, .int x2]))] [(h1, .inl (gJ g, 48, .inr (.inl fm0)))] (fun sz => c235_X7_drop l g h0 x0 h1 h2 x1 x2 i_x1 i_x2 sz) gX7_replace_X7_drop rfl ⟨rfl, rfl⟩ 1 (by decide) ⟨Nat.le_of_ble_eq_true rfl, Nat.le_of_ble_eq_true rfl⟩ 0 rfl rfl [0] [1] rfl rfl (by decide) (by decide) (by decide) rfl rfl (Nat.le_of_ble_eq_true rfl) ⟨Nat.le_of_ble_eq_true rfl, Nat.le_of_ble_eq_true rfl⟩ (fun  z1 w2 => ?_)
  refine r_ws [(h1, .inl (gJ g, 48, .inr (.inl fm0))), (h0, .inr (6, [.ref h1, .ref h2, .int z1, .int x2]))] rfl ?_
  have p3 : 0 ≤ (Int32.toInt z1) := w2.1
  have p4 : (Int32.toInt z1) ≤ 48 := w2.2
  refine r_aload_n 5 0 C dX7_replace_5 rfl ?_
  refine r_lload_n 6 2 C dX7_replace_6 rfl ?_
  refine r_callVi 7 C dX7_replace_7 [] [(h0, .inr (6, [.ref h1, .ref h2, .int z1, .int x2])), (h1, .inl (gJ g, 48, .inr (.inl fm0)))] [] (fun sz => c227_X7_push l g h0 h1 y0 h2 z1 x2 fm0 ⟨p3, p4⟩ i_x2 sz) gX7_replace_X7_push rfl ⟨rfl, rfl⟩ 1 (by decide) ⟨Nat.le_of_ble_eq_true rfl, Nat.le_of_ble_eq_true rfl⟩ 1 rfl rfl [1, 0] [] rfl rfl (by decide) (by decide) (by decide) rfl rfl (Nat.le_of_ble_eq_true rfl) ⟨Nat.le_of_ble_eq_true rfl, Nat.le_of_ble_eq_true rfl⟩ (fun r7 u9 w8 => ?_)
  obtain ⟨z5, f6⟩ := u9
  refine r_ws [(h0, .inr (6, [.ref h1, .ref h2, .int z5, .int x2])), (h1, .inl (gJ g, 48, .inr (.inl f6)))] rfl ?_
  have p10 : 0 ≤ (Int32.toInt r7) := w8.1
  have p11 : (Int32.toInt r7) ≤ 3 := w8.2.1
  have p12 : 0 ≤ (Int32.toInt z5) := w8.2.2.1
  have p13 : (Int32.toInt z5) ≤ 48 := w8.2.2.2
  exact r_iret 10 Rt dX7_replace_10 (z5, f6) (show 0 ≤ (Int32.toInt r7) ∧ (Int32.toInt r7) ≤ 3 ∧ 0 ≤ (Int32.toInt z5) ∧ (Int32.toInt z5) ≤ 48 from ⟨(show _ ∧ _ from ⟨p10, p11⟩).1, (show _ ∧ _ from ⟨p10, p11⟩).2, (show _ ∧ _ from ⟨p12, p13⟩).1, (show _ ∧ _ from ⟨p12, p13⟩).2⟩) [0, 1] (by decide) rfl (Nat.le_of_ble_eq_true rfl) (Nat.le_of_ble_eq_true rfl)
set_option maxHeartbeats 4000000 in
set_option maxRecDepth 100000 in
theorem c239_X7_divide (l : Launch) (g : GD) (h0 : Nat) (h1 : Nat) (h2 : Nat) (x0 : Int32) (x1 : Int32) (fm0 : Nat → Int64) (i_x0 : (0 ≤ (Int32.toInt x0) ∧ (Int32.toInt x0) ≤ 48)) (i_x1 : (0 ≤ (Int32.toInt x1) ∧ (Int32.toInt x1) ≤ 48)) (sz : Nat) : Met l yX7_divide wsX7_divide ({ frames := 2, cells := 0, slots := 0, locals := 45 }) (va_Pc [.ref h0] (PW g [(h0, .inr (6, [.ref h1, .ref h2, .int x0, .int x1])), (h1, .inl (gJ g, 48, .inr (.inl fm0)))] sz)) (va_Qi (fun (r : Int32) (u : (Int32) × (Nat → Int64)) => 0 ≤ (Int32.toInt r) ∧ (Int32.toInt r) ≤ 9 ∧ 0 ≤ (Int32.toInt (u.1)) ∧ (Int32.toInt (u.1)) ≤ 48) (BW g (va_A [(h0, .inr (6, [.ref h1, .ref h2, .int x0, .int x1])), (h1, .inl (gJ g, 48, .inr (.inl fm0)))] sz) (fun u : (Int32) × (Nat → Int64) => [(h0, .inr (6, [.ref h1, .ref h2, .int u.1, .int x1])), (h1, .inl (gJ g, 48, .inr (.inl u.2)))])) (va_A [(h0, .inr (6, [.ref h1, .ref h2, .int x0, .int x1])), (h1, .inl (gJ g, 48, .inr (.inl fm0)))] sz)) 0 0 (va_A [(h0, .inr (6, [.ref h1, .ref h2, .int x0, .int x1])), (h1, .inl (gJ g, 48, .inr (.inl fm0)))] sz) := by
  refine met_i RX7 (by decide) rfl rfl (Nat.le_of_ble_eq_true rfl) [(0, .ref h0)] rfl ?_
  intro p e s m args below meth c A Q C hnm Rt
  have hiX7 : ∀ w ∈ wsX70, w ∈ wsX7_divide := fun w h => List.mem_cons_of_mem _ (List.mem_append_right _ (h))
  refine r_aload_n 0 0 C dX7_divide_0 rfl ?_
  refine r_get 1 C dX7_divide_1 (k := 2) 0 rfl rfl hiX7 (by decide) rfl (mg 1 rfl) (Or.inl rfl) rfl ?_
  refine r_iconst 4 2 C dX7_divide_4 (by decide) ?_
  refine r_icmp_ge 5 10 C dX7_divide_5 (by decide) (fun c1 => ?_) (fun c1 => ?_)
  · skip
    have k2 : 2 ≤ (Int32.toInt x0) := (fa_le 2 x0).mp c1
    refine r_aload_n 10 0 C dX7_divide_10 rfl ?_
    refine r_iconst 11 0 C dX7_divide_11 (by decide) ?_
    refine r_callVl 12 C dX7_divide_12 [] [(h0, .inr (6, [.ref h1, .ref h2, .int x0, .int x1])), (h1, .inl (gJ g, 48, .inr (.inl fm0)))] [] (fun sz => c233_X7_below l g h0 h1 0 h2 x0 x1 fm0 i_x0 i_x1 sz) gX7_divide_X7_below rfl ⟨rfl, rfl⟩ 1 (by decide) ⟨Nat.le_of_ble_eq_true rfl, Nat.le_of_ble_eq_true rfl⟩ 0 rfl rfl [0, 1] [] rfl rfl (by decide) (by decide) (by decide) rfl rfl (Nat.le_of_ble_eq_true rfl) ⟨Nat.le_of_ble_eq_true rfl, Nat.le_of_ble_eq_true rfl⟩ (fun r3 _ w4 => ?_)
    refine r_ws [(h0, .inr (6, [.ref h1, .ref h2, .int x0, .int x1])), (h1, .inl (gJ g, 48, .inr (.inl fm0)))] rfl ?_
    have gr3 := fb_rngL r3
    refine r_lstore_n 15 C dX7_divide_15 [(1, .long r3), (0, .ref h0)] (by decide) rfl ?_
    refine r_lload_n 16 0 C dX7_divide_16 rfl ?_
    refine r_lconst 17 0 C dX7_divide_17 (by decide) ?_
    obtain ⟨z5, ez5⟩ : ∃ z_9, lg_cmp r3 0 = z_9 := ⟨_, rfl⟩
    have l1z5 : (Int32.toInt z5) < 0 ↔ (Int64.toInt r3) < 0 := by rw [← ez5]; exact lgI1 r3 0
    have l2z5 : 0 < (Int32.toInt z5) ↔ 0 < (Int64.toInt r3) := by rw [← ez5]; exact lgI2 r3 0
    refine r_lcmp 18 z5 C dX7_divide_18 ez5 ?_
    refine r_if_ne 19 25 C dX7_divide_19 (by decide) (fun c6 => ?_) (fun c6 => ?_)
    · skip
      have k7 : ¬ ((Int32.toInt z5) = 0) := fun h_9 => c6 ((fa_eq z5 0).mpr h_9)
      refine r_aload_n 25 1 C dX7_divide_25 rfl ?_
      refine r_iconst 26 2 C dX7_divide_26 (by decide) ?_
      refine r_aload_n 27 1 C dX7_divide_27 rfl ?_
      refine r_iconst 28 1 C dX7_divide_28 (by decide) ?_
      refine r_callVl 29 C dX7_divide_29 [.int 2, .ref h0] [(h0, .inr (6, [.ref h1, .ref h2, .int x0, .int x1])), (h1, .inl (gJ g, 48, .inr (.inl fm0)))] [] (fun sz => c233_X7_below l g h0 h1 1 h2 x0 x1 fm0 i_x0 i_x1 sz) gX7_divide_X7_below rfl ⟨rfl, rfl⟩ 1 (by decide) ⟨Nat.le_of_ble_eq_true rfl, Nat.le_of_ble_eq_true rfl⟩ 0 rfl rfl [0, 1] [] rfl rfl (by decide) (by decide) (by decide) rfl rfl (Nat.le_of_ble_eq_true rfl) ⟨Nat.le_of_ble_eq_true rfl, Nat.le_of_ble_eq_true rfl⟩ (fun r8 _ w9 => ?_)
      refine r_ws [(h0, .inr (6, [.ref h1, .ref h2, .int x0, .int x1])), (h1, .inl (gJ g, 48, .inr (.inl fm0)))] rfl ?_
      have gr8 := fb_rngL r8
      refine r_ldc2 32 65536 C dX7_divide_32 (mg 2 rfl) ?_
      obtain ⟨z10, ez10⟩ : ∃ z_9, r8 * 65536 = z_9 := ⟨_, rfl⟩
      have gz10 := fb_rngL z10
      refine r_lmul 35 z10 C dX7_divide_35 ez10 ?_
      refine r_lload_n 36 0 C dX7_divide_36 rfl ?_
      obtain ⟨z11, ez11⟩ : ∃ z_9, z10 / r3 = z_9 := ⟨_, rfl⟩
      have gz11 := fb_rngL z11
      refine r_ldiv 37 z11 C dX7_divide_37 (fun h_9 => by have h_8 : (Int64.toInt r3) = 0 := (fa_eq64 r3 0).mp h_9; omega) ez11 ?_
      refine r_callVi 38 C dX7_divide_38 [] [(h0, .inr (6, [.ref h1, .ref h2, .int x0, .int x1])), (h1, .inl (gJ g, 48, .inr (.inl fm0)))] [] (fun sz => c238_X7_replace l g h0 h1 2 z11 h2 x0 x1 fm0 i_x0 i_x1 sz) gX7_divide_X7_replace rfl ⟨rfl, rfl⟩ 2 (by decide) ⟨Nat.le_of_ble_eq_true rfl, Nat.le_of_ble_eq_true rfl⟩ 0 rfl rfl [0, 1] [] rfl rfl (by decide) (by decide) (by decide) rfl rfl (Nat.le_of_ble_eq_true rfl) ⟨Nat.le_of_ble_eq_true rfl, Nat.le_of_ble_eq_true rfl⟩ (fun r14 u16 w15 => ?_)
      obtain ⟨z12, f13⟩ := u16
      refine r_ws [(h0, .inr (6, [.ref h1, .ref h2, .int z12, .int x1])), (h1, .inl (gJ g, 48, .inr (.inl f13)))] rfl ?_
      have p17 : 0 ≤ (Int32.toInt r14) := w15.1
      have p18 : (Int32.toInt r14) ≤ 3 := w15.2.1
      have p19 : 0 ≤ (Int32.toInt z12) := w15.2.2.1
      have p20 : (Int32.toInt z12) ≤ 48 := w15.2.2.2
      exact r_iret 41 Rt dX7_divide_41 (z12, f13) (show 0 ≤ (Int32.toInt r14) ∧ (Int32.toInt r14) ≤ 9 ∧ 0 ≤ (Int32.toInt z12) ∧ (Int32.toInt z12) ≤ 48 from ⟨(iv_wide (c := 0) (d := 9) ⟨p17, p18⟩ (by decide) (by decide)).1, (iv_wide (c := 0) (d := 9) ⟨p17, p18⟩ (by decide) (by decide)).2, (show _ ∧ _ from ⟨p19, p20⟩).1, (show _ ∧ _ from ⟨p19, p20⟩).2⟩) [0, 1] (by decide) rfl (Nat.le_of_ble_eq_true rfl) (Nat.le_of_ble_eq_true rfl)
    · skip
      have k21 : (Int32.toInt z5) = 0 := (fa_eq z5 0).mp c6
      refine r_bipush 22 9 C dX7_divide_22 (by decide) ?_
      exact r_iret 24 Rt dX7_divide_24 (x0, fm0) (show 0 ≤ (Int32.toInt 9) ∧ (Int32.toInt 9) ≤ 9 ∧ 0 ≤ (Int32.toInt x0) ∧ (Int32.toInt x0) ≤ 48 from ⟨(by ((repeat' apply And.intro) <;> first | trivial | rfl | assumption | omega | decide | exact Or.inl rfl | exact Or.inr (Or.inl rfl) | exact Or.inr (Or.inr rfl))), (by ((repeat' apply And.intro) <;> first | trivial | rfl | assumption | omega | decide | exact Or.inl rfl | exact Or.inr (Or.inl rfl) | exact Or.inr (Or.inr rfl))), i_x0.1, i_x0.2⟩) [0, 1] (by decide) rfl (Nat.le_of_ble_eq_true rfl) (Nat.le_of_ble_eq_true rfl)
  · skip
    have k22 : ¬ (2 ≤ (Int32.toInt x0)) := fun h_9 => c1 ((fa_le 2 x0).mpr h_9)
    refine r_iconst 8 2 C dX7_divide_8 (by decide) ?_
    exact r_iret 9 Rt dX7_divide_9 (x0, fm0) (show 0 ≤ (Int32.toInt 2) ∧ (Int32.toInt 2) ≤ 9 ∧ 0 ≤ (Int32.toInt x0) ∧ (Int32.toInt x0) ≤ 48 from ⟨(by ((repeat' apply And.intro) <;> first | trivial | rfl | assumption | omega | decide | exact Or.inl rfl | exact Or.inr (Or.inl rfl) | exact Or.inr (Or.inr rfl))), (by ((repeat' apply And.intro) <;> first | trivial | rfl | assumption | omega | decide | exact Or.inl rfl | exact Or.inr (Or.inl rfl) | exact Or.inr (Or.inr rfl))), i_x0.1, i_x0.2⟩) [0, 1] (by decide) rfl (Nat.le_of_ble_eq_true rfl) (Nat.le_of_ble_eq_true rfl)
set_option maxHeartbeats 4000000 in
set_option maxRecDepth 100000 in
theorem c240_X9_putOneBy (l : Launch) (g : GD) (h0 : Nat) (h1 : Nat) (y0 : Int64) (h2 : Nat) (h3 : Nat) (h4 : Nat) (x0 : Int32) (x1 : Int32) (y1 : Int64) (x2 : Int32) (x3 : Int32) (x4 : Int32) (x5 : Int32) (h5 : Nat) (h6 : Nat) (h7 : Nat) (x6 : Int32) (x7 : Int32) (h8 : Nat) (h9 : Nat) (x8 : Int32) (x9 : Int32) (fm0 : Nat → Int64) (i_x5 : (0 ≤ (Int32.toInt x5) ∧ (Int32.toInt x5) ≤ 1)) (i_x6 : (0 ≤ (Int32.toInt x6) ∧ (Int32.toInt x6) ≤ 10)) (i_x7 : (0 ≤ (Int32.toInt x7) ∧ (Int32.toInt x7) ≤ 1)) (i_x8 : (0 ≤ (Int32.toInt x8) ∧ (Int32.toInt x8) ≤ 7)) (i_x9 : (0 ≤ (Int32.toInt x9) ∧ (Int32.toInt x9) ≤ 24)) (sz : Nat) : Met l yX9_putOneBy wsX9_putOneBy ({ frames := 0, cells := 0, slots := 0, locals := 0 }) (va_Pc [.ref h0, .long y0] (PW g [(h0, .inr (8, [.ref h2, .ref h3, .ref h4, .int x0, .int x1, .long y1, .int x2, .int x3, .int x4, .int x5, .ref h5, .ref h6, .ref h7, .int x6, .int x7, .ref h8, .ref h9, .int x8, .ref h1, .int x9])), (h1, .inl (gJ g, 24, .inr (.inl fm0)))] sz)) (va_Qv (fun (u : (Int32) × (Nat → Int64)) => 0 ≤ (Int32.toInt (u.1)) ∧ (Int32.toInt (u.1)) ≤ 24) (BW g (va_A [(h0, .inr (8, [.ref h2, .ref h3, .ref h4, .int x0, .int x1, .long y1, .int x2, .int x3, .int x4, .int x5, .ref h5, .ref h6, .ref h7, .int x6, .int x7, .ref h8, .ref h9, .int x8, .ref h1, .int x9])), (h1, .inl (gJ g, 24, .inr (.inl fm0)))] sz) (fun u : (Int32) × (Nat → Int64) => [(h0, .inr (8, [.ref h2, .ref h3, .ref h4, .int x0, .int x1, .long y1, .int x2, .int x3, .int x4, .int x5, .ref h5, .ref h6, .ref h7, .int x6, .int x7, .ref h8, .ref h9, .int x8, .ref h1, .int u.1])), (h1, .inl (gJ g, 24, .inr (.inl u.2)))])) (va_A [(h0, .inr (8, [.ref h2, .ref h3, .ref h4, .int x0, .int x1, .long y1, .int x2, .int x3, .int x4, .int x5, .ref h5, .ref h6, .ref h7, .int x6, .int x7, .ref h8, .ref h9, .int x8, .ref h1, .int x9])), (h1, .inl (gJ g, 24, .inr (.inl fm0)))] sz)) 0 0 (va_A [(h0, .inr (8, [.ref h2, .ref h3, .ref h4, .int x0, .int x1, .long y1, .int x2, .int x3, .int x4, .int x5, .ref h5, .ref h6, .ref h7, .int x6, .int x7, .ref h8, .ref h9, .int x8, .ref h1, .int x9])), (h1, .inl (gJ g, 24, .inr (.inl fm0)))] sz) := by
  refine met_v RX9 (by decide) rfl rfl (Nat.le_of_ble_eq_true rfl) [(0, .ref h0), (1, .long y0)] rfl ?_
  intro p e s m args below meth c A Q C hnm Rt
  have hiX9 : ∀ w ∈ wsX90, w ∈ wsX9_putOneBy := fun w h => List.mem_cons_of_mem _ (List.mem_append_right _ (h))
  refine r_aload_n 0 0 C dX9_putOneBy_0 rfl ?_
  refine r_get 1 C dX9_putOneBy_1 (k := 19) 0 rfl rfl hiX9 (by decide) rfl (mg 1 rfl) (Or.inl rfl) rfl ?_
  refine r_aload_n 4 0 C dX9_putOneBy_4 rfl ?_
  refine r_get 5 C dX9_putOneBy_5 (k := 18) 0 rfl rfl hiX9 (by decide) rfl (mg 2 rfl) (Or.inl rfl) rfl ?_
  refine r_lalen 8 24 C dX9_putOneBy_8 1 rfl (by decide) ?_
  refine r_icmp_ge 9 32 C dX9_putOneBy_9 (by decide) (fun c1 => ?_) (fun c1 => ?_)
  · skip
    have k2 : 24 ≤ (Int32.toInt x9) := (fa_le 24 x9).mp c1
    exact r_vret 32 Rt dX9_putOneBy_32 (x9, fm0) (show 0 ≤ (Int32.toInt x9) ∧ (Int32.toInt x9) ≤ 24 from ⟨i_x9.1, i_x9.2⟩) [0, 1] (by decide) rfl (Nat.le_of_ble_eq_true rfl) (Nat.le_of_ble_eq_true rfl)
  · skip
    have k3 : ¬ (24 ≤ (Int32.toInt x9)) := fun h_9 => c1 ((fa_le 24 x9).mpr h_9)
    refine r_aload_n 12 0 C dX9_putOneBy_12 rfl ?_
    refine r_get 13 C dX9_putOneBy_13 (k := 18) 0 rfl rfl hiX9 (by decide) rfl (mg 2 rfl) (Or.inl rfl) rfl ?_
    refine r_aload_n 16 0 C dX9_putOneBy_16 rfl ?_
    refine r_get 17 C dX9_putOneBy_17 (k := 19) 0 rfl rfl hiX9 (by decide) rfl (mg 1 rfl) (Or.inl rfl) rfl ?_
    refine r_lload_n 20 1 C dX9_putOneBy_20 rfl ?_
    obtain ⟨f4, ef4⟩ : ∃ f_9, vp_updL fm0 (Int32.toNatClampNeg x9) y0 = f_9 := ⟨_, rfl⟩
    refine r_last 21 C dX9_putOneBy_21 1 rfl (vinI (by omega) (by omega)) f4 ef4 [(h0, .inr (8, [.ref h2, .ref h3, .ref h4, .int x0, .int x1, .long y1, .int x2, .int x3, .int x4, .int x5, .ref h5, .ref h6, .ref h7, .int x6, .int x7, .ref h8, .ref h9, .int x8, .ref h1, .int x9])), (h1, .inl (gJ g, 24, .inr (.inl f4)))] rfl ?_
    refine r_aload_n 22 0 C dX9_putOneBy_22 rfl ?_
    refine r_dup 23 C dX9_putOneBy_23 rfl ?_
    refine r_get 24 C dX9_putOneBy_24 (k := 19) 0 rfl rfl hiX9 (by decide) rfl (mg 1 rfl) (Or.inl rfl) rfl ?_
    refine r_iconst 27 1 C dX9_putOneBy_27 (by decide) ?_
    obtain ⟨z5, ez5⟩ : ∃ z_9, x9 + 1 = z_9 := ⟨_, rfl⟩
    have tz5 : (Int32.toInt z5) = (Int32.toInt x9) + 1 := by rw [← ez5]; exact fb_addIv (a := 0) (b := 24) (c := 1) (d := 1) i_x9 ⟨by decide, by decide⟩ (by decide) (by decide)
    refine r_iadd 28 z5 C dX9_putOneBy_28 ez5 ?_
    refine r_put 29 C dX9_putOneBy_29 (k := 19) 0 rfl rfl hiX9 tyX9 tyX9_ok nmX9 (by decide) rfl (mg 1 rfl) (Or.inl rfl) rfl rfl rfl rfl (Nat.le_of_ble_eq_true rfl) [(h0, .inr (8, [.ref h2, .ref h3, .ref h4, .int x0, .int x1, .long y1, .int x2, .int x3, .int x4, .int x5, .ref h5, .ref h6, .ref h7, .int x6, .int x7, .ref h8, .ref h9, .int x8, .ref h1, .int z5])), (h1, .inl (gJ g, 24, .inr (.inl f4)))] rfl ?_
    exact r_vret 32 Rt dX9_putOneBy_32 (z5, f4) (show 0 ≤ (Int32.toInt z5) ∧ (Int32.toInt z5) ≤ 24 from ⟨(by ((repeat' apply And.intro) <;> first | trivial | rfl | assumption | omega | decide | exact Or.inl rfl | exact Or.inr (Or.inl rfl) | exact Or.inr (Or.inr rfl))), (by ((repeat' apply And.intro) <;> first | trivial | rfl | assumption | omega | decide | exact Or.inl rfl | exact Or.inr (Or.inl rfl) | exact Or.inr (Or.inr rfl)))⟩) [0, 1] (by decide) rfl (Nat.le_of_ble_eq_true rfl) (Nat.le_of_ble_eq_true rfl)
set_option maxHeartbeats 4000000 in
set_option maxRecDepth 100000 in
theorem c241_X9_putAllBy (l : Launch) (g : GD) (h0 : Nat) (h1 : Nat) (h2 : Nat) (h3 : Nat) (x0 : Int32) (h4 : Nat) (h5 : Nat) (x1 : Int32) (x2 : Int32) (y0 : Int64) (x3 : Int32) (x4 : Int32) (x5 : Int32) (x6 : Int32) (h6 : Nat) (h7 : Nat) (h8 : Nat) (x7 : Int32) (x8 : Int32) (h9 : Nat) (h10 : Nat) (x9 : Int32) (x10 : Int32) (h11 : Nat) (x11 : Int32) (x12 : Int32) (fm0 : Nat → Int64) (fm1 : Nat → Int64) (i_x6 : (0 ≤ (Int32.toInt x6) ∧ (Int32.toInt x6) ≤ 1)) (i_x7 : (0 ≤ (Int32.toInt x7) ∧ (Int32.toInt x7) ≤ 10)) (i_x8 : (0 ≤ (Int32.toInt x8) ∧ (Int32.toInt x8) ≤ 1)) (i_x9 : (0 ≤ (Int32.toInt x9) ∧ (Int32.toInt x9) ≤ 7)) (i_x10 : (0 ≤ (Int32.toInt x10) ∧ (Int32.toInt x10) ≤ 24)) (i_x11 : (0 ≤ (Int32.toInt x11) ∧ (Int32.toInt x11) ≤ 48)) (i_x12 : (0 ≤ (Int32.toInt x12) ∧ (Int32.toInt x12) ≤ 48)) (sz : Nat) : Met l yX9_putAllBy wsX9_putAllBy ({ frames := 2, cells := 0, slots := 0, locals := 42 }) (va_Pc [.ref h0, .int x0] (PW g [(h0, .inr (8, [.ref h1, .ref h4, .ref h5, .int x1, .int x2, .long y0, .int x3, .int x4, .int x5, .int x6, .ref h6, .ref h7, .ref h8, .int x7, .int x8, .ref h9, .ref h10, .int x9, .ref h2, .int x10])), (h1, .inr (6, [.ref h3, .ref h11, .int x11, .int x12])), (h2, .inl (gJ g, 24, .inr (.inl fm0))), (h3, .inl (gJ g, 48, .inr (.inl fm1)))] sz)) (va_Qv (fun (u : (Int32) × (Nat → Int64)) => 0 ≤ (Int32.toInt (u.1)) ∧ (Int32.toInt (u.1)) ≤ 24) (BW g (va_A [(h0, .inr (8, [.ref h1, .ref h4, .ref h5, .int x1, .int x2, .long y0, .int x3, .int x4, .int x5, .int x6, .ref h6, .ref h7, .ref h8, .int x7, .int x8, .ref h9, .ref h10, .int x9, .ref h2, .int x10])), (h1, .inr (6, [.ref h3, .ref h11, .int x11, .int x12])), (h2, .inl (gJ g, 24, .inr (.inl fm0))), (h3, .inl (gJ g, 48, .inr (.inl fm1)))] sz) (fun u : (Int32) × (Nat → Int64) => [(h0, .inr (8, [.ref h1, .ref h4, .ref h5, .int x1, .int x2, .long y0, .int x3, .int x4, .int x5, .int x6, .ref h6, .ref h7, .ref h8, .int x7, .int x8, .ref h9, .ref h10, .int x9, .ref h2, .int u.1])), (h1, .inr (6, [.ref h3, .ref h11, .int x11, .int x12])), (h2, .inl (gJ g, 24, .inr (.inl u.2))), (h3, .inl (gJ g, 48, .inr (.inl fm1)))])) (va_A [(h0, .inr (8, [.ref h1, .ref h4, .ref h5, .int x1, .int x2, .long y0, .int x3, .int x4, .int x5, .int x6, .ref h6, .ref h7, .ref h8, .int x7, .int x8, .ref h9, .ref h10, .int x9, .ref h2, .int x10])), (h1, .inr (6, [.ref h3, .ref h11, .int x11, .int x12])), (h2, .inl (gJ g, 24, .inr (.inl fm0))), (h3, .inl (gJ g, 48, .inr (.inl fm1)))] sz)) 0 0 (va_A [(h0, .inr (8, [.ref h1, .ref h4, .ref h5, .int x1, .int x2, .long y0, .int x3, .int x4, .int x5, .int x6, .ref h6, .ref h7, .ref h8, .int x7, .int x8, .ref h9, .ref h10, .int x9, .ref h2, .int x10])), (h1, .inr (6, [.ref h3, .ref h11, .int x11, .int x12])), (h2, .inl (gJ g, 24, .inr (.inl fm0))), (h3, .inl (gJ g, 48, .inr (.inl fm1)))] sz) := by
  refine met_v RX9 (by decide) rfl rfl (Nat.le_of_ble_eq_true rfl) [(0, .ref h0), (1, .int x0)] rfl ?_
  intro p e s m args below meth c A Q C hnm Rt
  have hiX9 : ∀ w ∈ wsX90, w ∈ wsX9_putAllBy := fun w h => List.mem_cons_of_mem _ (List.mem_append_left _ (List.mem_append_right _ (h)))
  refine r_iload_n 0 1 C dX9_putAllBy_0 rfl ?_
  refine r_iconst 1 1 C dX9_putAllBy_1 (by decide) ?_
  obtain ⟨z1, ez1⟩ : ∃ z_9, x0 - 1 = z_9 := ⟨_, rfl⟩
  have gz1 := fb_rng z1
  refine r_isub 2 z1 C dX9_putAllBy_2 ez1 ?_
  refine r_istore_n 3 C dX9_putAllBy_3 [(2, .int z1), (0, .ref h0), (1, .int x0)] (by decide) rfl ?_
  have lp6 : ∀ (n5 : Nat) (z2 : Int32) (z3 : Int32) (f4 : Nat → Int64), (0 ≤ (Int32.toInt z3) ∧ (Int32.toInt z3) ≤ 24) → Int.toNat ((Int32.toInt z2) - (-2147483648)) < n5 → WW p l e ({ frames := 2, cells := 0, slots := 0, locals := 42 } : Room) s m args below meth c A Q g 3 0 0 [(h0, .inr (8, [.ref h1, .ref h4, .ref h5, .int x1, .int x2, .long y0, .int x3, .int x4, .int x5, .int x6, .ref h6, .ref h7, .ref h8, .int x7, .int x8, .ref h9, .ref h10, .int x9, .ref h2, .int z3])), (h1, .inr (6, [.ref h3, .ref h11, .int x11, .int x12])), (h2, .inl (gJ g, 24, .inr (.inl f4))), (h3, .inl (gJ g, 48, .inr (.inl fm1)))] 4 [(2, .int z2), (0, .ref h0), (1, .int x0)] [] := by
    intro n5
    induction n5 with
    | zero => intro z2 z3 f4 i9 hm8; exact absurd hm8 (Nat.not_lt_zero _)
    | succ n5 ih7 =>
      intro z2 z3 f4 i9 hm8
      obtain ⟨i9a, i9b⟩ := i9
      have gz2 := fb_rng z2
      refine r_iload_n 4 0 C dX9_putAllBy_4 rfl ?_
      refine r_if_lt 5 26 C dX9_putAllBy_5 (by decide) (fun c10 => ?_) (fun c10 => ?_)
      · skip
        have k11 : (Int32.toInt z2) < 0 := (fa_lt z2 0).mp c10
        exact r_vret 26 Rt dX9_putAllBy_26 (z3, f4) (show 0 ≤ (Int32.toInt z3) ∧ (Int32.toInt z3) ≤ 24 from ⟨(show _ ∧ _ from ⟨i9a, i9b⟩).1, (show _ ∧ _ from ⟨i9a, i9b⟩).2⟩) [0, 1, 2, 3] (by decide) rfl (Nat.le_of_ble_eq_true rfl) (Nat.le_of_ble_eq_true rfl)
      · skip
        have k12 : ¬ ((Int32.toInt z2) < 0) := fun h_9 => c10 ((fa_lt z2 0).mpr h_9)
        refine r_aload_n 8 1 C dX9_putAllBy_8 rfl ?_
        refine r_aload_n 9 1 C dX9_putAllBy_9 rfl ?_
        refine r_get 10 C dX9_putAllBy_10 (k := 0) 0 rfl rfl hiX9 (by decide) rfl (mg 1 rfl) (Or.inr (mg 2 rfl)) rfl ?_
        refine r_iload_n 13 0 C dX9_putAllBy_13 rfl ?_
        refine r_callVl 14 C dX9_putAllBy_14 [.ref h0] [(h1, .inr (6, [.ref h3, .ref h11, .int x11, .int x12])), (h3, .inl (gJ g, 48, .inr (.inl fm1)))] [(h0, .inr (8, [.ref h1, .ref h4, .ref h5, .int x1, .int x2, .long y0, .int x3, .int x4, .int x5, .int x6, .ref h6, .ref h7, .ref h8, .int x7, .int x8, .ref h9, .ref h10, .int x9, .ref h2, .int z3])), (h2, .inl (gJ g, 24, .inr (.inl f4)))] (fun sz => c233_X7_below l g h1 h3 z2 h11 x11 x12 fm1 i_x11 i_x12 sz) gX9_putAllBy_X7_below rfl ⟨rfl, rfl⟩ 1 (by decide) ⟨Nat.le_of_ble_eq_true rfl, Nat.le_of_ble_eq_true rfl⟩ 1 rfl rfl [1, 3] [0, 2] rfl rfl (by decide) (by decide) (by decide) rfl rfl (Nat.le_of_ble_eq_true rfl) ⟨Nat.le_of_ble_eq_true rfl, Nat.le_of_ble_eq_true rfl⟩ (fun r13 _ w14 => ?_)
        refine r_ws [(h0, .inr (8, [.ref h1, .ref h4, .ref h5, .int x1, .int x2, .long y0, .int x3, .int x4, .int x5, .int x6, .ref h6, .ref h7, .ref h8, .int x7, .int x8, .ref h9, .ref h10, .int x9, .ref h2, .int z3])), (h2, .inl (gJ g, 24, .inr (.inl f4))), (h1, .inr (6, [.ref h3, .ref h11, .int x11, .int x12])), (h3, .inl (gJ g, 48, .inr (.inl fm1)))] rfl ?_
        have gr13 := fb_rngL r13
        refine r_callVv 17 C dX9_putAllBy_17 [] [(h0, .inr (8, [.ref h1, .ref h4, .ref h5, .int x1, .int x2, .long y0, .int x3, .int x4, .int x5, .int x6, .ref h6, .ref h7, .ref h8, .int x7, .int x8, .ref h9, .ref h10, .int x9, .ref h2, .int z3])), (h2, .inl (gJ g, 24, .inr (.inl f4)))] [(h1, .inr (6, [.ref h3, .ref h11, .int x11, .int x12])), (h3, .inl (gJ g, 48, .inr (.inl fm1)))] (fun sz => c240_X9_putOneBy l g h0 h2 r13 h1 h4 h5 x1 x2 y0 x3 x4 x5 x6 h6 h7 h8 x7 x8 h9 h10 x9 z3 f4 i_x6 i_x7 i_x8 i_x9 ⟨i9a, i9b⟩ sz) gX9_putAllBy_X9_putOneBy rfl ⟨rfl, rfl⟩ 1 (by decide) ⟨Nat.le_of_ble_eq_true rfl, Nat.le_of_ble_eq_true rfl⟩ 0 rfl rfl [0, 1] [2, 3] rfl rfl (by decide) (by decide) (by decide) rfl rfl (Nat.le_of_ble_eq_true rfl) ⟨Nat.le_of_ble_eq_true rfl, Nat.le_of_ble_eq_true rfl⟩ (fun  u18 w17 => ?_)
        obtain ⟨z15, f16⟩ := u18
        refine r_ws [(h1, .inr (6, [.ref h3, .ref h11, .int x11, .int x12])), (h3, .inl (gJ g, 48, .inr (.inl fm1))), (h0, .inr (8, [.ref h1, .ref h4, .ref h5, .int x1, .int x2, .long y0, .int x3, .int x4, .int x5, .int x6, .ref h6, .ref h7, .ref h8, .int x7, .int x8, .ref h9, .ref h10, .int x9, .ref h2, .int z15])), (h2, .inl (gJ g, 24, .inr (.inl f16)))] rfl ?_
        have p19 : 0 ≤ (Int32.toInt z15) := w17.1
        have p20 : (Int32.toInt z15) ≤ 24 := w17.2
        obtain ⟨z21, ez21⟩ : ∃ z_9, z2 + Int32.ofInt (-1) = z_9 := ⟨_, rfl⟩
        have tz21 : (Int32.toInt z21) = (Int32.toInt z2) + (-1) := by rw [← ez21]; exact fb_addI (by show -2147483648 ≤ (Int32.toInt z2) + (-1); omega) (by show (Int32.toInt z2) + (-1) < 2147483648; omega)
        refine r_iinc 20 0 z21 C dX9_putAllBy_20 rfl ez21 [(2, .int z21), (0, .ref h0), (1, .int x0)] (by decide) rfl ?_
        refine r_goto 23 4 C dX9_putAllBy_23 (by decide) ?_
        refine r_pick [(h0, .inr (8, [.ref h1, .ref h4, .ref h5, .int x1, .int x2, .long y0, .int x3, .int x4, .int x5, .int x6, .ref h6, .ref h7, .ref h8, .int x7, .int x8, .ref h9, .ref h10, .int x9, .ref h2, .int z15])), (h1, .inr (6, [.ref h3, .ref h11, .int x11, .int x12])), (h2, .inl (gJ g, 24, .inr (.inl f16))), (h3, .inl (gJ g, 48, .inr (.inl fm1)))] [2, 0, 3, 1] (by decide) rfl ?_
        exact ih7 z21 z15 f16 ⟨p19, p20⟩ (by omega)
  exact lp6 _ z1 x10 fm0 i_x10 (Nat.lt_succ_self _)
set_option maxHeartbeats 4000000 in
set_option maxRecDepth 100000 in
theorem c242_X9_takenBy (l : Launch) (g : GD) (x0 : Int32) (sz : Nat) : Met l yX9_takenBy wsX9_takenBy ({ frames := 0, cells := 0, slots := 0, locals := 0 }) (va_Pc [.int x0] (PW g [] sz)) (va_Qi (fun (r : Int32) (_ : Unit) => 0 ≤ (Int32.toInt r) ∧ (Int32.toInt r) ≤ 3) (BW g (va_A [] sz) (fun _ : Unit => [])) (va_A [] sz)) 0 0 (va_A [] sz) := by
  refine met_i RX9 (by decide) rfl rfl (Nat.le_of_ble_eq_true rfl) [(0, .int x0)] rfl ?_
  intro p e s m args below meth c A Q C hnm Rt
  have gx0 := fb_rng x0
  refine r_iload_n 0 0 C dX9_takenBy_0 rfl ?_
  by_cases c1 : x0 = 0
  · skip
    have k2 : (Int32.toInt x0) = 0 := (fa_eq x0 0).mp c1
    refine r_lookup 1 28 (off := 27) C dX9_takenBy_1 (by decide) (by rw [c1]; decide) (by decide) ?_
    refine r_iconst 28 3 C dX9_takenBy_28 (by decide) ?_
    exact r_iret 29 Rt dX9_takenBy_29 () (show 0 ≤ (Int32.toInt 3) ∧ (Int32.toInt 3) ≤ 3 from ⟨(by ((repeat' apply And.intro) <;> first | trivial | rfl | assumption | omega | decide | exact Or.inl rfl | exact Or.inr (Or.inl rfl) | exact Or.inr (Or.inr rfl))), (by ((repeat' apply And.intro) <;> first | trivial | rfl | assumption | omega | decide | exact Or.inl rfl | exact Or.inr (Or.inl rfl) | exact Or.inr (Or.inr rfl)))⟩) [] (by decide) rfl (Nat.le_of_ble_eq_true rfl) (Nat.le_of_ble_eq_true rfl)
  · skip
    have k3 : ¬ ((Int32.toInt x0) = 0) := fun h_9 => c1 ((fa_eq x0 0).mpr h_9)
    by_cases c4 : x0 = 3
    · skip
      have k5 : (Int32.toInt x0) = 3 := (fa_eq x0 3).mp c4
      refine r_lookup 1 30 (off := 29) C dX9_takenBy_1 (by decide) (by rw [c4]; decide) (by decide) ?_
      refine r_iconst 30 1 C dX9_takenBy_30 (by decide) ?_
      exact r_iret 31 Rt dX9_takenBy_31 () (show 0 ≤ (Int32.toInt 1) ∧ (Int32.toInt 1) ≤ 3 from ⟨(by ((repeat' apply And.intro) <;> first | trivial | rfl | assumption | omega | decide | exact Or.inl rfl | exact Or.inr (Or.inl rfl) | exact Or.inr (Or.inr rfl))), (by ((repeat' apply And.intro) <;> first | trivial | rfl | assumption | omega | decide | exact Or.inl rfl | exact Or.inr (Or.inl rfl) | exact Or.inr (Or.inr rfl)))⟩) [] (by decide) rfl (Nat.le_of_ble_eq_true rfl) (Nat.le_of_ble_eq_true rfl)
    · skip
      have k6 : ¬ ((Int32.toInt x0) = 3) := fun h_9 => c4 ((fa_eq x0 3).mpr h_9)
      refine r_lookup 1 32 (off := 31) C dX9_takenBy_1 (by decide) ((lv_osw c1 rfl).trans ((lv_osw c4 rfl).trans rfl)) (by decide) ?_
      refine r_iconst 32 0 C dX9_takenBy_32 (by decide) ?_
      exact r_iret 33 Rt dX9_takenBy_33 () (show 0 ≤ (Int32.toInt 0) ∧ (Int32.toInt 0) ≤ 3 from ⟨(by ((repeat' apply And.intro) <;> first | trivial | rfl | assumption | omega | decide | exact Or.inl rfl | exact Or.inr (Or.inl rfl) | exact Or.inr (Or.inr rfl))), (by ((repeat' apply And.intro) <;> first | trivial | rfl | assumption | omega | decide | exact Or.inl rfl | exact Or.inr (Or.inl rfl) | exact Or.inr (Or.inr rfl)))⟩) [] (by decide) rfl (Nat.le_of_ble_eq_true rfl) (Nat.le_of_ble_eq_true rfl)
set_option maxHeartbeats 4000000 in
set_option maxRecDepth 100000 in
theorem c243_X9_keepPoint (l : Launch) (g : GD) (h0 : Nat) (h1 : Nat) (h2 : Nat) (h3 : Nat) (h4 : Nat) (h5 : Nat) (x0 : Int32) (x1 : Int32) (y0 : Int64) (x2 : Int32) (x3 : Int32) (x4 : Int32) (x5 : Int32) (h6 : Nat) (h7 : Nat) (h8 : Nat) (x6 : Int32) (x7 : Int32) (x8 : Int32) (h9 : Nat) (x9 : Int32) (h10 : Nat) (h11 : Nat) (x10 : Int32) (x11 : Int32) (y1 : Int64) (y2 : Int64) (x12 : Int32) (fm0 : Nat → Int64) (fm1 : Nat → Int64) (i_x5 : (0 ≤ (Int32.toInt x5) ∧ (Int32.toInt x5) ≤ 1)) (i_x6 : (0 ≤ (Int32.toInt x6) ∧ (Int32.toInt x6) ≤ 10)) (i_x7 : (0 ≤ (Int32.toInt x7) ∧ (Int32.toInt x7) ≤ 1)) (i_x8 : (0 ≤ (Int32.toInt x8) ∧ (Int32.toInt x8) ≤ 7)) (i_x9 : (0 ≤ (Int32.toInt x9) ∧ (Int32.toInt x9) ≤ 24)) (i_x10 : (0 ≤ (Int32.toInt x10) ∧ (Int32.toInt x10) ≤ 400)) (i_x11 : (0 ≤ (Int32.toInt x11) ∧ (Int32.toInt x11) ≤ 400)) (i_x12 : (0 ≤ (Int32.toInt x12) ∧ (Int32.toInt x12) ≤ 1)) (sz : Nat) : Met l yX9_keepPoint wsX9_keepPoint ({ frames := 0, cells := 0, slots := 0, locals := 0 }) (va_Pc [.ref h0] (PW g [(h0, .inr (8, [.ref h4, .ref h1, .ref h5, .int x0, .int x1, .long y0, .int x2, .int x3, .int x4, .int x5, .ref h6, .ref h7, .ref h8, .int x6, .int x7, .ref h2, .ref h3, .int x8, .ref h9, .int x9])), (h1, .inr (5, [.ref h10, .ref h11, .int x10, .int x11, .long y1, .long y2, .int x12])), (h2, .inl (gJ g, 7, .inr (.inl fm0))), (h3, .inl (gJ g, 7, .inr (.inl fm1)))] sz)) (va_Qi (fun (r : Int32) (u : (Int32) × (Nat → Int64) × (Nat → Int64)) => 0 ≤ (Int32.toInt r) ∧ (Int32.toInt r) ≤ 9 ∧ 0 ≤ (Int32.toInt (u.1)) ∧ (Int32.toInt (u.1)) ≤ 7) (BW g (va_A [(h0, .inr (8, [.ref h4, .ref h1, .ref h5, .int x0, .int x1, .long y0, .int x2, .int x3, .int x4, .int x5, .ref h6, .ref h7, .ref h8, .int x6, .int x7, .ref h2, .ref h3, .int x8, .ref h9, .int x9])), (h1, .inr (5, [.ref h10, .ref h11, .int x10, .int x11, .long y1, .long y2, .int x12])), (h2, .inl (gJ g, 7, .inr (.inl fm0))), (h3, .inl (gJ g, 7, .inr (.inl fm1)))] sz) (fun u : (Int32) × (Nat → Int64) × (Nat → Int64) => [(h0, .inr (8, [.ref h4, .ref h1, .ref h5, .int x0, .int x1, .long y0, .int x2, .int x3, .int x4, .int x5, .ref h6, .ref h7, .ref h8, .int x6, .int x7, .ref h2, .ref h3, .int u.1, .ref h9, .int x9])), (h1, .inr (5, [.ref h10, .ref h11, .int x10, .int x11, .long y1, .long y2, .int x12])), (h2, .inl (gJ g, 7, .inr (.inl u.2.1))), (h3, .inl (gJ g, 7, .inr (.inl u.2.2)))])) (va_A [(h0, .inr (8, [.ref h4, .ref h1, .ref h5, .int x0, .int x1, .long y0, .int x2, .int x3, .int x4, .int x5, .ref h6, .ref h7, .ref h8, .int x6, .int x7, .ref h2, .ref h3, .int x8, .ref h9, .int x9])), (h1, .inr (5, [.ref h10, .ref h11, .int x10, .int x11, .long y1, .long y2, .int x12])), (h2, .inl (gJ g, 7, .inr (.inl fm0))), (h3, .inl (gJ g, 7, .inr (.inl fm1)))] sz)) 0 0 (va_A [(h0, .inr (8, [.ref h4, .ref h1, .ref h5, .int x0, .int x1, .long y0, .int x2, .int x3, .int x4, .int x5, .ref h6, .ref h7, .ref h8, .int x6, .int x7, .ref h2, .ref h3, .int x8, .ref h9, .int x9])), (h1, .inr (5, [.ref h10, .ref h11, .int x10, .int x11, .long y1, .long y2, .int x12])), (h2, .inl (gJ g, 7, .inr (.inl fm0))), (h3, .inl (gJ g, 7, .inr (.inl fm1)))] sz) := by
  refine met_i RX9 (by decide) rfl rfl (Nat.le_of_ble_eq_true rfl) [(0, .ref h0)] rfl ?_
  intro p e s m args below meth c A Q C hnm Rt
  have hiX9 : ∀ w ∈ wsX90, w ∈ wsX9_keepPoint := fun w h => List.mem_cons_of_mem _ (List.mem_append_left _ (List.mem_append_left _ (List.mem_append_right _ (h))))
  have hiX6 : ∀ w ∈ wsX60, w ∈ wsX9_keepPoint := fun w h => List.mem_cons_of_mem _ (List.mem_append_right _ (h))
  refine r_aload_n 0 0 C dX9_keepPoint_0 rfl ?_
  refine r_get 1 C dX9_keepPoint_1 (k := 14) 0 rfl rfl hiX9 (by decide) rfl (mg 1 rfl) (Or.inl rfl) rfl ?_
  refine r_if_eq 4 16 C dX9_keepPoint_4 (by decide) (fun c1 => ?_) (fun c1 => ?_)
  · skip
    have k2 : (Int32.toInt x7) = 0 := (fa_eq x7 0).mp c1
    refine r_bipush 16 9 C dX9_keepPoint_16 (by decide) ?_
    exact r_iret 18 Rt dX9_keepPoint_18 (x8, fm0, fm1) (show 0 ≤ (Int32.toInt 9) ∧ (Int32.toInt 9) ≤ 9 ∧ 0 ≤ (Int32.toInt x8) ∧ (Int32.toInt x8) ≤ 7 from ⟨(by ((repeat' apply And.intro) <;> first | trivial | rfl | assumption | omega | decide | exact Or.inl rfl | exact Or.inr (Or.inl rfl) | exact Or.inr (Or.inr rfl))), (by ((repeat' apply And.intro) <;> first | trivial | rfl | assumption | omega | decide | exact Or.inl rfl | exact Or.inr (Or.inl rfl) | exact Or.inr (Or.inr rfl))), i_x8.1, i_x8.2⟩) [0, 1, 2, 3] (by decide) rfl (Nat.le_of_ble_eq_true rfl) (Nat.le_of_ble_eq_true rfl)
  · skip
    have k3 : ¬ ((Int32.toInt x7) = 0) := fun h_9 => c1 ((fa_eq x7 0).mpr h_9)
    refine r_aload_n 7 0 C dX9_keepPoint_7 rfl ?_
    refine r_get 8 C dX9_keepPoint_8 (k := 17) 0 rfl rfl hiX9 (by decide) rfl (mg 2 rfl) (Or.inl rfl) rfl ?_
    refine r_bipush 11 7 C dX9_keepPoint_11 (by decide) ?_
    refine r_icmp_lt 13 19 C dX9_keepPoint_13 (by decide) (fun c4 => ?_) (fun c4 => ?_)
    · skip
      have k5 : (Int32.toInt x8) < 7 := (fa_lt x8 7).mp c4
      refine r_aload_n 19 0 C dX9_keepPoint_19 rfl ?_
      refine r_get 20 C dX9_keepPoint_20 (k := 15) 0 rfl rfl hiX9 (by decide) rfl (mg 3 rfl) (Or.inl rfl) rfl ?_
      refine r_aload_n 23 0 C dX9_keepPoint_23 rfl ?_
      refine r_get 24 C dX9_keepPoint_24 (k := 17) 0 rfl rfl hiX9 (by decide) rfl (mg 2 rfl) (Or.inl rfl) rfl ?_
      refine r_aload_n 27 0 C dX9_keepPoint_27 rfl ?_
      refine r_get 28 C dX9_keepPoint_28 (k := 1) 0 rfl rfl hiX9 (by decide) rfl (mg 4 rfl) (Or.inr (mg 5 rfl)) rfl ?_
      refine r_getN 31 C dX9_keepPoint_31 (k := 4) 1 rfl rfl hiX6 (by decide) rfl (mg 19 rfl) rfl rfl ?_
      obtain ⟨f6, ef6⟩ : ∃ f_9, vp_updL fm0 (Int32.toNatClampNeg x8) y1 = f_9 := ⟨_, rfl⟩
      refine r_last 34 C dX9_keepPoint_34 2 rfl (vinI (by omega) (by omega)) f6 ef6 [(h0, .inr (8, [.ref h4, .ref h1, .ref h5, .int x0, .int x1, .long y0, .int x2, .int x3, .int x4, .int x5, .ref h6, .ref h7, .ref h8, .int x6, .int x7, .ref h2, .ref h3, .int x8, .ref h9, .int x9])), (h1, .inr (5, [.ref h10, .ref h11, .int x10, .int x11, .long y1, .long y2, .int x12])), (h2, .inl (gJ g, 7, .inr (.inl f6))), (h3, .inl (gJ g, 7, .inr (.inl fm1)))] rfl ?_
      refine r_aload_n 35 0 C dX9_keepPoint_35 rfl ?_
      refine r_get 36 C dX9_keepPoint_36 (k := 16) 0 rfl rfl hiX9 (by decide) rfl (mg 6 rfl) (Or.inl rfl) rfl ?_
      refine r_aload_n 39 0 C dX9_keepPoint_39 rfl ?_
      refine r_get 40 C dX9_keepPoint_40 (k := 17) 0 rfl rfl hiX9 (by decide) rfl (mg 2 rfl) (Or.inl rfl) rfl ?_
      refine r_aload_n 43 0 C dX9_keepPoint_43 rfl ?_
      refine r_get 44 C dX9_keepPoint_44 (k := 1) 0 rfl rfl hiX9 (by decide) rfl (mg 4 rfl) (Or.inr (mg 5 rfl)) rfl ?_
      refine r_getN 47 C dX9_keepPoint_47 (k := 5) 1 rfl rfl hiX6 (by decide) rfl (mg 20 rfl) rfl rfl ?_
      obtain ⟨f7, ef7⟩ : ∃ f_9, vp_updL fm1 (Int32.toNatClampNeg x8) y2 = f_9 := ⟨_, rfl⟩
      refine r_last 50 C dX9_keepPoint_50 3 rfl (vinI (by omega) (by omega)) f7 ef7 [(h0, .inr (8, [.ref h4, .ref h1, .ref h5, .int x0, .int x1, .long y0, .int x2, .int x3, .int x4, .int x5, .ref h6, .ref h7, .ref h8, .int x6, .int x7, .ref h2, .ref h3, .int x8, .ref h9, .int x9])), (h1, .inr (5, [.ref h10, .ref h11, .int x10, .int x11, .long y1, .long y2, .int x12])), (h2, .inl (gJ g, 7, .inr (.inl f6))), (h3, .inl (gJ g, 7, .inr (.inl f7)))] rfl ?_
      refine r_aload_n 51 0 C dX9_keepPoint_51 rfl ?_
      refine r_dup 52 C dX9_keepPoint_52 rfl ?_
      refine r_get 53 C dX9_keepPoint_53 (k := 17) 0 rfl rfl hiX9 (by decide) rfl (mg 2 rfl) (Or.inl rfl) rfl ?_
      refine r_iconst 56 1 C dX9_keepPoint_56 (by decide) ?_
      obtain ⟨z8, ez8⟩ : ∃ z_9, x8 + 1 = z_9 := ⟨_, rfl⟩
      have tz8 : (Int32.toInt z8) = (Int32.toInt x8) + 1 := by rw [← ez8]; exact fb_addIv (a := 0) (b := 7) (c := 1) (d := 1) i_x8 ⟨by decide, by decide⟩ (by decide) (by decide)
      refine r_iadd 57 z8 C dX9_keepPoint_57 ez8 ?_
      refine r_put 58 C dX9_keepPoint_58 (k := 17) 0 rfl rfl hiX9 tyX9 tyX9_ok nmX9 (by decide) rfl (mg 2 rfl) (Or.inl rfl) rfl rfl rfl rfl (Nat.le_of_ble_eq_true rfl) [(h0, .inr (8, [.ref h4, .ref h1, .ref h5, .int x0, .int x1, .long y0, .int x2, .int x3, .int x4, .int x5, .ref h6, .ref h7, .ref h8, .int x6, .int x7, .ref h2, .ref h3, .int z8, .ref h9, .int x9])), (h1, .inr (5, [.ref h10, .ref h11, .int x10, .int x11, .long y1, .long y2, .int x12])), (h2, .inl (gJ g, 7, .inr (.inl f6))), (h3, .inl (gJ g, 7, .inr (.inl f7)))] rfl ?_
      refine r_iconst 61 0 C dX9_keepPoint_61 (by decide) ?_
      exact r_iret 62 Rt dX9_keepPoint_62 (z8, f6, f7) (show 0 ≤ (Int32.toInt 0) ∧ (Int32.toInt 0) ≤ 9 ∧ 0 ≤ (Int32.toInt z8) ∧ (Int32.toInt z8) ≤ 7 from ⟨(by ((repeat' apply And.intro) <;> first | trivial | rfl | assumption | omega | decide | exact Or.inl rfl | exact Or.inr (Or.inl rfl) | exact Or.inr (Or.inr rfl))), (by ((repeat' apply And.intro) <;> first | trivial | rfl | assumption | omega | decide | exact Or.inl rfl | exact Or.inr (Or.inl rfl) | exact Or.inr (Or.inr rfl))), (by ((repeat' apply And.intro) <;> first | trivial | rfl | assumption | omega | decide | exact Or.inl rfl | exact Or.inr (Or.inl rfl) | exact Or.inr (Or.inr rfl))), (by ((repeat' apply And.intro) <;> first | trivial | rfl | assumption | omega | decide | exact Or.inl rfl | exact Or.inr (Or.inl rfl) | exact Or.inr (Or.inr rfl)))⟩) [0, 1, 2, 3] (by decide) rfl (Nat.le_of_ble_eq_true rfl) (Nat.le_of_ble_eq_true rfl)
    · skip
      have k9 : ¬ ((Int32.toInt x8) < 7) := fun h_9 => c4 ((fa_lt x8 7).mpr h_9)
      refine r_bipush 16 9 C dX9_keepPoint_16 (by decide) ?_
      exact r_iret 18 Rt dX9_keepPoint_18 (x8, fm0, fm1) (show 0 ≤ (Int32.toInt 9) ∧ (Int32.toInt 9) ≤ 9 ∧ 0 ≤ (Int32.toInt x8) ∧ (Int32.toInt x8) ≤ 7 from ⟨(by ((repeat' apply And.intro) <;> first | trivial | rfl | assumption | omega | decide | exact Or.inl rfl | exact Or.inr (Or.inl rfl) | exact Or.inr (Or.inr rfl))), (by ((repeat' apply And.intro) <;> first | trivial | rfl | assumption | omega | decide | exact Or.inl rfl | exact Or.inr (Or.inl rfl) | exact Or.inr (Or.inr rfl))), i_x8.1, i_x8.2⟩) [0, 1, 2, 3] (by decide) rfl (Nat.le_of_ble_eq_true rfl) (Nat.le_of_ble_eq_true rfl)
set_option maxHeartbeats 4000000 in
set_option maxRecDepth 100000 in
theorem c244_X9_beginFlex (l : Launch) (g : GD) (h0 : Nat) (h1 : Nat) (h2 : Nat) (h3 : Nat) (x0 : Int32) (x1 : Int32) (y0 : Int64) (x2 : Int32) (x3 : Int32) (x4 : Int32) (x5 : Int32) (h4 : Nat) (h5 : Nat) (h6 : Nat) (x6 : Int32) (x7 : Int32) (h7 : Nat) (h8 : Nat) (x8 : Int32) (h9 : Nat) (x9 : Int32) (i_x5 : (0 ≤ (Int32.toInt x5) ∧ (Int32.toInt x5) ≤ 1)) (i_x6 : (0 ≤ (Int32.toInt x6) ∧ (Int32.toInt x6) ≤ 10)) (i_x7 : (0 ≤ (Int32.toInt x7) ∧ (Int32.toInt x7) ≤ 1)) (i_x8 : (0 ≤ (Int32.toInt x8) ∧ (Int32.toInt x8) ≤ 7)) (i_x9 : (0 ≤ (Int32.toInt x9) ∧ (Int32.toInt x9) ≤ 24)) (sz : Nat) : Met l yX9_beginFlex wsX9_beginFlex ({ frames := 0, cells := 0, slots := 0, locals := 0 }) (va_Pc [.ref h0] (PW g [(h0, .inr (8, [.ref h1, .ref h2, .ref h3, .int x0, .int x1, .long y0, .int x2, .int x3, .int x4, .int x5, .ref h4, .ref h5, .ref h6, .int x6, .int x7, .ref h7, .ref h8, .int x8, .ref h9, .int x9]))] sz)) (va_Qv (fun (_ : Unit) => True) (BW g (va_A [(h0, .inr (8, [.ref h1, .ref h2, .ref h3, .int x0, .int x1, .long y0, .int x2, .int x3, .int x4, .int x5, .ref h4, .ref h5, .ref h6, .int x6, .int x7, .ref h7, .ref h8, .int x8, .ref h9, .int x9]))] sz) (fun _ : Unit => [(h0, .inr (8, [.ref h1, .ref h2, .ref h3, .int x0, .int x1, .long y0, .int x2, .int x3, .int x4, .int x5, .ref h4, .ref h5, .ref h6, .int x6, .int 1, .ref h7, .ref h8, .int 0, .ref h9, .int x9]))])) (va_A [(h0, .inr (8, [.ref h1, .ref h2, .ref h3, .int x0, .int x1, .long y0, .int x2, .int x3, .int x4, .int x5, .ref h4, .ref h5, .ref h6, .int x6, .int x7, .ref h7, .ref h8, .int x8, .ref h9, .int x9]))] sz)) 0 0 (va_A [(h0, .inr (8, [.ref h1, .ref h2, .ref h3, .int x0, .int x1, .long y0, .int x2, .int x3, .int x4, .int x5, .ref h4, .ref h5, .ref h6, .int x6, .int x7, .ref h7, .ref h8, .int x8, .ref h9, .int x9]))] sz) := by
  refine met_v RX9 (by decide) rfl rfl (Nat.le_of_ble_eq_true rfl) [(0, .ref h0)] rfl ?_
  intro p e s m args below meth c A Q C hnm Rt
  have hiX9 : ∀ w ∈ wsX90, w ∈ wsX9_beginFlex := fun w h => List.mem_cons_of_mem _ (List.mem_append_right _ (h))
  refine r_aload_n 0 0 C dX9_beginFlex_0 rfl ?_
  refine r_iconst 1 1 C dX9_beginFlex_1 (by decide) ?_
  refine r_put 2 C dX9_beginFlex_2 (k := 14) 0 rfl rfl hiX9 tyX9 tyX9_ok nmX9 (by decide) rfl (mg 1 rfl) (Or.inl rfl) rfl rfl rfl rfl (Nat.le_of_ble_eq_true rfl) [(h0, .inr (8, [.ref h1, .ref h2, .ref h3, .int x0, .int x1, .long y0, .int x2, .int x3, .int x4, .int x5, .ref h4, .ref h5, .ref h6, .int x6, .int 1, .ref h7, .ref h8, .int x8, .ref h9, .int x9]))] rfl ?_
  refine r_aload_n 5 0 C dX9_beginFlex_5 rfl ?_
  refine r_iconst 6 0 C dX9_beginFlex_6 (by decide) ?_
  refine r_put 7 C dX9_beginFlex_7 (k := 17) 0 rfl rfl hiX9 tyX9 tyX9_ok nmX9 (by decide) rfl (mg 2 rfl) (Or.inl rfl) rfl rfl rfl rfl (Nat.le_of_ble_eq_true rfl) [(h0, .inr (8, [.ref h1, .ref h2, .ref h3, .int x0, .int x1, .long y0, .int x2, .int x3, .int x4, .int x5, .ref h4, .ref h5, .ref h6, .int x6, .int 1, .ref h7, .ref h8, .int 0, .ref h9, .int x9]))] rfl ?_
  exact r_vret 10 Rt dX9_beginFlex_10 () trivial [0] (by decide) rfl (Nat.le_of_ble_eq_true rfl) (Nat.le_of_ble_eq_true rfl)
set_option maxHeartbeats 4000000 in
set_option maxRecDepth 100000 in
theorem c245_X6_add (l : Launch) (g : GD) (h0 : Nat) (h1 : Nat) (h2 : Nat) (x0 : Int32) (x1 : Int32) (x2 : Int32) (y0 : Int64) (y1 : Int64) (x3 : Int32) (fn0 : Nat → Int32) (fm0 : Nat → Int64) (i_x1 : (0 ≤ (Int32.toInt x1) ∧ (Int32.toInt x1) ≤ 400)) (i_x2 : (0 ≤ (Int32.toInt x2) ∧ (Int32.toInt x2) ≤ 400)) (i_x3 : (0 ≤ (Int32.toInt x3) ∧ (Int32.toInt x3) ≤ 1)) (sz : Nat) : Met l yX6_add wsX6_add ({ frames := 0, cells := 0, slots := 0, locals := 0 }) (va_Pc [.ref h0, .int x0] (PW g [(h0, .inr (5, [.ref h1, .ref h2, .int x1, .int x2, .long y0, .long y1, .int x3])), (h1, .inl (gB g, 400, .inl fn0)), (h2, .inl (gJ g, 2400, .inr (.inl fm0)))] sz)) (va_Qi (fun (r : Int32) (u : (Int32) × (Nat → Int32) × (Nat → Int64)) => (((Int32.toInt x1) < (Int32.toInt x2) ∧ (Int32.toInt (u.1)) = (Int32.toInt x1) + 1 ∧ r = 0) ∨ (¬ ((Int32.toInt x1) < (Int32.toInt x2)) ∧ (Int32.toInt (u.1)) = (Int32.toInt x1) ∧ r = 6)) ∧ 0 ≤ (Int32.toInt (u.1)) ∧ (Int32.toInt (u.1)) ≤ 400) (BW g (va_A [(h0, .inr (5, [.ref h1, .ref h2, .int x1, .int x2, .long y0, .long y1, .int x3])), (h1, .inl (gB g, 400, .inl fn0)), (h2, .inl (gJ g, 2400, .inr (.inl fm0)))] sz) (fun u : (Int32) × (Nat → Int32) × (Nat → Int64) => [(h0, .inr (5, [.ref h1, .ref h2, .int u.1, .int x2, .long y0, .long y1, .int x3])), (h1, .inl (gB g, 400, .inl u.2.1)), (h2, .inl (gJ g, 2400, .inr (.inl u.2.2)))])) (va_A [(h0, .inr (5, [.ref h1, .ref h2, .int x1, .int x2, .long y0, .long y1, .int x3])), (h1, .inl (gB g, 400, .inl fn0)), (h2, .inl (gJ g, 2400, .inr (.inl fm0)))] sz)) 0 0 (va_A [(h0, .inr (5, [.ref h1, .ref h2, .int x1, .int x2, .long y0, .long y1, .int x3])), (h1, .inl (gB g, 400, .inl fn0)), (h2, .inl (gJ g, 2400, .inr (.inl fm0)))] sz) := by
  refine met_i RX6 (by decide) rfl rfl (Nat.le_of_ble_eq_true rfl) [(0, .ref h0), (1, .int x0)] rfl ?_
  intro p e s m args below meth c A Q C hnm Rt
  have hiX6 : ∀ w ∈ wsX60, w ∈ wsX6_add := fun w h => List.mem_cons_of_mem _ (List.mem_append_right _ (h))
  refine r_aload_n 0 0 C dX6_add_0 rfl ?_
  refine r_get 1 C dX6_add_1 (k := 2) 0 rfl rfl hiX6 (by decide) rfl (mg 1 rfl) (Or.inl rfl) rfl ?_
  refine r_aload_n 4 0 C dX6_add_4 rfl ?_
  refine r_get 5 C dX6_add_5 (k := 3) 0 rfl rfl hiX6 (by decide) rfl (mg 2 rfl) (Or.inl rfl) rfl ?_
  refine r_icmp_lt 8 14 C dX6_add_8 (by decide) (fun c1 => ?_) (fun c1 => ?_)
  · skip
    have k2 : (Int32.toInt x1) < (Int32.toInt x2) := (fa_lt x1 x2).mp c1
    refine r_aload_n 14 0 C dX6_add_14 rfl ?_
    refine r_get 15 C dX6_add_15 (k := 0) 0 rfl rfl hiX6 (by decide) rfl (mg 3 rfl) (Or.inl rfl) rfl ?_
    refine r_aload_n 18 0 C dX6_add_18 rfl ?_
    refine r_get 19 C dX6_add_19 (k := 2) 0 rfl rfl hiX6 (by decide) rfl (mg 1 rfl) (Or.inl rfl) rfl ?_
    refine r_iload_n 22 1 C dX6_add_22 rfl ?_
    obtain ⟨z3, ez3⟩ : ∃ z_9, (Int32.toInt8 x0).toInt32 = z_9 := ⟨_, rfl⟩
    have gz3 := fb_rng z3
    refine r_i2b 23 z3 C dX6_add_23 ez3 ?_
    obtain ⟨f4, ef4⟩ : ∃ f_9, upd fn0 (Int32.toNatClampNeg x1) (vp_nar .byte z3) = f_9 := ⟨_, rfl⟩
    refine r_bast 24 C dX6_add_24 1 rfl (vinI (by omega) (by omega)) f4 ef4 [(h0, .inr (5, [.ref h1, .ref h2, .int x1, .int x2, .long y0, .long y1, .int x3])), (h1, .inl (gB g, 400, .inl f4)), (h2, .inl (gJ g, 2400, .inr (.inl fm0)))] rfl ?_
    refine r_aload_n 25 0 C dX6_add_25 rfl ?_
    refine r_get 26 C dX6_add_26 (k := 1) 0 rfl rfl hiX6 (by decide) rfl (mg 4 rfl) (Or.inl rfl) rfl ?_
    refine r_aload_n 29 0 C dX6_add_29 rfl ?_
    refine r_get 30 C dX6_add_30 (k := 2) 0 rfl rfl hiX6 (by decide) rfl (mg 1 rfl) (Or.inl rfl) rfl ?_
    refine r_bipush 33 6 C dX6_add_33 (by decide) ?_
    obtain ⟨z5, ez5⟩ : ∃ z_9, x1 * 6 = z_9 := ⟨_, rfl⟩
    have tz5 : (Int32.toInt z5) = (Int32.toInt x1) * 6 := by rw [← ez5]; exact fb_mulIv (a := 0) (b := 400) (c := 6) i_x1 (by decide) (by decide) (by decide) (by decide)
    refine r_imul 35 z5 C dX6_add_35 ez5 ?_
    refine r_aload_n 36 0 C dX6_add_36 rfl ?_
    refine r_get 37 C dX6_add_37 (k := 4) 0 rfl rfl hiX6 (by decide) rfl (mg 5 rfl) (Or.inl rfl) rfl ?_
    obtain ⟨f6, ef6⟩ : ∃ f_9, vp_updL fm0 (Int32.toNatClampNeg z5) y0 = f_9 := ⟨_, rfl⟩
    refine r_last 40 C dX6_add_40 2 rfl (vinI (by omega) (by omega)) f6 ef6 [(h0, .inr (5, [.ref h1, .ref h2, .int x1, .int x2, .long y0, .long y1, .int x3])), (h1, .inl (gB g, 400, .inl f4)), (h2, .inl (gJ g, 2400, .inr (.inl f6)))] rfl ?_
    refine r_aload_n 41 0 C dX6_add_41 rfl ?_
    refine r_get 42 C dX6_add_42 (k := 1) 0 rfl rfl hiX6 (by decide) rfl (mg 4 rfl) (Or.inl rfl) rfl ?_
    refine r_aload_n 45 0 C dX6_add_45 rfl ?_
    refine r_get 46 C dX6_add_46 (k := 2) 0 rfl rfl hiX6 (by decide) rfl (mg 1 rfl) (Or.inl rfl) rfl ?_
    refine r_bipush 49 6 C dX6_add_49 (by decide) ?_
    obtain ⟨z7, ez7⟩ : ∃ z_9, x1 * 6 = z_9 := ⟨_, rfl⟩
    have tz7 : (Int32.toInt z7) = (Int32.toInt x1) * 6 := by rw [← ez7]; exact fb_mulIv (a := 0) (b := 400) (c := 6) i_x1 (by decide) (by decide) (by decide) (by decide)
    refine r_imul 51 z7 C dX6_add_51 ez7 ?_
    refine r_iconst 52 1 C dX6_add_52 (by decide) ?_
    obtain ⟨z8, ez8⟩ : ∃ z_9, z7 + 1 = z_9 := ⟨_, rfl⟩
    have tz8 : (Int32.toInt z8) = (Int32.toInt z7) + 1 := by rw [← ez8]; exact fb_addIv (a := 0) (b := 2400) (c := 1) (d := 1) (iv_mul (a := 0) (b := 400) (c := 6) i_x1 (by decide) tz7) ⟨by decide, by decide⟩ (by decide) (by decide)
    refine r_iadd 53 z8 C dX6_add_53 ez8 ?_
    refine r_aload_n 54 0 C dX6_add_54 rfl ?_
    refine r_get 55 C dX6_add_55 (k := 5) 0 rfl rfl hiX6 (by decide) rfl (mg 6 rfl) (Or.inl rfl) rfl ?_
    obtain ⟨f9, ef9⟩ : ∃ f_9, vp_updL f6 (Int32.toNatClampNeg z8) y1 = f_9 := ⟨_, rfl⟩
    refine r_last 58 C dX6_add_58 2 rfl (vinI (by omega) (by omega)) f9 ef9 [(h0, .inr (5, [.ref h1, .ref h2, .int x1, .int x2, .long y0, .long y1, .int x3])), (h1, .inl (gB g, 400, .inl f4)), (h2, .inl (gJ g, 2400, .inr (.inl f9)))] rfl ?_
    refine r_aload_n 59 0 C dX6_add_59 rfl ?_
    refine r_dup 60 C dX6_add_60 rfl ?_
    refine r_get 61 C dX6_add_61 (k := 2) 0 rfl rfl hiX6 (by decide) rfl (mg 1 rfl) (Or.inl rfl) rfl ?_
    refine r_iconst 64 1 C dX6_add_64 (by decide) ?_
    obtain ⟨z10, ez10⟩ : ∃ z_9, x1 + 1 = z_9 := ⟨_, rfl⟩
    have tz10 : (Int32.toInt z10) = (Int32.toInt x1) + 1 := by rw [← ez10]; exact fb_addIv (a := 0) (b := 400) (c := 1) (d := 1) i_x1 ⟨by decide, by decide⟩ (by decide) (by decide)
    refine r_iadd 65 z10 C dX6_add_65 ez10 ?_
    refine r_put 66 C dX6_add_66 (k := 2) 0 rfl rfl hiX6 tyX6 tyX6_ok nmX6 (by decide) rfl (mg 1 rfl) (Or.inl rfl) rfl rfl rfl rfl (Nat.le_of_ble_eq_true rfl) [(h0, .inr (5, [.ref h1, .ref h2, .int z10, .int x2, .long y0, .long y1, .int x3])), (h1, .inl (gB g, 400, .inl f4)), (h2, .inl (gJ g, 2400, .inr (.inl f9)))] rfl ?_
    refine r_iconst 69 0 C dX6_add_69 (by decide) ?_
    exact r_iret 70 Rt dX6_add_70 (z10, f4, f9) (show (((Int32.toInt x1) < (Int32.toInt x2) ∧ (Int32.toInt z10) = (Int32.toInt x1) + 1 ∧ 0 = 0) ∨ (¬ ((Int32.toInt x1) < (Int32.toInt x2)) ∧ (Int32.toInt z10) = (Int32.toInt x1) ∧ 0 = 6)) ∧ 0 ≤ (Int32.toInt z10) ∧ (Int32.toInt z10) ≤ 400 from by refine ⟨Or.inl ?_, ?_, ?_⟩ <;> ((repeat' apply And.intro) <;> first | trivial | rfl | assumption | omega | decide | exact Or.inl rfl | exact Or.inr (Or.inl rfl) | exact Or.inr (Or.inr rfl))) [0, 1, 2] (by decide) rfl (Nat.le_of_ble_eq_true rfl) (Nat.le_of_ble_eq_true rfl)
  · skip
    have k11 : ¬ ((Int32.toInt x1) < (Int32.toInt x2)) := fun h_9 => c1 ((fa_lt x1 x2).mpr h_9)
    refine r_bipush 11 6 C dX6_add_11 (by decide) ?_
    exact r_iret 13 Rt dX6_add_13 (x1, fn0, fm0) (show (((Int32.toInt x1) < (Int32.toInt x2) ∧ (Int32.toInt x1) = (Int32.toInt x1) + 1 ∧ 6 = 0) ∨ (¬ ((Int32.toInt x1) < (Int32.toInt x2)) ∧ (Int32.toInt x1) = (Int32.toInt x1) ∧ 6 = 6)) ∧ 0 ≤ (Int32.toInt x1) ∧ (Int32.toInt x1) ≤ 400 from by refine ⟨Or.inr (?_), ?_, ?_⟩ <;> ((repeat' apply And.intro) <;> first | trivial | rfl | assumption | omega | decide | exact Or.inl rfl | exact Or.inr (Or.inl rfl) | exact Or.inr (Or.inr rfl))) [0, 1, 2] (by decide) rfl (Nat.le_of_ble_eq_true rfl) (Nat.le_of_ble_eq_true rfl)
set_option maxHeartbeats 4000000 in
set_option maxRecDepth 100000 in
theorem c246_X6_curveBy (l : Launch) (g : GD) (h0 : Nat) (h1 : Nat) (h2 : Nat) (y0 : Int64) (y1 : Int64) (y2 : Int64) (y3 : Int64) (y4 : Int64) (y5 : Int64) (x0 : Int32) (x1 : Int32) (y6 : Int64) (y7 : Int64) (x2 : Int32) (fn0 : Nat → Int32) (fm0 : Nat → Int64) (i_x0 : (0 ≤ (Int32.toInt x0) ∧ (Int32.toInt x0) ≤ 400)) (i_x1 : (0 ≤ (Int32.toInt x1) ∧ (Int32.toInt x1) ≤ 400)) (i_x2 : (0 ≤ (Int32.toInt x2) ∧ (Int32.toInt x2) ≤ 1)) (sz : Nat) : Met l yX6_curveBy wsX6_curveBy ({ frames := 1, cells := 0, slots := 0, locals := 21 }) (va_Pc [.ref h0, .long y0, .long y1, .long y2, .long y3, .long y4, .long y5] (PW g [(h0, .inr (5, [.ref h1, .ref h2, .int x0, .int x1, .long y6, .long y7, .int x2])), (h1, .inl (gB g, 400, .inl fn0)), (h2, .inl (gJ g, 2400, .inr (.inl fm0)))] sz)) (va_Qi (fun (r : Int32) (u : (Int32) × (Int64) × (Int64) × (Nat → Int32) × (Nat → Int64)) => 0 ≤ (Int32.toInt r) ∧ (Int32.toInt r) ≤ 6 ∧ 0 ≤ (Int32.toInt (u.1)) ∧ (Int32.toInt (u.1)) ≤ 400) (BW g (va_A [(h0, .inr (5, [.ref h1, .ref h2, .int x0, .int x1, .long y6, .long y7, .int x2])), (h1, .inl (gB g, 400, .inl fn0)), (h2, .inl (gJ g, 2400, .inr (.inl fm0)))] sz) (fun u : (Int32) × (Int64) × (Int64) × (Nat → Int32) × (Nat → Int64) => [(h0, .inr (5, [.ref h1, .ref h2, .int u.1, .int x1, .long u.2.1, .long u.2.2.1, .int 1])), (h1, .inl (gB g, 400, .inl u.2.2.2.1)), (h2, .inl (gJ g, 2400, .inr (.inl u.2.2.2.2)))])) (va_A [(h0, .inr (5, [.ref h1, .ref h2, .int x0, .int x1, .long y6, .long y7, .int x2])), (h1, .inl (gB g, 400, .inl fn0)), (h2, .inl (gJ g, 2400, .inr (.inl fm0)))] sz)) 0 0 (va_A [(h0, .inr (5, [.ref h1, .ref h2, .int x0, .int x1, .long y6, .long y7, .int x2])), (h1, .inl (gB g, 400, .inl fn0)), (h2, .inl (gJ g, 2400, .inr (.inl fm0)))] sz) := by
  refine met_i RX6 (by decide) rfl rfl (Nat.le_of_ble_eq_true rfl) [(0, .ref h0), (1, .long y0), (3, .long y1), (5, .long y2), (7, .long y3), (9, .long y4), (11, .long y5)] rfl ?_
  intro p e s m args below meth c A Q C hnm Rt
  have hiX6 : ∀ w ∈ wsX60, w ∈ wsX6_curveBy := fun w h => List.mem_cons_of_mem _ (List.mem_append_right _ (h))
  refine r_aload_n 0 0 C dX6_curveBy_0 rfl ?_
  refine r_dup 1 C dX6_curveBy_1 rfl ?_
  refine r_get 2 C dX6_curveBy_2 (k := 4) 0 rfl rfl hiX6 (by decide) rfl (mg 1 rfl) (Or.inl rfl) rfl ?_
  refine r_lload_n 5 1 C dX6_curveBy_5 rfl ?_
  obtain ⟨z1, ez1⟩ : ∃ z_9, y6 + y0 = z_9 := ⟨_, rfl⟩
  have gz1 := fb_rngL z1
  refine r_ladd 6 z1 C dX6_curveBy_6 ez1 ?_
  refine r_put 7 C dX6_curveBy_7 (k := 4) 0 rfl rfl hiX6 tyX6 tyX6_ok nmX6 (by decide) rfl (mg 1 rfl) (Or.inl rfl) rfl rfl rfl rfl (Nat.le_of_ble_eq_true rfl) [(h0, .inr (5, [.ref h1, .ref h2, .int x0, .int x1, .long z1, .long y7, .int x2])), (h1, .inl (gB g, 400, .inl fn0)), (h2, .inl (gJ g, 2400, .inr (.inl fm0)))] rfl ?_
  refine r_aload_n 10 0 C dX6_curveBy_10 rfl ?_
  refine r_dup 11 C dX6_curveBy_11 rfl ?_
  refine r_get 12 C dX6_curveBy_12 (k := 5) 0 rfl rfl hiX6 (by decide) rfl (mg 2 rfl) (Or.inl rfl) rfl ?_
  refine r_lload_n 15 2 C dX6_curveBy_15 rfl ?_
  obtain ⟨z2, ez2⟩ : ∃ z_9, y7 + y1 = z_9 := ⟨_, rfl⟩
  have gz2 := fb_rngL z2
  refine r_ladd 16 z2 C dX6_curveBy_16 ez2 ?_
  refine r_put 17 C dX6_curveBy_17 (k := 5) 0 rfl rfl hiX6 tyX6 tyX6_ok nmX6 (by decide) rfl (mg 2 rfl) (Or.inl rfl) rfl rfl rfl rfl (Nat.le_of_ble_eq_true rfl) [(h0, .inr (5, [.ref h1, .ref h2, .int x0, .int x1, .long z1, .long z2, .int x2])), (h1, .inl (gB g, 400, .inl fn0)), (h2, .inl (gJ g, 2400, .inr (.inl fm0)))] rfl ?_
  refine r_aload_n 20 0 C dX6_curveBy_20 rfl ?_
  refine r_iconst 21 1 C dX6_curveBy_21 (by decide) ?_
  refine r_put 22 C dX6_curveBy_22 (k := 6) 0 rfl rfl hiX6 tyX6 tyX6_ok nmX6 (by decide) rfl (mg 3 rfl) (Or.inl rfl) rfl rfl rfl rfl (Nat.le_of_ble_eq_true rfl) [(h0, .inr (5, [.ref h1, .ref h2, .int x0, .int x1, .long z1, .long z2, .int 1])), (h1, .inl (gB g, 400, .inl fn0)), (h2, .inl (gJ g, 2400, .inr (.inl fm0)))] rfl ?_
  refine r_aload_n 25 0 C dX6_curveBy_25 rfl ?_
  refine r_iconst 26 2 C dX6_curveBy_26 (by decide) ?_
  refine r_callVi 27 C dX6_curveBy_27 [] [(h0, .inr (5, [.ref h1, .ref h2, .int x0, .int x1, .long z1, .long z2, .int 1])), (h1, .inl (gB g, 400, .inl fn0)), (h2, .inl (gJ g, 2400, .inr (.inl fm0)))] [] (fun sz => c245_X6_add l g h0 h1 h2 2 x0 x1 z1 z2 1 fn0 fm0 i_x0 i_x1 (by decide) sz) gX6_curveBy_X6_add rfl ⟨rfl, rfl⟩ 1 (by decide) ⟨Nat.le_of_ble_eq_true rfl, Nat.le_of_ble_eq_true rfl⟩ 0 rfl rfl [0, 1, 2] [] rfl rfl (by decide) (by decide) (by decide) rfl rfl (Nat.le_of_ble_eq_true rfl) ⟨Nat.le_of_ble_eq_true rfl, Nat.le_of_ble_eq_true rfl⟩ (fun r6 u8 w7 => ?_)
  obtain ⟨z3, f4, f5⟩ := u8
  refine r_ws [(h0, .inr (5, [.ref h1, .ref h2, .int z3, .int x1, .long z1, .long z2, .int 1])), (h1, .inl (gB g, 400, .inl f4)), (h2, .inl (gJ g, 2400, .inr (.inl f5)))] rfl ?_
  have p9 : 0 ≤ (Int32.toInt z3) := w7.2.1
  have p10 : (Int32.toInt z3) ≤ 400 := w7.2.2
  have w11 : (((Int32.toInt x0) < (Int32.toInt x1) ∧ (Int32.toInt z3) = (Int32.toInt x0) + 1 ∧ r6 = 0) ∨ (¬ ((Int32.toInt x0) < (Int32.toInt x1)) ∧ (Int32.toInt z3) = (Int32.toInt x0) ∧ r6 = 6)) := w7.1
  rcases w11 with ⟨k12, k13, k14⟩ | w11
  · skip
    have k14 := k14.symm
    subst k14
    refine r_istore 30 C dX6_curveBy_30 [(13, .int 0), (0, .ref h0), (1, .long y0), (3, .long y1), (5, .long y2), (7, .long y3), (9, .long y4), (11, .long y5)] (by decide) rfl ?_
    refine r_iload 32 0 C dX6_curveBy_32 rfl ?_
    refine r_if_eq_t 34 40 C dX6_curveBy_34 (by decide) (by decide) ?_
    refine r_aload_n 40 1 C dX6_curveBy_40 rfl ?_
    refine r_get 41 C dX6_curveBy_41 (k := 2) 0 rfl rfl hiX6 (by decide) rfl (mg 4 rfl) (Or.inl rfl) rfl ?_
    refine r_iconst 44 1 C dX6_curveBy_44 (by decide) ?_
    obtain ⟨z15, ez15⟩ : ∃ z_9, z3 - 1 = z_9 := ⟨_, rfl⟩
    have tz15 : (Int32.toInt z15) = (Int32.toInt z3) - 1 := by rw [← ez15]; exact fb_subIv (a := 0) (b := 400) (c := 1) (d := 1) ⟨p9, p10⟩ ⟨by decide, by decide⟩ (by decide) (by decide)
    refine r_isub 45 z15 C dX6_curveBy_45 ez15 ?_
    refine r_bipush 46 6 C dX6_curveBy_46 (by decide) ?_
    obtain ⟨z16, ez16⟩ : ∃ z_9, z15 * 6 = z_9 := ⟨_, rfl⟩
    have tz16 : (Int32.toInt z16) = (Int32.toInt z15) * 6 := by rw [← ez16]; exact fb_mulIv (a := (-1)) (b := 399) (c := 6) (iv_wide (c := (-1)) (d := 399) (iv_sub (a := 0) (b := 400) (c := 1) (d := 1) ⟨p9, p10⟩ ⟨by decide, by decide⟩ tz15) (by decide) (by decide)) (by decide) (by decide) (by decide) (by decide)
    refine r_imul 48 z16 C dX6_curveBy_48 ez16 ?_
    refine r_istore 49 C dX6_curveBy_49 [(14, .int z16), (13, .int 0), (0, .ref h0), (1, .long y0), (3, .long y1), (5, .long y2), (7, .long y3), (9, .long y4), (11, .long y5)] (by decide) rfl ?_
    refine r_aload_n 51 2 C dX6_curveBy_51 rfl ?_
    refine r_get 52 C dX6_curveBy_52 (k := 1) 0 rfl rfl hiX6 (by decide) rfl (mg 5 rfl) (Or.inl rfl) rfl ?_
    refine r_iload 55 0 C dX6_curveBy_55 rfl ?_
    refine r_iconst 57 2 C dX6_curveBy_57 (by decide) ?_
    obtain ⟨z17, ez17⟩ : ∃ z_9, z16 + 2 = z_9 := ⟨_, rfl⟩
    have tz17 : (Int32.toInt z17) = (Int32.toInt z16) + 2 := by rw [← ez17]; exact fb_addIv (a := (-6)) (b := 2394) (c := 2) (d := 2) (iv_wide (c := (-6)) (d := 2394) (iv_mul (a := (-1)) (b := 399) (c := 6) (iv_wide (c := (-1)) (d := 399) (iv_sub (a := 0) (b := 400) (c := 1) (d := 1) ⟨p9, p10⟩ ⟨by decide, by decide⟩ tz15) (by decide) (by decide)) (by decide) tz16) (by decide) (by decide)) ⟨by decide, by decide⟩ (by decide) (by decide)
    refine r_iadd 58 z17 C dX6_curveBy_58 ez17 ?_
    refine r_aload_n 59 2 C dX6_curveBy_59 rfl ?_
    refine r_get 60 C dX6_curveBy_60 (k := 4) 0 rfl rfl hiX6 (by decide) rfl (mg 1 rfl) (Or.inl rfl) rfl ?_
    refine r_lload 63 5 C dX6_curveBy_63 rfl ?_
    obtain ⟨z18, ez18⟩ : ∃ z_9, z1 + y2 = z_9 := ⟨_, rfl⟩
    have gz18 := fb_rngL z18
    refine r_ladd 65 z18 C dX6_curveBy_65 ez18 ?_
    obtain ⟨f19, ef19⟩ : ∃ f_9, vp_updL f5 (Int32.toNatClampNeg z17) z18 = f_9 := ⟨_, rfl⟩
    refine r_last 66 C dX6_curveBy_66 2 rfl (vinI (by omega) (by omega)) f19 ef19 [(h0, .inr (5, [.ref h1, .ref h2, .int z3, .int x1, .long z1, .long z2, .int 1])), (h1, .inl (gB g, 400, .inl f4)), (h2, .inl (gJ g, 2400, .inr (.inl f19)))] rfl ?_
    refine r_aload_n 67 2 C dX6_curveBy_67 rfl ?_
    refine r_get 68 C dX6_curveBy_68 (k := 1) 0 rfl rfl hiX6 (by decide) rfl (mg 5 rfl) (Or.inl rfl) rfl ?_
    refine r_iload 71 0 C dX6_curveBy_71 rfl ?_
    refine r_iconst 73 3 C dX6_curveBy_73 (by decide) ?_
    obtain ⟨z20, ez20⟩ : ∃ z_9, z16 + 3 = z_9 := ⟨_, rfl⟩
    have tz20 : (Int32.toInt z20) = (Int32.toInt z16) + 3 := by rw [← ez20]; exact fb_addIv (a := (-6)) (b := 2394) (c := 3) (d := 3) (iv_wide (c := (-6)) (d := 2394) (iv_mul (a := (-1)) (b := 399) (c := 6) (iv_wide (c := (-1)) (d := 399) (iv_sub (a := 0) (b := 400) (c := 1) (d := 1) ⟨p9, p10⟩ ⟨by decide, by decide⟩ tz15) (by decide) (by decide)) (by decide) tz16) (by decide) (by decide)) ⟨by decide, by decide⟩ (by decide) (by decide)
    refine r_iadd 74 z20 C dX6_curveBy_74 ez20 ?_
    refine r_aload_n 75 2 C dX6_curveBy_75 rfl ?_
    refine r_get 76 C dX6_curveBy_76 (k := 5) 0 rfl rfl hiX6 (by decide) rfl (mg 2 rfl) (Or.inl rfl) rfl ?_
    refine r_lload 79 6 C dX6_curveBy_79 rfl ?_
    obtain ⟨z21, ez21⟩ : ∃ z_9, z2 + y3 = z_9 := ⟨_, rfl⟩
    have gz21 := fb_rngL z21
    refine r_ladd 81 z21 C dX6_curveBy_81 ez21 ?_
    obtain ⟨f22, ef22⟩ : ∃ f_9, vp_updL f19 (Int32.toNatClampNeg z20) z21 = f_9 := ⟨_, rfl⟩
    refine r_last 82 C dX6_curveBy_82 2 rfl (vinI (by omega) (by omega)) f22 ef22 [(h0, .inr (5, [.ref h1, .ref h2, .int z3, .int x1, .long z1, .long z2, .int 1])), (h1, .inl (gB g, 400, .inl f4)), (h2, .inl (gJ g, 2400, .inr (.inl f22)))] rfl ?_
    refine r_aload_n 83 2 C dX6_curveBy_83 rfl ?_
    refine r_dup 84 C dX6_curveBy_84 rfl ?_
    refine r_get 85 C dX6_curveBy_85 (k := 4) 0 rfl rfl hiX6 (by decide) rfl (mg 1 rfl) (Or.inl rfl) rfl ?_
    refine r_lload 88 5 C dX6_curveBy_88 rfl ?_
    refine r_lload 90 7 C dX6_curveBy_90 rfl ?_
    obtain ⟨z23, ez23⟩ : ∃ z_9, y2 + y4 = z_9 := ⟨_, rfl⟩
    have gz23 := fb_rngL z23
    refine r_ladd 92 z23 C dX6_curveBy_92 ez23 ?_
    obtain ⟨z24, ez24⟩ : ∃ z_9, z1 + z23 = z_9 := ⟨_, rfl⟩
    have gz24 := fb_rngL z24
    refine r_ladd 93 z24 C dX6_curveBy_93 ez24 ?_
    refine r_put 94 C dX6_curveBy_94 (k := 4) 0 rfl rfl hiX6 tyX6 tyX6_ok nmX6 (by decide) rfl (mg 1 rfl) (Or.inl rfl) rfl rfl rfl rfl (Nat.le_of_ble_eq_true rfl) [(h0, .inr (5, [.ref h1, .ref h2, .int z3, .int x1, .long z24, .long z2, .int 1])), (h1, .inl (gB g, 400, .inl f4)), (h2, .inl (gJ g, 2400, .inr (.inl f22)))] rfl ?_
    refine r_aload_n 97 2 C dX6_curveBy_97 rfl ?_
    refine r_dup 98 C dX6_curveBy_98 rfl ?_
    refine r_get 99 C dX6_curveBy_99 (k := 5) 0 rfl rfl hiX6 (by decide) rfl (mg 2 rfl) (Or.inl rfl) rfl ?_
    refine r_lload 102 6 C dX6_curveBy_102 rfl ?_
    refine r_lload 104 8 C dX6_curveBy_104 rfl ?_
    obtain ⟨z25, ez25⟩ : ∃ z_9, y3 + y5 = z_9 := ⟨_, rfl⟩
    have gz25 := fb_rngL z25
    refine r_ladd 106 z25 C dX6_curveBy_106 ez25 ?_
    obtain ⟨z26, ez26⟩ : ∃ z_9, z2 + z25 = z_9 := ⟨_, rfl⟩
    have gz26 := fb_rngL z26
    refine r_ladd 107 z26 C dX6_curveBy_107 ez26 ?_
    refine r_put 108 C dX6_curveBy_108 (k := 5) 0 rfl rfl hiX6 tyX6 tyX6_ok nmX6 (by decide) rfl (mg 2 rfl) (Or.inl rfl) rfl rfl rfl rfl (Nat.le_of_ble_eq_true rfl) [(h0, .inr (5, [.ref h1, .ref h2, .int z3, .int x1, .long z24, .long z26, .int 1])), (h1, .inl (gB g, 400, .inl f4)), (h2, .inl (gJ g, 2400, .inr (.inl f22)))] rfl ?_
    refine r_aload_n 111 2 C dX6_curveBy_111 rfl ?_
    refine r_get 112 C dX6_curveBy_112 (k := 1) 0 rfl rfl hiX6 (by decide) rfl (mg 5 rfl) (Or.inl rfl) rfl ?_
    refine r_iload 115 0 C dX6_curveBy_115 rfl ?_
    refine r_iconst 117 4 C dX6_curveBy_117 (by decide) ?_
    obtain ⟨z27, ez27⟩ : ∃ z_9, z16 + 4 = z_9 := ⟨_, rfl⟩
    have tz27 : (Int32.toInt z27) = (Int32.toInt z16) + 4 := by rw [← ez27]; exact fb_addIv (a := (-6)) (b := 2394) (c := 4) (d := 4) (iv_wide (c := (-6)) (d := 2394) (iv_mul (a := (-1)) (b := 399) (c := 6) (iv_wide (c := (-1)) (d := 399) (iv_sub (a := 0) (b := 400) (c := 1) (d := 1) ⟨p9, p10⟩ ⟨by decide, by decide⟩ tz15) (by decide) (by decide)) (by decide) tz16) (by decide) (by decide)) ⟨by decide, by decide⟩ (by decide) (by decide)
    refine r_iadd 118 z27 C dX6_curveBy_118 ez27 ?_
    refine r_aload_n 119 2 C dX6_curveBy_119 rfl ?_
    refine r_get 120 C dX6_curveBy_120 (k := 4) 0 rfl rfl hiX6 (by decide) rfl (mg 1 rfl) (Or.inl rfl) rfl ?_
    obtain ⟨f28, ef28⟩ : ∃ f_9, vp_updL f22 (Int32.toNatClampNeg z27) z24 = f_9 := ⟨_, rfl⟩
    refine r_last 123 C dX6_curveBy_123 2 rfl (vinI (by omega) (by omega)) f28 ef28 [(h0, .inr (5, [.ref h1, .ref h2, .int z3, .int x1, .long z24, .long z26, .int 1])), (h1, .inl (gB g, 400, .inl f4)), (h2, .inl (gJ g, 2400, .inr (.inl f28)))] rfl ?_
    refine r_aload_n 124 2 C dX6_curveBy_124 rfl ?_
    refine r_get 125 C dX6_curveBy_125 (k := 1) 0 rfl rfl hiX6 (by decide) rfl (mg 5 rfl) (Or.inl rfl) rfl ?_
    refine r_iload 128 0 C dX6_curveBy_128 rfl ?_
    refine r_iconst 130 5 C dX6_curveBy_130 (by decide) ?_
    obtain ⟨z29, ez29⟩ : ∃ z_9, z16 + 5 = z_9 := ⟨_, rfl⟩
    have tz29 : (Int32.toInt z29) = (Int32.toInt z16) + 5 := by rw [← ez29]; exact fb_addIv (a := (-6)) (b := 2394) (c := 5) (d := 5) (iv_wide (c := (-6)) (d := 2394) (iv_mul (a := (-1)) (b := 399) (c := 6) (iv_wide (c := (-1)) (d := 399) (iv_sub (a := 0) (b := 400) (c := 1) (d := 1) ⟨p9, p10⟩ ⟨by decide, by decide⟩ tz15) (by decide) (by decide)) (by decide) tz16) (by decide) (by decide)) ⟨by decide, by decide⟩ (by decide) (by decide)
    refine r_iadd 131 z29 C dX6_curveBy_131 ez29 ?_
    refine r_aload_n 132 2 C dX6_curveBy_132 rfl ?_
    refine r_get 133 C dX6_curveBy_133 (k := 5) 0 rfl rfl hiX6 (by decide) rfl (mg 2 rfl) (Or.inl rfl) rfl ?_
    obtain ⟨f30, ef30⟩ : ∃ f_9, vp_updL f28 (Int32.toNatClampNeg z29) z26 = f_9 := ⟨_, rfl⟩
    refine r_last 136 C dX6_curveBy_136 2 rfl (vinI (by omega) (by omega)) f30 ef30 [(h0, .inr (5, [.ref h1, .ref h2, .int z3, .int x1, .long z24, .long z26, .int 1])), (h1, .inl (gB g, 400, .inl f4)), (h2, .inl (gJ g, 2400, .inr (.inl f30)))] rfl ?_
    refine r_iconst 137 0 C dX6_curveBy_137 (by decide) ?_
    exact r_iret 138 Rt dX6_curveBy_138 (z3, z24, z26, f4, f30) (show 0 ≤ (Int32.toInt 0) ∧ (Int32.toInt 0) ≤ 6 ∧ 0 ≤ (Int32.toInt z3) ∧ (Int32.toInt z3) ≤ 400 from ⟨(by ((repeat' apply And.intro) <;> first | trivial | rfl | assumption | omega | decide | exact Or.inl rfl | exact Or.inr (Or.inl rfl) | exact Or.inr (Or.inr rfl))), (by ((repeat' apply And.intro) <;> first | trivial | rfl | assumption | omega | decide | exact Or.inl rfl | exact Or.inr (Or.inl rfl) | exact Or.inr (Or.inr rfl))), (show _ ∧ _ from ⟨p9, p10⟩).1, (show _ ∧ _ from ⟨p9, p10⟩).2⟩) [0, 1, 2] (by decide) rfl (Nat.le_of_ble_eq_true rfl) (Nat.le_of_ble_eq_true rfl)
  obtain ⟨k31, k32, k33⟩ := w11
  have k33 := k33.symm
  subst k33
  refine r_istore 30 C dX6_curveBy_30 [(13, .int 6), (0, .ref h0), (1, .long y0), (3, .long y1), (5, .long y2), (7, .long y3), (9, .long y4), (11, .long y5)] (by decide) rfl ?_
  refine r_iload 32 0 C dX6_curveBy_32 rfl ?_
  refine r_if_eq_f 34 40 C dX6_curveBy_34 (by decide) (by decide) ?_
  refine r_iload 37 0 C dX6_curveBy_37 rfl ?_
  exact r_iret 39 Rt dX6_curveBy_39 (z3, z1, z2, f4, f5) (show 0 ≤ (Int32.toInt 6) ∧ (Int32.toInt 6) ≤ 6 ∧ 0 ≤ (Int32.toInt z3) ∧ (Int32.toInt z3) ≤ 400 from ⟨(by ((repeat' apply And.intro) <;> first | trivial | rfl | assumption | omega | decide | exact Or.inl rfl | exact Or.inr (Or.inl rfl) | exact Or.inr (Or.inr rfl))), (by ((repeat' apply And.intro) <;> first | trivial | rfl | assumption | omega | decide | exact Or.inl rfl | exact Or.inr (Or.inl rfl) | exact Or.inr (Or.inr rfl))), (show _ ∧ _ from ⟨p9, p10⟩).1, (show _ ∧ _ from ⟨p9, p10⟩).2⟩) [0, 1, 2] (by decide) rfl (Nat.le_of_ble_eq_true rfl) (Nat.le_of_ble_eq_true rfl)
set_option maxHeartbeats 4000000 in
set_option maxRecDepth 100000 in
theorem c247_X9_endFlex (l : Launch) (g : GD) (h0 : Nat) (h1 : Nat) (h2 : Nat) (h3 : Nat) (h4 : Nat) (h5 : Nat) (h6 : Nat) (h7 : Nat) (h8 : Nat) (h9 : Nat) (x0 : Int32) (x1 : Int32) (y0 : Int64) (x2 : Int32) (x3 : Int32) (x4 : Int32) (x5 : Int32) (h10 : Nat) (h11 : Nat) (h12 : Nat) (x6 : Int32) (x7 : Int32) (x8 : Int32) (x9 : Int32) (h13 : Nat) (x10 : Int32) (x11 : Int32) (x12 : Int32) (x13 : Int32) (y1 : Int64) (y2 : Int64) (x14 : Int32) (fm0 : Nat → Int64) (fm1 : Nat → Int64) (fm2 : Nat → Int64) (fm3 : Nat → Int64) (fn0 : Nat → Int32) (fm4 : Nat → Int64) (i_x5 : (0 ≤ (Int32.toInt x5) ∧ (Int32.toInt x5) ≤ 1)) (i_x6 : (0 ≤ (Int32.toInt x6) ∧ (Int32.toInt x6) ≤ 10)) (i_x7 : (0 ≤ (Int32.toInt x7) ∧ (Int32.toInt x7) ≤ 1)) (i_x8 : (0 ≤ (Int32.toInt x8) ∧ (Int32.toInt x8) ≤ 7)) (i_x9 : (0 ≤ (Int32.toInt x9) ∧ (Int32.toInt x9) ≤ 24)) (i_x10 : (0 ≤ (Int32.toInt x10) ∧ (Int32.toInt x10) ≤ 48)) (i_x11 : (0 ≤ (Int32.toInt x11) ∧ (Int32.toInt x11) ≤ 48)) (i_x12 : (0 ≤ (Int32.toInt x12) ∧ (Int32.toInt x12) ≤ 400)) (i_x13 : (0 ≤ (Int32.toInt x13) ∧ (Int32.toInt x13) ≤ 400)) (i_x14 : (0 ≤ (Int32.toInt x14) ∧ (Int32.toInt x14) ≤ 1)) (sz : Nat) : Met l yX9_endFlex wsX9_endFlex ({ frames := 2, cells := 0, slots := 0, locals := 55 }) (va_Pc [.ref h0] (PW g [(h0, .inr (8, [.ref h1, .ref h2, .ref h9, .int x0, .int x1, .long y0, .int x2, .int x3, .int x4, .int x5, .ref h10, .ref h11, .ref h12, .int x6, .int x7, .ref h3, .ref h4, .int x8, .ref h5, .int x9])), (h1, .inr (6, [.ref h6, .ref h13, .int x10, .int x11])), (h2, .inr (5, [.ref h7, .ref h8, .int x12, .int x13, .long y1, .long y2, .int x14])), (h3, .inl (gJ g, 7, .inr (.inl fm0))), (h4, .inl (gJ g, 7, .inr (.inl fm1))), (h5, .inl (gJ g, 24, .inr (.inl fm2))), (h6, .inl (gJ g, 48, .inr (.inl fm3))), (h7, .inl (gB g, 400, .inl fn0)), (h8, .inl (gJ g, 2400, .inr (.inl fm4)))] sz)) (va_Qi (fun (r : Int32) (u : (Int32) × (Int32) × (Int32) × (Int64) × (Int64) × (Int32) × (Nat → Int64) × (Nat → Int32) × (Nat → Int64)) => 0 ≤ (Int32.toInt r) ∧ (Int32.toInt r) ≤ 9 ∧ 0 ≤ (Int32.toInt (u.1)) ∧ (Int32.toInt (u.1)) ≤ 1 ∧ 0 ≤ (Int32.toInt (u.2.1)) ∧ (Int32.toInt (u.2.1)) ≤ 24 ∧ 0 ≤ (Int32.toInt (u.2.2.1)) ∧ (Int32.toInt (u.2.2.1)) ≤ 400 ∧ 0 ≤ (Int32.toInt (u.2.2.2.2.2.1)) ∧ (Int32.toInt (u.2.2.2.2.2.1)) ≤ 1) (BW g (va_A [(h0, .inr (8, [.ref h1, .ref h2, .ref h9, .int x0, .int x1, .long y0, .int x2, .int x3, .int x4, .int x5, .ref h10, .ref h11, .ref h12, .int x6, .int x7, .ref h3, .ref h4, .int x8, .ref h5, .int x9])), (h1, .inr (6, [.ref h6, .ref h13, .int x10, .int x11])), (h2, .inr (5, [.ref h7, .ref h8, .int x12, .int x13, .long y1, .long y2, .int x14])), (h3, .inl (gJ g, 7, .inr (.inl fm0))), (h4, .inl (gJ g, 7, .inr (.inl fm1))), (h5, .inl (gJ g, 24, .inr (.inl fm2))), (h6, .inl (gJ g, 48, .inr (.inl fm3))), (h7, .inl (gB g, 400, .inl fn0)), (h8, .inl (gJ g, 2400, .inr (.inl fm4)))] sz) (fun u : (Int32) × (Int32) × (Int32) × (Int64) × (Int64) × (Int32) × (Nat → Int64) × (Nat → Int32) × (Nat → Int64) => [(h0, .inr (8, [.ref h1, .ref h2, .ref h9, .int x0, .int x1, .long y0, .int x2, .int x3, .int x4, .int x5, .ref h10, .ref h11, .ref h12, .int x6, .int u.1, .ref h3, .ref h4, .int x8, .ref h5, .int u.2.1])), (h1, .inr (6, [.ref h6, .ref h13, .int x10, .int x11])), (h2, .inr (5, [.ref h7, .ref h8, .int u.2.2.1, .int x13, .long u.2.2.2.1, .long u.2.2.2.2.1, .int u.2.2.2.2.2.1])), (h3, .inl (gJ g, 7, .inr (.inl fm0))), (h4, .inl (gJ g, 7, .inr (.inl fm1))), (h5, .inl (gJ g, 24, .inr (.inl u.2.2.2.2.2.2.1))), (h6, .inl (gJ g, 48, .inr (.inl fm3))), (h7, .inl (gB g, 400, .inl u.2.2.2.2.2.2.2.1)), (h8, .inl (gJ g, 2400, .inr (.inl u.2.2.2.2.2.2.2.2)))])) (va_A [(h0, .inr (8, [.ref h1, .ref h2, .ref h9, .int x0, .int x1, .long y0, .int x2, .int x3, .int x4, .int x5, .ref h10, .ref h11, .ref h12, .int x6, .int x7, .ref h3, .ref h4, .int x8, .ref h5, .int x9])), (h1, .inr (6, [.ref h6, .ref h13, .int x10, .int x11])), (h2, .inr (5, [.ref h7, .ref h8, .int x12, .int x13, .long y1, .long y2, .int x14])), (h3, .inl (gJ g, 7, .inr (.inl fm0))), (h4, .inl (gJ g, 7, .inr (.inl fm1))), (h5, .inl (gJ g, 24, .inr (.inl fm2))), (h6, .inl (gJ g, 48, .inr (.inl fm3))), (h7, .inl (gB g, 400, .inl fn0)), (h8, .inl (gJ g, 2400, .inr (.inl fm4)))] sz)) 0 0 (va_A [(h0, .inr (8, [.ref h1, .ref h2, .ref h9, .int x0, .int x1, .long y0, .int x2, .int x3, .int x4, .int x5, .ref h10, .ref h11, .ref h12, .int x6, .int x7, .ref h3, .ref h4, .int x8, .ref h5, .int x9])), (h1, .inr (6, [.ref h6, .ref h13, .int x10, .int x11])), (h2, .inr (5, [.ref h7, .ref h8, .int x12, .int x13, .long y1, .long y2, .int x14])), (h3, .inl (gJ g, 7, .inr (.inl fm0))), (h4, .inl (gJ g, 7, .inr (.inl fm1))), (h5, .inl (gJ g, 24, .inr (.inl fm2))), (h6, .inl (gJ g, 48, .inr (.inl fm3))), (h7, .inl (gB g, 400, .inl fn0)), (h8, .inl (gJ g, 2400, .inr (.inl fm4)))] sz) := by
  refine met_i RX9 (by decide) rfl rfl (Nat.le_of_ble_eq_true rfl) [(0, .ref h0)] rfl ?_
  intro p e s m args below meth c A Q C hnm Rt
  have hiX9 : ∀ w ∈ wsX90, w ∈ wsX9_endFlex := fun w h => List.mem_cons_of_mem _ (List.mem_append_left _ (List.mem_append_left _ (List.mem_append_left _ (List.mem_append_right _ (h)))))
  have hiX6 : ∀ w ∈ wsX60, w ∈ wsX9_endFlex := fun w h => List.mem_cons_of_mem _ (List.mem_append_left _ (List.mem_append_right _ (h)))
  refine r_aload_n 0 0 C dX9_endFlex_0 rfl ?_
  refine r_get 1 C dX9_endFlex_1 (k := 14) 0 rfl rfl hiX9 (by decide) rfl (mg 1 rfl) (Or.inl rfl) rfl ?_
  refine r_if_eq 4 16 C dX9_endFlex_4 (by decide) (fun c1 => ?_) (fun c1 => ?_)
  · skip
    have k2 : (Int32.toInt x7) = 0 := (fa_eq x7 0).mp c1
    refine r_bipush 16 9 C dX9_endFlex_16 (by decide) ?_
    exact r_iret 18 Rt dX9_endFlex_18 (x7, x9, x12, y1, y2, x14, fm2, fn0, fm4) (show 0 ≤ (Int32.toInt 9) ∧ (Int32.toInt 9) ≤ 9 ∧ 0 ≤ (Int32.toInt x7) ∧ (Int32.toInt x7) ≤ 1 ∧ 0 ≤ (Int32.toInt x9) ∧ (Int32.toInt x9) ≤ 24 ∧ 0 ≤ (Int32.toInt x12) ∧ (Int32.toInt x12) ≤ 400 ∧ 0 ≤ (Int32.toInt x14) ∧ (Int32.toInt x14) ≤ 1 from ⟨(by ((repeat' apply And.intro) <;> first | trivial | rfl | assumption | omega | decide | exact Or.inl rfl | exact Or.inr (Or.inl rfl) | exact Or.inr (Or.inr rfl))), (by ((repeat' apply And.intro) <;> first | trivial | rfl | assumption | omega | decide | exact Or.inl rfl | exact Or.inr (Or.inl rfl) | exact Or.inr (Or.inr rfl))), i_x7.1, i_x7.2, i_x9.1, i_x9.2, i_x12.1, i_x12.2, i_x14.1, i_x14.2⟩) [0, 1, 2, 3, 4, 5, 6, 7, 8] (by decide) rfl (Nat.le_of_ble_eq_true rfl) (Nat.le_of_ble_eq_true rfl)
  · skip
    have k3 : ¬ ((Int32.toInt x7) = 0) := fun h_9 => c1 ((fa_eq x7 0).mpr h_9)
    refine r_aload_n 7 0 C dX9_endFlex_7 rfl ?_
    refine r_get 8 C dX9_endFlex_8 (k := 17) 0 rfl rfl hiX9 (by decide) rfl (mg 2 rfl) (Or.inl rfl) rfl ?_
    refine r_bipush 11 7 C dX9_endFlex_11 (by decide) ?_
    refine r_icmp_eq 13 19 C dX9_endFlex_13 (by decide) (fun c4 => ?_) (fun c4 => ?_)
    · skip
      have k5 : (Int32.toInt x8) = 7 := (fa_eq x8 7).mp c4
      refine r_aload_n 19 0 C dX9_endFlex_19 rfl ?_
      refine r_iconst 20 0 C dX9_endFlex_20 (by decide) ?_
      refine r_put 21 C dX9_endFlex_21 (k := 14) 0 rfl rfl hiX9 tyX9 tyX9_ok nmX9 (by decide) rfl (mg 1 rfl) (Or.inl rfl) rfl rfl rfl rfl (Nat.le_of_ble_eq_true rfl) [(h0, .inr (8, [.ref h1, .ref h2, .ref h9, .int x0, .int x1, .long y0, .int x2, .int x3, .int x4, .int x5, .ref h10, .ref h11, .ref h12, .int x6, .int 0, .ref h3, .ref h4, .int x8, .ref h5, .int x9])), (h1, .inr (6, [.ref h6, .ref h13, .int x10, .int x11])), (h2, .inr (5, [.ref h7, .ref h8, .int x12, .int x13, .long y1, .long y2, .int x14])), (h3, .inl (gJ g, 7, .inr (.inl fm0))), (h4, .inl (gJ g, 7, .inr (.inl fm1))), (h5, .inl (gJ g, 24, .inr (.inl fm2))), (h6, .inl (gJ g, 48, .inr (.inl fm3))), (h7, .inl (gB g, 400, .inl fn0)), (h8, .inl (gJ g, 2400, .inr (.inl fm4)))] rfl ?_
      refine r_aload_n 24 0 C dX9_endFlex_24 rfl ?_
      refine r_aload_n 25 0 C dX9_endFlex_25 rfl ?_
      refine r_get 26 C dX9_endFlex_26 (k := 0) 0 rfl rfl hiX9 (by decide) rfl (mg 3 rfl) (Or.inr (mg 4 rfl)) rfl ?_
      refine r_iconst 29 0 C dX9_endFlex_29 (by decide) ?_
      refine r_callVl 30 C dX9_endFlex_30 [.ref h0] [(h1, .inr (6, [.ref h6, .ref h13, .int x10, .int x11])), (h6, .inl (gJ g, 48, .inr (.inl fm3)))] [(h0, .inr (8, [.ref h1, .ref h2, .ref h9, .int x0, .int x1, .long y0, .int x2, .int x3, .int x4, .int x5, .ref h10, .ref h11, .ref h12, .int x6, .int 0, .ref h3, .ref h4, .int x8, .ref h5, .int x9])), (h2, .inr (5, [.ref h7, .ref h8, .int x12, .int x13, .long y1, .long y2, .int x14])), (h3, .inl (gJ g, 7, .inr (.inl fm0))), (h4, .inl (gJ g, 7, .inr (.inl fm1))), (h5, .inl (gJ g, 24, .inr (.inl fm2))), (h7, .inl (gB g, 400, .inl fn0)), (h8, .inl (gJ g, 2400, .inr (.inl fm4)))] (fun sz => c233_X7_below l g h1 h6 0 h13 x10 x11 fm3 i_x10 i_x11 sz) gX9_endFlex_X7_below rfl ⟨rfl, rfl⟩ 1 (by decide) ⟨Nat.le_of_ble_eq_true rfl, Nat.le_of_ble_eq_true rfl⟩ 1 rfl rfl [1, 6] [0, 2, 3, 4, 5, 7, 8] rfl rfl (by decide) (by decide) (by decide) rfl rfl (Nat.le_of_ble_eq_true rfl) ⟨Nat.le_of_ble_eq_true rfl, Nat.le_of_ble_eq_true rfl⟩ (fun r6 _ w7 => ?_)
      refine r_ws [(h0, .inr (8, [.ref h1, .ref h2, .ref h9, .int x0, .int x1, .long y0, .int x2, .int x3, .int x4, .int x5, .ref h10, .ref h11, .ref h12, .int x6, .int 0, .ref h3, .ref h4, .int x8, .ref h5, .int x9])), (h2, .inr (5, [.ref h7, .ref h8, .int x12, .int x13, .long y1, .long y2, .int x14])), (h3, .inl (gJ g, 7, .inr (.inl fm0))), (h4, .inl (gJ g, 7, .inr (.inl fm1))), (h5, .inl (gJ g, 24, .inr (.inl fm2))), (h7, .inl (gB g, 400, .inl fn0)), (h8, .inl (gJ g, 2400, .inr (.inl fm4))), (h1, .inr (6, [.ref h6, .ref h13, .int x10, .int x11])), (h6, .inl (gJ g, 48, .inr (.inl fm3)))] rfl ?_
      have gr6 := fb_rngL r6
      refine r_callVv 33 C dX9_endFlex_33 [] [(h0, .inr (8, [.ref h1, .ref h2, .ref h9, .int x0, .int x1, .long y0, .int x2, .int x3, .int x4, .int x5, .ref h10, .ref h11, .ref h12, .int x6, .int 0, .ref h3, .ref h4, .int x8, .ref h5, .int x9])), (h5, .inl (gJ g, 24, .inr (.inl fm2)))] [(h2, .inr (5, [.ref h7, .ref h8, .int x12, .int x13, .long y1, .long y2, .int x14])), (h3, .inl (gJ g, 7, .inr (.inl fm0))), (h4, .inl (gJ g, 7, .inr (.inl fm1))), (h7, .inl (gB g, 400, .inl fn0)), (h8, .inl (gJ g, 2400, .inr (.inl fm4))), (h1, .inr (6, [.ref h6, .ref h13, .int x10, .int x11])), (h6, .inl (gJ g, 48, .inr (.inl fm3)))] (fun sz => c240_X9_putOneBy l g h0 h5 r6 h1 h2 h9 x0 x1 y0 x2 x3 x4 x5 h10 h11 h12 x6 0 h3 h4 x8 x9 fm2 i_x5 i_x6 (by decide) i_x8 i_x9 sz) gX9_endFlex_X9_putOneBy rfl ⟨rfl, rfl⟩ 1 (by decide) ⟨Nat.le_of_ble_eq_true rfl, Nat.le_of_ble_eq_true rfl⟩ 0 rfl rfl [0, 4] [1, 2, 3, 5, 6, 7, 8] rfl rfl (by decide) (by decide) (by decide) rfl rfl (Nat.le_of_ble_eq_true rfl) ⟨Nat.le_of_ble_eq_true rfl, Nat.le_of_ble_eq_true rfl⟩ (fun  u11 w10 => ?_)
      obtain ⟨z8, f9⟩ := u11
      refine r_ws [(h2, .inr (5, [.ref h7, .ref h8, .int x12, .int x13, .long y1, .long y2, .int x14])), (h3, .inl (gJ g, 7, .inr (.inl fm0))), (h4, .inl (gJ g, 7, .inr (.inl fm1))), (h7, .inl (gB g, 400, .inl fn0)), (h8, .inl (gJ g, 2400, .inr (.inl fm4))), (h1, .inr (6, [.ref h6, .ref h13, .int x10, .int x11])), (h6, .inl (gJ g, 48, .inr (.inl fm3))), (h0, .inr (8, [.ref h1, .ref h2, .ref h9, .int x0, .int x1, .long y0, .int x2, .int x3, .int x4, .int x5, .ref h10, .ref h11, .ref h12, .int x6, .int 0, .ref h3, .ref h4, .int x8, .ref h5, .int z8])), (h5, .inl (gJ g, 24, .inr (.inl f9)))] rfl ?_
      have p12 : 0 ≤ (Int32.toInt z8) := w10.1
      have p13 : (Int32.toInt z8) ≤ 24 := w10.2
      refine r_aload_n 36 0 C dX9_endFlex_36 rfl ?_
      refine r_aload_n 37 0 C dX9_endFlex_37 rfl ?_
      refine r_get 38 C dX9_endFlex_38 (k := 0) 7 rfl rfl hiX9 (by decide) rfl (mg 3 rfl) (Or.inr (mg 4 rfl)) rfl ?_
      refine r_iconst 41 1 C dX9_endFlex_41 (by decide) ?_
      refine r_callVl 42 C dX9_endFlex_42 [.ref h0] [(h1, .inr (6, [.ref h6, .ref h13, .int x10, .int x11])), (h6, .inl (gJ g, 48, .inr (.inl fm3)))] [(h2, .inr (5, [.ref h7, .ref h8, .int x12, .int x13, .long y1, .long y2, .int x14])), (h3, .inl (gJ g, 7, .inr (.inl fm0))), (h4, .inl (gJ g, 7, .inr (.inl fm1))), (h7, .inl (gB g, 400, .inl fn0)), (h8, .inl (gJ g, 2400, .inr (.inl fm4))), (h0, .inr (8, [.ref h1, .ref h2, .ref h9, .int x0, .int x1, .long y0, .int x2, .int x3, .int x4, .int x5, .ref h10, .ref h11, .ref h12, .int x6, .int 0, .ref h3, .ref h4, .int x8, .ref h5, .int z8])), (h5, .inl (gJ g, 24, .inr (.inl f9)))] (fun sz => c233_X7_below l g h1 h6 1 h13 x10 x11 fm3 i_x10 i_x11 sz) gX9_endFlex_X7_below rfl ⟨rfl, rfl⟩ 1 (by decide) ⟨Nat.le_of_ble_eq_true rfl, Nat.le_of_ble_eq_true rfl⟩ 5 rfl rfl [5, 6] [0, 1, 2, 3, 4, 7, 8] rfl rfl (by decide) (by decide) (by decide) rfl rfl (Nat.le_of_ble_eq_true rfl) ⟨Nat.le_of_ble_eq_true rfl, Nat.le_of_ble_eq_true rfl⟩ (fun r14 _ w15 => ?_)
      refine r_ws [(h2, .inr (5, [.ref h7, .ref h8, .int x12, .int x13, .long y1, .long y2, .int x14])), (h3, .inl (gJ g, 7, .inr (.inl fm0))), (h4, .inl (gJ g, 7, .inr (.inl fm1))), (h7, .inl (gB g, 400, .inl fn0)), (h8, .inl (gJ g, 2400, .inr (.inl fm4))), (h0, .inr (8, [.ref h1, .ref h2, .ref h9, .int x0, .int x1, .long y0, .int x2, .int x3, .int x4, .int x5, .ref h10, .ref h11, .ref h12, .int x6, .int 0, .ref h3, .ref h4, .int x8, .ref h5, .int z8])), (h5, .inl (gJ g, 24, .inr (.inl f9))), (h1, .inr (6, [.ref h6, .ref h13, .int x10, .int x11])), (h6, .inl (gJ g, 48, .inr (.inl fm3)))] rfl ?_
      have gr14 := fb_rngL r14
      refine r_callVv 45 C dX9_endFlex_45 [] [(h0, .inr (8, [.ref h1, .ref h2, .ref h9, .int x0, .int x1, .long y0, .int x2, .int x3, .int x4, .int x5, .ref h10, .ref h11, .ref h12, .int x6, .int 0, .ref h3, .ref h4, .int x8, .ref h5, .int z8])), (h5, .inl (gJ g, 24, .inr (.inl f9)))] [(h2, .inr (5, [.ref h7, .ref h8, .int x12, .int x13, .long y1, .long y2, .int x14])), (h3, .inl (gJ g, 7, .inr (.inl fm0))), (h4, .inl (gJ g, 7, .inr (.inl fm1))), (h7, .inl (gB g, 400, .inl fn0)), (h8, .inl (gJ g, 2400, .inr (.inl fm4))), (h1, .inr (6, [.ref h6, .ref h13, .int x10, .int x11])), (h6, .inl (gJ g, 48, .inr (.inl fm3)))] (fun sz => c240_X9_putOneBy l g h0 h5 r14 h1 h2 h9 x0 x1 y0 x2 x3 x4 x5 h10 h11 h12 x6 0 h3 h4 x8 z8 f9 i_x5 i_x6 (by decide) i_x8 ⟨p12, p13⟩ sz) gX9_endFlex_X9_putOneBy rfl ⟨rfl, rfl⟩ 1 (by decide) ⟨Nat.le_of_ble_eq_true rfl, Nat.le_of_ble_eq_true rfl⟩ 5 rfl rfl [5, 6] [0, 1, 2, 3, 4, 7, 8] rfl rfl (by decide) (by decide) (by decide) rfl rfl (Nat.le_of_ble_eq_true rfl) ⟨Nat.le_of_ble_eq_true rfl, Nat.le_of_ble_eq_true rfl⟩ (fun  u19 w18 => ?_)
      obtain ⟨z16, f17⟩ := u19
      refine r_ws [(h2, .inr (5, [.ref h7, .ref h8, .int x12, .int x13, .long y1, .long y2, .int x14])), (h3, .inl (gJ g, 7, .inr (.inl fm0))), (h4, .inl (gJ g, 7, .inr (.inl fm1))), (h7, .inl (gB g, 400, .inl fn0)), (h8, .inl (gJ g, 2400, .inr (.inl fm4))), (h1, .inr (6, [.ref h6, .ref h13, .int x10, .int x11])), (h6, .inl (gJ g, 48, .inr (.inl fm3))), (h0, .inr (8, [.ref h1, .ref h2, .ref h9, .int x0, .int x1, .long y0, .int x2, .int x3, .int x4, .int x5, .ref h10, .ref h11, .ref h12, .int x6, .int 0, .ref h3, .ref h4, .int x8, .ref h5, .int z16])), (h5, .inl (gJ g, 24, .inr (.inl f17)))] rfl ?_
      have p20 : 0 ≤ (Int32.toInt z16) := w18.1
      have p21 : (Int32.toInt z16) ≤ 24 := w18.2
      refine r_iconst 48 0 C dX9_endFlex_48 (by decide) ?_
      refine r_istore_n 49 C dX9_endFlex_49 [(1, .int 0), (0, .ref h0)] (by decide) rfl ?_
      refine r_iconst 50 1 C dX9_endFlex_50 (by decide) ?_
      refine r_istore_n 51 C dX9_endFlex_51 [(2, .int 1), (1, .int 0), (0, .ref h0)] (by decide) rfl ?_
      have lp31 : ∀ (n30 : Nat) (z22 : Int32) (z23 : Int32) (z24 : Int32) (z25 : Int64) (z26 : Int64) (z27 : Int32) (f28 : Nat → Int32) (f29 : Nat → Int64), (1 ≤ (Int32.toInt z22) ∧ (Int32.toInt z22) ≤ 7) → (0 ≤ (Int32.toInt z23) ∧ (Int32.toInt z23) ≤ 6) → (0 ≤ (Int32.toInt z24) ∧ (Int32.toInt z24) ≤ 400) → (0 ≤ (Int32.toInt z27) ∧ (Int32.toInt z27) ≤ 1) → Int.toNat (7 - (Int32.toInt z22)) < n30 → WW p l e ({ frames := 2, cells := 0, slots := 0, locals := 55 } : Room) s m args below meth c A Q g 3 0 0 [(h2, .inr (5, [.ref h7, .ref h8, .int z24, .int x13, .long z25, .long z26, .int z27])), (h3, .inl (gJ g, 7, .inr (.inl fm0))), (h4, .inl (gJ g, 7, .inr (.inl fm1))), (h7, .inl (gB g, 400, .inl f28)), (h8, .inl (gJ g, 2400, .inr (.inl f29))), (h1, .inr (6, [.ref h6, .ref h13, .int x10, .int x11])), (h6, .inl (gJ g, 48, .inr (.inl fm3))), (h0, .inr (8, [.ref h1, .ref h2, .ref h9, .int x0, .int x1, .long y0, .int x2, .int x3, .int x4, .int x5, .ref h10, .ref h11, .ref h12, .int x6, .int 0, .ref h3, .ref h4, .int x8, .ref h5, .int z16])), (h5, .inl (gJ g, 24, .inr (.inl f17)))] 52 [(2, .int z22), (1, .int z23), (0, .ref h0)] [] := by
        intro n30
        induction n30 with
        | zero => intro z22 z23 z24 z25 z26 z27 f28 f29 i34 i35 i36 i37 hm33; exact absurd hm33 (Nat.not_lt_zero _)
        | succ n30 ih32 =>
          intro z22 z23 z24 z25 z26 z27 f28 f29 i34 i35 i36 i37 hm33
          obtain ⟨i34a, i34b⟩ := i34
          obtain ⟨i35a, i35b⟩ := i35
          obtain ⟨i36a, i36b⟩ := i36
          obtain ⟨i37a, i37b⟩ := i37
          have gz25 := fb_rngL z25
          have gz26 := fb_rngL z26
          refine r_iload_n 52 0 C dX9_endFlex_52 rfl ?_
          refine r_iconst 53 3 C dX9_endFlex_53 (by decide) ?_
          obtain ⟨z38, ez38⟩ : ∃ z_9, z22 + 3 = z_9 := ⟨_, rfl⟩
          have tz38 : (Int32.toInt z38) = (Int32.toInt z22) + 3 := by rw [← ez38]; exact fb_addIv (a := 1) (b := 7) (c := 3) (d := 3) ⟨i34a, i34b⟩ ⟨by decide, by decide⟩ (by decide) (by decide)
          refine r_iadd 54 z38 C dX9_endFlex_54 ez38 ?_
          refine r_bipush 55 7 C dX9_endFlex_55 (by decide) ?_
          refine r_icmp_gt 57 170 C dX9_endFlex_57 (by decide) (fun c39 => ?_) (fun c39 => ?_)
          · skip
            have k40 : 7 < (Int32.toInt z38) := (fa_lt 7 z38).mp c39
            refine r_iload_n 170 1 C dX9_endFlex_170 rfl ?_
            exact r_iret 171 Rt dX9_endFlex_171 (0, z16, z24, z25, z26, z27, f17, f28, f29) (show 0 ≤ (Int32.toInt z23) ∧ (Int32.toInt z23) ≤ 9 ∧ 0 ≤ (Int32.toInt 0) ∧ (Int32.toInt 0) ≤ 1 ∧ 0 ≤ (Int32.toInt z16) ∧ (Int32.toInt z16) ≤ 24 ∧ 0 ≤ (Int32.toInt z24) ∧ (Int32.toInt z24) ≤ 400 ∧ 0 ≤ (Int32.toInt z27) ∧ (Int32.toInt z27) ≤ 1 from ⟨(iv_wide (c := 0) (d := 9) ⟨i35a, i35b⟩ (by decide) (by decide)).1, (iv_wide (c := 0) (d := 9) ⟨i35a, i35b⟩ (by decide) (by decide)).2, (by ((repeat' apply And.intro) <;> first | trivial | rfl | assumption | omega | decide | exact Or.inl rfl | exact Or.inr (Or.inl rfl) | exact Or.inr (Or.inr rfl))), (by ((repeat' apply And.intro) <;> first | trivial | rfl | assumption | omega | decide | exact Or.inl rfl | exact Or.inr (Or.inl rfl) | exact Or.inr (Or.inr rfl))), (show _ ∧ _ from ⟨p20, p21⟩).1, (show _ ∧ _ from ⟨p20, p21⟩).2, (show _ ∧ _ from ⟨i36a, i36b⟩).1, (show _ ∧ _ from ⟨i36a, i36b⟩).2, (show _ ∧ _ from ⟨i37a, i37b⟩).1, (show _ ∧ _ from ⟨i37a, i37b⟩).2⟩) [7, 5, 0, 1, 2, 8, 6, 3, 4] (by decide) rfl (Nat.le_of_ble_eq_true rfl) (Nat.le_of_ble_eq_true rfl)
          · skip
            have k41 : ¬ (7 < (Int32.toInt z38)) := fun h_9 => c39 ((fa_lt 7 z38).mpr h_9)
            refine r_iload_n 60 1 C dX9_endFlex_60 rfl ?_
            refine r_if_ne 61 170 C dX9_endFlex_61 (by decide) (fun c42 => ?_) (fun c42 => ?_)
            · skip
              have k43 : ¬ ((Int32.toInt z23) = 0) := fun h_9 => c42 ((fa_eq z23 0).mpr h_9)
              refine r_iload_n 170 1 C dX9_endFlex_170 rfl ?_
              exact r_iret 171 Rt dX9_endFlex_171 (0, z16, z24, z25, z26, z27, f17, f28, f29) (show 0 ≤ (Int32.toInt z23) ∧ (Int32.toInt z23) ≤ 9 ∧ 0 ≤ (Int32.toInt 0) ∧ (Int32.toInt 0) ≤ 1 ∧ 0 ≤ (Int32.toInt z16) ∧ (Int32.toInt z16) ≤ 24 ∧ 0 ≤ (Int32.toInt z24) ∧ (Int32.toInt z24) ≤ 400 ∧ 0 ≤ (Int32.toInt z27) ∧ (Int32.toInt z27) ≤ 1 from ⟨(iv_wide (c := 0) (d := 9) ⟨i35a, i35b⟩ (by decide) (by decide)).1, (iv_wide (c := 0) (d := 9) ⟨i35a, i35b⟩ (by decide) (by decide)).2, (by ((repeat' apply And.intro) <;> first | trivial | rfl | assumption | omega | decide | exact Or.inl rfl | exact Or.inr (Or.inl rfl) | exact Or.inr (Or.inr rfl))), (by ((repeat' apply And.intro) <;> first | trivial | rfl | assumption | omega | decide | exact Or.inl rfl | exact Or.inr (Or.inl rfl) | exact Or.inr (Or.inr rfl))), (show _ ∧ _ from ⟨p20, p21⟩).1, (show _ ∧ _ from ⟨p20, p21⟩).2, (show _ ∧ _ from ⟨i36a, i36b⟩).1, (show _ ∧ _ from ⟨i36a, i36b⟩).2, (show _ ∧ _ from ⟨i37a, i37b⟩).1, (show _ ∧ _ from ⟨i37a, i37b⟩).2⟩) [7, 5, 0, 1, 2, 8, 6, 3, 4] (by decide) rfl (Nat.le_of_ble_eq_true rfl) (Nat.le_of_ble_eq_true rfl)
            · skip
              have k44 : (Int32.toInt z23) = 0 := (fa_eq z23 0).mp c42
              refine r_aload_n 64 2 C dX9_endFlex_64 rfl ?_
              refine r_get 65 C dX9_endFlex_65 (k := 1) 7 rfl rfl hiX9 (by decide) rfl (mg 5 rfl) (Or.inr (mg 6 rfl)) rfl ?_
              refine r_aload_n 68 2 C dX9_endFlex_68 rfl ?_
              refine r_get 69 C dX9_endFlex_69 (k := 15) 7 rfl rfl hiX9 (by decide) rfl (mg 7 rfl) (Or.inl rfl) rfl ?_
              refine r_iload_n 72 0 C dX9_endFlex_72 rfl ?_
              obtain ⟨z45, ez45⟩ : ∃ z_9, fm0 (Int32.toNatClampNeg z22) = z_9 := ⟨_, rfl⟩
              refine r_lald 73 z45 C dX9_endFlex_73 1 rfl (vinI (by omega) (by omega)) ez45 ?_
              have gz45 := fb_rngL z45
              refine r_aload_n 74 2 C dX9_endFlex_74 rfl ?_
              refine r_get 75 C dX9_endFlex_75 (k := 1) 7 rfl rfl hiX9 (by decide) rfl (mg 5 rfl) (Or.inr (mg 6 rfl)) rfl ?_
              refine r_getN 78 C dX9_endFlex_78 (k := 4) 0 rfl rfl hiX6 (by decide) rfl (mg 19 rfl) rfl rfl ?_
              obtain ⟨z46, ez46⟩ : ∃ z_9, z45 - z25 = z_9 := ⟨_, rfl⟩
              have gz46 := fb_rngL z46
              refine r_lsub 81 z46 C dX9_endFlex_81 ez46 ?_
              refine r_aload_n 82 2 C dX9_endFlex_82 rfl ?_
              refine r_get 83 C dX9_endFlex_83 (k := 16) 7 rfl rfl hiX9 (by decide) rfl (mg 8 rfl) (Or.inl rfl) rfl ?_
              refine r_iload_n 86 0 C dX9_endFlex_86 rfl ?_
              obtain ⟨z47, ez47⟩ : ∃ z_9, fm1 (Int32.toNatClampNeg z22) = z_9 := ⟨_, rfl⟩
              refine r_lald 87 z47 C dX9_endFlex_87 2 rfl (vinI (by omega) (by omega)) ez47 ?_
              have gz47 := fb_rngL z47
              refine r_aload_n 88 2 C dX9_endFlex_88 rfl ?_
              refine r_get 89 C dX9_endFlex_89 (k := 1) 7 rfl rfl hiX9 (by decide) rfl (mg 5 rfl) (Or.inr (mg 6 rfl)) rfl ?_
              refine r_getN 92 C dX9_endFlex_92 (k := 5) 0 rfl rfl hiX6 (by decide) rfl (mg 20 rfl) rfl rfl ?_
              obtain ⟨z48, ez48⟩ : ∃ z_9, z47 - z26 = z_9 := ⟨_, rfl⟩
              have gz48 := fb_rngL z48
              refine r_lsub 95 z48 C dX9_endFlex_95 ez48 ?_
              refine r_aload_n 96 2 C dX9_endFlex_96 rfl ?_
              refine r_get 97 C dX9_endFlex_97 (k := 15) 7 rfl rfl hiX9 (by decide) rfl (mg 7 rfl) (Or.inl rfl) rfl ?_
              refine r_iload_n 100 0 C dX9_endFlex_100 rfl ?_
              refine r_iconst 101 1 C dX9_endFlex_101 (by decide) ?_
              obtain ⟨z49, ez49⟩ : ∃ z_9, z22 + 1 = z_9 := ⟨_, rfl⟩
              have tz49 : (Int32.toInt z49) = (Int32.toInt z22) + 1 := by rw [← ez49]; exact fb_addIv (a := 1) (b := 7) (c := 1) (d := 1) ⟨i34a, i34b⟩ ⟨by decide, by decide⟩ (by decide) (by decide)
              refine r_iadd 102 z49 C dX9_endFlex_102 ez49 ?_
              obtain ⟨z50, ez50⟩ : ∃ z_9, fm0 (Int32.toNatClampNeg z49) = z_9 := ⟨_, rfl⟩
              refine r_lald 103 z50 C dX9_endFlex_103 1 rfl (vinI (by omega) (by omega)) ez50 ?_
              have gz50 := fb_rngL z50
              refine r_aload_n 104 2 C dX9_endFlex_104 rfl ?_
              refine r_get 105 C dX9_endFlex_105 (k := 15) 7 rfl rfl hiX9 (by decide) rfl (mg 7 rfl) (Or.inl rfl) rfl ?_
              refine r_iload_n 108 0 C dX9_endFlex_108 rfl ?_
              obtain ⟨z51, ez51⟩ : ∃ z_9, fm0 (Int32.toNatClampNeg z22) = z_9 := ⟨_, rfl⟩
              refine r_lald 109 z51 C dX9_endFlex_109 1 rfl (vinI (by omega) (by omega)) ez51 ?_
              have gz51 := fb_rngL z51
              obtain ⟨z52, ez52⟩ : ∃ z_9, z50 - z51 = z_9 := ⟨_, rfl⟩
              have gz52 := fb_rngL z52
              refine r_lsub 110 z52 C dX9_endFlex_110 ez52 ?_
              refine r_aload_n 111 2 C dX9_endFlex_111 rfl ?_
              refine r_get 112 C dX9_endFlex_112 (k := 16) 7 rfl rfl hiX9 (by decide) rfl (mg 8 rfl) (Or.inl rfl) rfl ?_
              refine r_iload_n 115 0 C dX9_endFlex_115 rfl ?_
              refine r_iconst 116 1 C dX9_endFlex_116 (by decide) ?_
              obtain ⟨z53, ez53⟩ : ∃ z_9, z22 + 1 = z_9 := ⟨_, rfl⟩
              have tz53 : (Int32.toInt z53) = (Int32.toInt z22) + 1 := by rw [← ez53]; exact fb_addIv (a := 1) (b := 7) (c := 1) (d := 1) ⟨i34a, i34b⟩ ⟨by decide, by decide⟩ (by decide) (by decide)
              refine r_iadd 117 z53 C dX9_endFlex_117 ez53 ?_
              obtain ⟨z54, ez54⟩ : ∃ z_9, fm1 (Int32.toNatClampNeg z53) = z_9 := ⟨_, rfl⟩
              refine r_lald 118 z54 C dX9_endFlex_118 2 rfl (vinI (by omega) (by omega)) ez54 ?_
              have gz54 := fb_rngL z54
              refine r_aload_n 119 2 C dX9_endFlex_119 rfl ?_
              refine r_get 120 C dX9_endFlex_120 (k := 16) 7 rfl rfl hiX9 (by decide) rfl (mg 8 rfl) (Or.inl rfl) rfl ?_
              refine r_iload_n 123 0 C dX9_endFlex_123 rfl ?_
              obtain ⟨z55, ez55⟩ : ∃ z_9, fm1 (Int32.toNatClampNeg z22) = z_9 := ⟨_, rfl⟩
              refine r_lald 124 z55 C dX9_endFlex_124 2 rfl (vinI (by omega) (by omega)) ez55 ?_
              have gz55 := fb_rngL z55
              obtain ⟨z56, ez56⟩ : ∃ z_9, z54 - z55 = z_9 := ⟨_, rfl⟩
              have gz56 := fb_rngL z56
              refine r_lsub 125 z56 C dX9_endFlex_125 ez56 ?_
              refine r_aload_n 126 2 C dX9_endFlex_126 rfl ?_
              refine r_get 127 C dX9_endFlex_127 (k := 15) 7 rfl rfl hiX9 (by decide) rfl (mg 7 rfl) (Or.inl rfl) rfl ?_
              refine r_iload_n 130 0 C dX9_endFlex_130 rfl ?_
              refine r_iconst 131 2 C dX9_endFlex_131 (by decide) ?_
              obtain ⟨z57, ez57⟩ : ∃ z_9, z22 + 2 = z_9 := ⟨_, rfl⟩
              have tz57 : (Int32.toInt z57) = (Int32.toInt z22) + 2 := by rw [← ez57]; exact fb_addIv (a := 1) (b := 7) (c := 2) (d := 2) ⟨i34a, i34b⟩ ⟨by decide, by decide⟩ (by decide) (by decide)
              refine r_iadd 132 z57 C dX9_endFlex_132 ez57 ?_
              obtain ⟨z58, ez58⟩ : ∃ z_9, fm0 (Int32.toNatClampNeg z57) = z_9 := ⟨_, rfl⟩
              refine r_lald 133 z58 C dX9_endFlex_133 1 rfl (vinI (by omega) (by omega)) ez58 ?_
              have gz58 := fb_rngL z58
              refine r_aload_n 134 2 C dX9_endFlex_134 rfl ?_
              refine r_get 135 C dX9_endFlex_135 (k := 15) 7 rfl rfl hiX9 (by decide) rfl (mg 7 rfl) (Or.inl rfl) rfl ?_
              refine r_iload_n 138 0 C dX9_endFlex_138 rfl ?_
              refine r_iconst 139 1 C dX9_endFlex_139 (by decide) ?_
              obtain ⟨z59, ez59⟩ : ∃ z_9, z22 + 1 = z_9 := ⟨_, rfl⟩
              have tz59 : (Int32.toInt z59) = (Int32.toInt z22) + 1 := by rw [← ez59]; exact fb_addIv (a := 1) (b := 7) (c := 1) (d := 1) ⟨i34a, i34b⟩ ⟨by decide, by decide⟩ (by decide) (by decide)
              refine r_iadd 140 z59 C dX9_endFlex_140 ez59 ?_
              obtain ⟨z60, ez60⟩ : ∃ z_9, fm0 (Int32.toNatClampNeg z59) = z_9 := ⟨_, rfl⟩
              refine r_lald 141 z60 C dX9_endFlex_141 1 rfl (vinI (by omega) (by omega)) ez60 ?_
              have gz60 := fb_rngL z60
              obtain ⟨z61, ez61⟩ : ∃ z_9, z58 - z60 = z_9 := ⟨_, rfl⟩
              have gz61 := fb_rngL z61
              refine r_lsub 142 z61 C dX9_endFlex_142 ez61 ?_
              refine r_aload_n 143 2 C dX9_endFlex_143 rfl ?_
              refine r_get 144 C dX9_endFlex_144 (k := 16) 7 rfl rfl hiX9 (by decide) rfl (mg 8 rfl) (Or.inl rfl) rfl ?_
              refine r_iload_n 147 0 C dX9_endFlex_147 rfl ?_
              refine r_iconst 148 2 C dX9_endFlex_148 (by decide) ?_
              obtain ⟨z62, ez62⟩ : ∃ z_9, z22 + 2 = z_9 := ⟨_, rfl⟩
              have tz62 : (Int32.toInt z62) = (Int32.toInt z22) + 2 := by rw [← ez62]; exact fb_addIv (a := 1) (b := 7) (c := 2) (d := 2) ⟨i34a, i34b⟩ ⟨by decide, by decide⟩ (by decide) (by decide)
              refine r_iadd 149 z62 C dX9_endFlex_149 ez62 ?_
              obtain ⟨z63, ez63⟩ : ∃ z_9, fm1 (Int32.toNatClampNeg z62) = z_9 := ⟨_, rfl⟩
              refine r_lald 150 z63 C dX9_endFlex_150 2 rfl (vinI (by omega) (by omega)) ez63 ?_
              have gz63 := fb_rngL z63
              refine r_aload_n 151 2 C dX9_endFlex_151 rfl ?_
              refine r_get 152 C dX9_endFlex_152 (k := 16) 7 rfl rfl hiX9 (by decide) rfl (mg 8 rfl) (Or.inl rfl) rfl ?_
              refine r_iload_n 155 0 C dX9_endFlex_155 rfl ?_
              refine r_iconst 156 1 C dX9_endFlex_156 (by decide) ?_
              obtain ⟨z64, ez64⟩ : ∃ z_9, z22 + 1 = z_9 := ⟨_, rfl⟩
              have tz64 : (Int32.toInt z64) = (Int32.toInt z22) + 1 := by rw [← ez64]; exact fb_addIv (a := 1) (b := 7) (c := 1) (d := 1) ⟨i34a, i34b⟩ ⟨by decide, by decide⟩ (by decide) (by decide)
              refine r_iadd 157 z64 C dX9_endFlex_157 ez64 ?_
              obtain ⟨z65, ez65⟩ : ∃ z_9, fm1 (Int32.toNatClampNeg z64) = z_9 := ⟨_, rfl⟩
              refine r_lald 158 z65 C dX9_endFlex_158 2 rfl (vinI (by omega) (by omega)) ez65 ?_
              have gz65 := fb_rngL z65
              obtain ⟨z66, ez66⟩ : ∃ z_9, z63 - z65 = z_9 := ⟨_, rfl⟩
              have gz66 := fb_rngL z66
              refine r_lsub 159 z66 C dX9_endFlex_159 ez66 ?_
              refine r_callVi 160 C dX9_endFlex_160 [] [(h2, .inr (5, [.ref h7, .ref h8, .int z24, .int x13, .long z25, .long z26, .int z27])), (h7, .inl (gB g, 400, .inl f28)), (h8, .inl (gJ g, 2400, .inr (.inl f29)))] [(h3, .inl (gJ g, 7, .inr (.inl fm0))), (h4, .inl (gJ g, 7, .inr (.inl fm1))), (h1, .inr (6, [.ref h6, .ref h13, .int x10, .int x11])), (h6, .inl (gJ g, 48, .inr (.inl fm3))), (h0, .inr (8, [.ref h1, .ref h2, .ref h9, .int x0, .int x1, .long y0, .int x2, .int x3, .int x4, .int x5, .ref h10, .ref h11, .ref h12, .int x6, .int 0, .ref h3, .ref h4, .int x8, .ref h5, .int z16])), (h5, .inl (gJ g, 24, .inr (.inl f17)))] (fun sz => c246_X6_curveBy l g h2 h7 h8 z46 z48 z52 z56 z61 z66 z24 x13 z25 z26 z27 f28 f29 ⟨i36a, i36b⟩ i_x13 ⟨i37a, i37b⟩ sz) gX9_endFlex_X6_curveBy rfl ⟨rfl, rfl⟩ 6 (by decide) ⟨Nat.le_of_ble_eq_true rfl, Nat.le_of_ble_eq_true rfl⟩ 0 rfl rfl [0, 3, 4] [1, 2, 5, 6, 7, 8] rfl rfl (by decide) (by decide) (by decide) rfl rfl (Nat.le_of_ble_eq_true rfl) ⟨Nat.le_of_ble_eq_true rfl, Nat.le_of_ble_eq_true rfl⟩ (fun r72 u74 w73 => ?_)
              obtain ⟨z67, z68, z69, f70, f71⟩ := u74
              refine r_ws [(h3, .inl (gJ g, 7, .inr (.inl fm0))), (h4, .inl (gJ g, 7, .inr (.inl fm1))), (h1, .inr (6, [.ref h6, .ref h13, .int x10, .int x11])), (h6, .inl (gJ g, 48, .inr (.inl fm3))), (h0, .inr (8, [.ref h1, .ref h2, .ref h9, .int x0, .int x1, .long y0, .int x2, .int x3, .int x4, .int x5, .ref h10, .ref h11, .ref h12, .int x6, .int 0, .ref h3, .ref h4, .int x8, .ref h5, .int z16])), (h5, .inl (gJ g, 24, .inr (.inl f17))), (h2, .inr (5, [.ref h7, .ref h8, .int z67, .int x13, .long z68, .long z69, .int 1])), (h7, .inl (gB g, 400, .inl f70)), (h8, .inl (gJ g, 2400, .inr (.inl f71)))] rfl ?_
              have gz68 := fb_rngL z68
              have gz69 := fb_rngL z69
              have p75 : 0 ≤ (Int32.toInt r72) := w73.1
              have p76 : (Int32.toInt r72) ≤ 6 := w73.2.1
              have p77 : 0 ≤ (Int32.toInt z67) := w73.2.2.1
              have p78 : (Int32.toInt z67) ≤ 400 := w73.2.2.2
              refine r_istore_n 163 C dX9_endFlex_163 [(1, .int r72), (2, .int z22), (0, .ref h0)] (by decide) rfl ?_
              obtain ⟨z79, ez79⟩ : ∃ z_9, z22 + Int32.ofInt 3 = z_9 := ⟨_, rfl⟩
              have tz79 : (Int32.toInt z79) = (Int32.toInt z22) + 3 := by rw [← ez79]; exact fb_addIv (a := 1) (b := 7) (c := 3) (d := 3) ⟨i34a, i34b⟩ ⟨by decide, by decide⟩ (by decide) (by decide)
              refine r_iinc 164 1 z79 C dX9_endFlex_164 rfl ez79 [(2, .int z79), (1, .int r72), (0, .ref h0)] (by decide) rfl ?_
              refine r_goto 167 52 C dX9_endFlex_167 (by decide) ?_
              refine r_pick [(h2, .inr (5, [.ref h7, .ref h8, .int z67, .int x13, .long z68, .long z69, .int 1])), (h3, .inl (gJ g, 7, .inr (.inl fm0))), (h4, .inl (gJ g, 7, .inr (.inl fm1))), (h7, .inl (gB g, 400, .inl f70)), (h8, .inl (gJ g, 2400, .inr (.inl f71))), (h1, .inr (6, [.ref h6, .ref h13, .int x10, .int x11])), (h6, .inl (gJ g, 48, .inr (.inl fm3))), (h0, .inr (8, [.ref h1, .ref h2, .ref h9, .int x0, .int x1, .long y0, .int x2, .int x3, .int x4, .int x5, .ref h10, .ref h11, .ref h12, .int x6, .int 0, .ref h3, .ref h4, .int x8, .ref h5, .int z16])), (h5, .inl (gJ g, 24, .inr (.inl f17)))] [6, 0, 1, 7, 8, 2, 3, 4, 5] (by decide) rfl ?_
              exact ih32 z79 r72 z67 z68 z69 1 f70 f71 ⟨by omega, by omega⟩ ⟨p75, p76⟩ ⟨p77, p78⟩ (by decide) (by omega)
      exact lp31 _ 1 0 x12 y1 y2 x14 fn0 fm4 (by decide) (by decide) i_x12 i_x14 (Nat.lt_succ_self _)
    · skip
      have k80 : ¬ ((Int32.toInt x8) = 7) := fun h_9 => c4 ((fa_eq x8 7).mpr h_9)
      refine r_bipush 16 9 C dX9_endFlex_16 (by decide) ?_
      exact r_iret 18 Rt dX9_endFlex_18 (x7, x9, x12, y1, y2, x14, fm2, fn0, fm4) (show 0 ≤ (Int32.toInt 9) ∧ (Int32.toInt 9) ≤ 9 ∧ 0 ≤ (Int32.toInt x7) ∧ (Int32.toInt x7) ≤ 1 ∧ 0 ≤ (Int32.toInt x9) ∧ (Int32.toInt x9) ≤ 24 ∧ 0 ≤ (Int32.toInt x12) ∧ (Int32.toInt x12) ≤ 400 ∧ 0 ≤ (Int32.toInt x14) ∧ (Int32.toInt x14) ≤ 1 from ⟨(by ((repeat' apply And.intro) <;> first | trivial | rfl | assumption | omega | decide | exact Or.inl rfl | exact Or.inr (Or.inl rfl) | exact Or.inr (Or.inr rfl))), (by ((repeat' apply And.intro) <;> first | trivial | rfl | assumption | omega | decide | exact Or.inl rfl | exact Or.inr (Or.inl rfl) | exact Or.inr (Or.inr rfl))), i_x7.1, i_x7.2, i_x9.1, i_x9.2, i_x12.1, i_x12.2, i_x14.1, i_x14.2⟩) [0, 1, 2, 3, 4, 5, 6, 7, 8] (by decide) rfl (Nat.le_of_ble_eq_true rfl) (Nat.le_of_ble_eq_true rfl)
set_option maxHeartbeats 4000000 in
set_option maxRecDepth 100000 in
theorem c248_X9_callOther (l : Launch) (g : GD) (h0 : Nat) (h1 : Nat) (h2 : Nat) (h3 : Nat) (h4 : Nat) (h5 : Nat) (h6 : Nat) (h7 : Nat) (h8 : Nat) (h9 : Nat) (x0 : Int32) (x1 : Int32) (y0 : Int64) (x2 : Int32) (x3 : Int32) (x4 : Int32) (x5 : Int32) (h10 : Nat) (h11 : Nat) (h12 : Nat) (x6 : Int32) (x7 : Int32) (x8 : Int32) (x9 : Int32) (h13 : Nat) (x10 : Int32) (x11 : Int32) (x12 : Int32) (x13 : Int32) (y1 : Int64) (y2 : Int64) (x14 : Int32) (fm0 : Nat → Int64) (fm1 : Nat → Int64) (fm2 : Nat → Int64) (fm3 : Nat → Int64) (fn0 : Nat → Int32) (fm4 : Nat → Int64) (i_x5 : (0 ≤ (Int32.toInt x5) ∧ (Int32.toInt x5) ≤ 1)) (i_x6 : (0 ≤ (Int32.toInt x6) ∧ (Int32.toInt x6) ≤ 10)) (i_x7 : (0 ≤ (Int32.toInt x7) ∧ (Int32.toInt x7) ≤ 1)) (i_x8 : (0 ≤ (Int32.toInt x8) ∧ (Int32.toInt x8) ≤ 7)) (i_x9 : (0 ≤ (Int32.toInt x9) ∧ (Int32.toInt x9) ≤ 24)) (i_x10 : (0 ≤ (Int32.toInt x10) ∧ (Int32.toInt x10) ≤ 48)) (i_x11 : (0 ≤ (Int32.toInt x11) ∧ (Int32.toInt x11) ≤ 48)) (i_x12 : (0 ≤ (Int32.toInt x12) ∧ (Int32.toInt x12) ≤ 400)) (i_x13 : (0 ≤ (Int32.toInt x13) ∧ (Int32.toInt x13) ≤ 400)) (i_x14 : (0 ≤ (Int32.toInt x14) ∧ (Int32.toInt x14) ≤ 1)) (sz : Nat) : Met l yX9_callOther wsX9_callOther ({ frames := 3, cells := 0, slots := 0, locals := 77 }) (va_Pc [.ref h0] (PW g [(h0, .inr (8, [.ref h1, .ref h2, .ref h9, .int x0, .int x1, .long y0, .int x2, .int x3, .int x4, .int x5, .ref h10, .ref h11, .ref h12, .int x6, .int x7, .ref h3, .ref h4, .int x8, .ref h5, .int x9])), (h1, .inr (6, [.ref h6, .ref h13, .int x10, .int x11])), (h2, .inr (5, [.ref h7, .ref h8, .int x12, .int x13, .long y1, .long y2, .int x14])), (h3, .inl (gJ g, 7, .inr (.inl fm0))), (h4, .inl (gJ g, 7, .inr (.inl fm1))), (h5, .inl (gJ g, 24, .inr (.inl fm2))), (h6, .inl (gJ g, 48, .inr (.inl fm3))), (h7, .inl (gB g, 400, .inl fn0)), (h8, .inl (gJ g, 2400, .inr (.inl fm4)))] sz)) (va_Qi (fun (r : Int32) (u : (Int32) × (Int32) × (Int32) × (Int32) × (Int32) × (Int64) × (Int64) × (Int32) × (Nat → Int64) × (Nat → Int64) × (Nat → Int64) × (Nat → Int32) × (Nat → Int64)) => 0 ≤ (Int32.toInt r) ∧ (Int32.toInt r) ≤ 9 ∧ 0 ≤ (Int32.toInt (u.1)) ∧ (Int32.toInt (u.1)) ≤ 1 ∧ 0 ≤ (Int32.toInt (u.2.1)) ∧ (Int32.toInt (u.2.1)) ≤ 7 ∧ 0 ≤ (Int32.toInt (u.2.2.1)) ∧ (Int32.toInt (u.2.2.1)) ≤ 24 ∧ 0 ≤ (Int32.toInt (u.2.2.2.1)) ∧ (Int32.toInt (u.2.2.2.1)) ≤ 48 ∧ 0 ≤ (Int32.toInt (u.2.2.2.2.1)) ∧ (Int32.toInt (u.2.2.2.2.1)) ≤ 400 ∧ 0 ≤ (Int32.toInt (u.2.2.2.2.2.2.2.1)) ∧ (Int32.toInt (u.2.2.2.2.2.2.2.1)) ≤ 1) (BW g (va_A [(h0, .inr (8, [.ref h1, .ref h2, .ref h9, .int x0, .int x1, .long y0, .int x2, .int x3, .int x4, .int x5, .ref h10, .ref h11, .ref h12, .int x6, .int x7, .ref h3, .ref h4, .int x8, .ref h5, .int x9])), (h1, .inr (6, [.ref h6, .ref h13, .int x10, .int x11])), (h2, .inr (5, [.ref h7, .ref h8, .int x12, .int x13, .long y1, .long y2, .int x14])), (h3, .inl (gJ g, 7, .inr (.inl fm0))), (h4, .inl (gJ g, 7, .inr (.inl fm1))), (h5, .inl (gJ g, 24, .inr (.inl fm2))), (h6, .inl (gJ g, 48, .inr (.inl fm3))), (h7, .inl (gB g, 400, .inl fn0)), (h8, .inl (gJ g, 2400, .inr (.inl fm4)))] sz) (fun u : (Int32) × (Int32) × (Int32) × (Int32) × (Int32) × (Int64) × (Int64) × (Int32) × (Nat → Int64) × (Nat → Int64) × (Nat → Int64) × (Nat → Int32) × (Nat → Int64) => [(h0, .inr (8, [.ref h1, .ref h2, .ref h9, .int x0, .int x1, .long y0, .int x2, .int x3, .int x4, .int x5, .ref h10, .ref h11, .ref h12, .int x6, .int u.1, .ref h3, .ref h4, .int u.2.1, .ref h5, .int u.2.2.1])), (h1, .inr (6, [.ref h6, .ref h13, .int u.2.2.2.1, .int x11])), (h2, .inr (5, [.ref h7, .ref h8, .int u.2.2.2.2.1, .int x13, .long u.2.2.2.2.2.1, .long u.2.2.2.2.2.2.1, .int u.2.2.2.2.2.2.2.1])), (h3, .inl (gJ g, 7, .inr (.inl u.2.2.2.2.2.2.2.2.1))), (h4, .inl (gJ g, 7, .inr (.inl u.2.2.2.2.2.2.2.2.2.1))), (h5, .inl (gJ g, 24, .inr (.inl u.2.2.2.2.2.2.2.2.2.2.1))), (h6, .inl (gJ g, 48, .inr (.inl fm3))), (h7, .inl (gB g, 400, .inl u.2.2.2.2.2.2.2.2.2.2.2.1)), (h8, .inl (gJ g, 2400, .inr (.inl u.2.2.2.2.2.2.2.2.2.2.2.2)))])) (va_A [(h0, .inr (8, [.ref h1, .ref h2, .ref h9, .int x0, .int x1, .long y0, .int x2, .int x3, .int x4, .int x5, .ref h10, .ref h11, .ref h12, .int x6, .int x7, .ref h3, .ref h4, .int x8, .ref h5, .int x9])), (h1, .inr (6, [.ref h6, .ref h13, .int x10, .int x11])), (h2, .inr (5, [.ref h7, .ref h8, .int x12, .int x13, .long y1, .long y2, .int x14])), (h3, .inl (gJ g, 7, .inr (.inl fm0))), (h4, .inl (gJ g, 7, .inr (.inl fm1))), (h5, .inl (gJ g, 24, .inr (.inl fm2))), (h6, .inl (gJ g, 48, .inr (.inl fm3))), (h7, .inl (gB g, 400, .inl fn0)), (h8, .inl (gJ g, 2400, .inr (.inl fm4)))] sz)) 0 0 (va_A [(h0, .inr (8, [.ref h1, .ref h2, .ref h9, .int x0, .int x1, .long y0, .int x2, .int x3, .int x4, .int x5, .ref h10, .ref h11, .ref h12, .int x6, .int x7, .ref h3, .ref h4, .int x8, .ref h5, .int x9])), (h1, .inr (6, [.ref h6, .ref h13, .int x10, .int x11])), (h2, .inr (5, [.ref h7, .ref h8, .int x12, .int x13, .long y1, .long y2, .int x14])), (h3, .inl (gJ g, 7, .inr (.inl fm0))), (h4, .inl (gJ g, 7, .inr (.inl fm1))), (h5, .inl (gJ g, 24, .inr (.inl fm2))), (h6, .inl (gJ g, 48, .inr (.inl fm3))), (h7, .inl (gB g, 400, .inl fn0)), (h8, .inl (gJ g, 2400, .inr (.inl fm4)))] sz) := by
  refine met_i RX9 (by decide) rfl rfl (Nat.le_of_ble_eq_true rfl) [(0, .ref h0)] rfl ?_
  intro p e s m args below meth c A Q C hnm Rt
  have hiX9 : ∀ w ∈ wsX90, w ∈ wsX9_callOther := fun w h => List.mem_cons_of_mem _ (List.mem_append_left _ (List.mem_append_left _ (List.mem_append_right _ (h))))
  refine r_aload_n 0 0 C dX9_callOther_0 rfl ?_
  refine r_get 1 C dX9_callOther_1 (k := 0) 0 rfl rfl hiX9 (by decide) rfl (mg 1 rfl) (Or.inr (mg 2 rfl)) rfl ?_
  refine r_callVi 4 C dX9_callOther_4 [] [(h1, .inr (6, [.ref h6, .ref h13, .int x10, .int x11]))] [(h0, .inr (8, [.ref h1, .ref h2, .ref h9, .int x0, .int x1, .long y0, .int x2, .int x3, .int x4, .int x5, .ref h10, .ref h11, .ref h12, .int x6, .int x7, .ref h3, .ref h4, .int x8, .ref h5, .int x9])), (h2, .inr (5, [.ref h7, .ref h8, .int x12, .int x13, .long y1, .long y2, .int x14])), (h3, .inl (gJ g, 7, .inr (.inl fm0))), (h4, .inl (gJ g, 7, .inr (.inl fm1))), (h5, .inl (gJ g, 24, .inr (.inl fm2))), (h6, .inl (gJ g, 48, .inr (.inl fm3))), (h7, .inl (gB g, 400, .inl fn0)), (h8, .inl (gJ g, 2400, .inr (.inl fm4)))] (fun sz => c231_X7_size l g h1 h6 h13 x10 x11 i_x10 i_x11 sz) gX9_callOther_X7_size rfl ⟨rfl, rfl⟩ 0 (by decide) ⟨Nat.le_of_ble_eq_true rfl, Nat.le_of_ble_eq_true rfl⟩ 1 rfl rfl [1] [0, 2, 3, 4, 5, 6, 7, 8] rfl rfl (by decide) (by decide) (by decide) rfl rfl (Nat.le_of_ble_eq_true rfl) ⟨Nat.le_of_ble_eq_true rfl, Nat.le_of_ble_eq_true rfl⟩ (fun r1 _ w2 => ?_)
  refine r_ws [(h0, .inr (8, [.ref h1, .ref h2, .ref h9, .int x0, .int x1, .long y0, .int x2, .int x3, .int x4, .int x5, .ref h10, .ref h11, .ref h12, .int x6, .int x7, .ref h3, .ref h4, .int x8, .ref h5, .int x9])), (h2, .inr (5, [.ref h7, .ref h8, .int x12, .int x13, .long y1, .long y2, .int x14])), (h3, .inl (gJ g, 7, .inr (.inl fm0))), (h4, .inl (gJ g, 7, .inr (.inl fm1))), (h5, .inl (gJ g, 24, .inr (.inl fm2))), (h6, .inl (gJ g, 48, .inr (.inl fm3))), (h7, .inl (gB g, 400, .inl fn0)), (h8, .inl (gJ g, 2400, .inr (.inl fm4))), (h1, .inr (6, [.ref h6, .ref h13, .int x10, .int x11]))] rfl ?_
  have p3 : x10 = r1 := (w2).symm
  subst p3
  refine r_iconst 7 2 C dX9_callOther_7 (by decide) ?_
  refine r_icmp_ge 8 13 C dX9_callOther_8 (by decide) (fun c4 => ?_) (fun c4 => ?_)
  · skip
    have k5 : 2 ≤ (Int32.toInt x10) := (fa_le 2 x10).mp c4
    refine r_aload_n 13 0 C dX9_callOther_13 rfl ?_
    refine r_get 14 C dX9_callOther_14 (k := 0) 0 rfl rfl hiX9 (by decide) rfl (mg 1 rfl) (Or.inr (mg 2 rfl)) rfl ?_
    refine r_iconst 17 0 C dX9_callOther_17 (by decide) ?_
    refine r_callVl 18 C dX9_callOther_18 [] [(h1, .inr (6, [.ref h6, .ref h13, .int x10, .int x11])), (h6, .inl (gJ g, 48, .inr (.inl fm3)))] [(h0, .inr (8, [.ref h1, .ref h2, .ref h9, .int x0, .int x1, .long y0, .int x2, .int x3, .int x4, .int x5, .ref h10, .ref h11, .ref h12, .int x6, .int x7, .ref h3, .ref h4, .int x8, .ref h5, .int x9])), (h2, .inr (5, [.ref h7, .ref h8, .int x12, .int x13, .long y1, .long y2, .int x14])), (h3, .inl (gJ g, 7, .inr (.inl fm0))), (h4, .inl (gJ g, 7, .inr (.inl fm1))), (h5, .inl (gJ g, 24, .inr (.inl fm2))), (h7, .inl (gB g, 400, .inl fn0)), (h8, .inl (gJ g, 2400, .inr (.inl fm4)))] (fun sz => c234_X7_wholeBelow l g h1 h6 0 h13 x10 x11 fm3 i_x10 i_x11 sz) gX9_callOther_X7_wholeBelow rfl ⟨rfl, rfl⟩ 1 (by decide) ⟨Nat.le_of_ble_eq_true rfl, Nat.le_of_ble_eq_true rfl⟩ 8 rfl rfl [8, 5] [0, 1, 2, 3, 4, 6, 7] rfl rfl (by decide) (by decide) (by decide) rfl rfl (Nat.le_of_ble_eq_true rfl) ⟨Nat.le_of_ble_eq_true rfl, Nat.le_of_ble_eq_true rfl⟩ (fun r6 _ w7 => ?_)
    refine r_ws [(h0, .inr (8, [.ref h1, .ref h2, .ref h9, .int x0, .int x1, .long y0, .int x2, .int x3, .int x4, .int x5, .ref h10, .ref h11, .ref h12, .int x6, .int x7, .ref h3, .ref h4, .int x8, .ref h5, .int x9])), (h2, .inr (5, [.ref h7, .ref h8, .int x12, .int x13, .long y1, .long y2, .int x14])), (h3, .inl (gJ g, 7, .inr (.inl fm0))), (h4, .inl (gJ g, 7, .inr (.inl fm1))), (h5, .inl (gJ g, 24, .inr (.inl fm2))), (h7, .inl (gB g, 400, .inl fn0)), (h8, .inl (gJ g, 2400, .inr (.inl fm4))), (h1, .inr (6, [.ref h6, .ref h13, .int x10, .int x11])), (h6, .inl (gJ g, 48, .inr (.inl fm3)))] rfl ?_
    have gr6 := fb_rngL r6
    refine r_lstore_n 21 C dX9_callOther_21 [(1, .long r6), (0, .ref h0)] (by decide) rfl ?_
    refine r_aload_n 22 1 C dX9_callOther_22 rfl ?_
    refine r_get 23 C dX9_callOther_23 (k := 0) 0 rfl rfl hiX9 (by decide) rfl (mg 1 rfl) (Or.inr (mg 2 rfl)) rfl ?_
    refine r_iconst 26 1 C dX9_callOther_26 (by decide) ?_
    refine r_callVl 27 C dX9_callOther_27 [] [(h1, .inr (6, [.ref h6, .ref h13, .int x10, .int x11])), (h6, .inl (gJ g, 48, .inr (.inl fm3)))] [(h0, .inr (8, [.ref h1, .ref h2, .ref h9, .int x0, .int x1, .long y0, .int x2, .int x3, .int x4, .int x5, .ref h10, .ref h11, .ref h12, .int x6, .int x7, .ref h3, .ref h4, .int x8, .ref h5, .int x9])), (h2, .inr (5, [.ref h7, .ref h8, .int x12, .int x13, .long y1, .long y2, .int x14])), (h3, .inl (gJ g, 7, .inr (.inl fm0))), (h4, .inl (gJ g, 7, .inr (.inl fm1))), (h5, .inl (gJ g, 24, .inr (.inl fm2))), (h7, .inl (gB g, 400, .inl fn0)), (h8, .inl (gJ g, 2400, .inr (.inl fm4)))] (fun sz => c234_X7_wholeBelow l g h1 h6 1 h13 x10 x11 fm3 i_x10 i_x11 sz) gX9_callOther_X7_wholeBelow rfl ⟨rfl, rfl⟩ 1 (by decide) ⟨Nat.le_of_ble_eq_true rfl, Nat.le_of_ble_eq_true rfl⟩ 7 rfl rfl [7, 8] [0, 1, 2, 3, 4, 5, 6] rfl rfl (by decide) (by decide) (by decide) rfl rfl (Nat.le_of_ble_eq_true rfl) ⟨Nat.le_of_ble_eq_true rfl, Nat.le_of_ble_eq_true rfl⟩ (fun r8 _ w9 => ?_)
    refine r_ws [(h0, .inr (8, [.ref h1, .ref h2, .ref h9, .int x0, .int x1, .long y0, .int x2, .int x3, .int x4, .int x5, .ref h10, .ref h11, .ref h12, .int x6, .int x7, .ref h3, .ref h4, .int x8, .ref h5, .int x9])), (h2, .inr (5, [.ref h7, .ref h8, .int x12, .int x13, .long y1, .long y2, .int x14])), (h3, .inl (gJ g, 7, .inr (.inl fm0))), (h4, .inl (gJ g, 7, .inr (.inl fm1))), (h5, .inl (gJ g, 24, .inr (.inl fm2))), (h7, .inl (gB g, 400, .inl fn0)), (h8, .inl (gJ g, 2400, .inr (.inl fm4))), (h1, .inr (6, [.ref h6, .ref h13, .int x10, .int x11])), (h6, .inl (gJ g, 48, .inr (.inl fm3)))] rfl ?_
    have gr8 := fb_rngL r8
    refine r_lstore_n 30 C dX9_callOther_30 [(3, .long r8), (1, .long r6), (0, .ref h0)] (by decide) rfl ?_
    refine r_lload_n 31 0 C dX9_callOther_31 rfl ?_
    refine r_lconst 32 0 C dX9_callOther_32 (by decide) ?_
    obtain ⟨z10, ez10⟩ : ∃ z_9, lg_cmp r8 0 = z_9 := ⟨_, rfl⟩
    have l1z10 : (Int32.toInt z10) < 0 ↔ (Int64.toInt r8) < 0 := by rw [← ez10]; exact lgI1 r8 0
    have l2z10 : 0 < (Int32.toInt z10) ↔ 0 < (Int64.toInt r8) := by rw [← ez10]; exact lgI2 r8 0
    refine r_lcmp 33 z10 C dX9_callOther_33 ez10 ?_
    refine r_if_ge 34 40 C dX9_callOther_34 (by decide) (fun c11 => ?_) (fun c11 => ?_)
    · skip
      have k12 : 0 ≤ (Int32.toInt z10) := (fa_le 0 z10).mp c11
      refine r_lload_n 40 0 C dX9_callOther_40 rfl ?_
      refine r_aload_n 41 2 C dX9_callOther_41 rfl ?_
      refine r_get 42 C dX9_callOther_42 (k := 0) 0 rfl rfl hiX9 (by decide) rfl (mg 1 rfl) (Or.inr (mg 2 rfl)) rfl ?_
      refine r_callVi 45 C dX9_callOther_45 [.long r8] [(h1, .inr (6, [.ref h6, .ref h13, .int x10, .int x11]))] [(h0, .inr (8, [.ref h1, .ref h2, .ref h9, .int x0, .int x1, .long y0, .int x2, .int x3, .int x4, .int x5, .ref h10, .ref h11, .ref h12, .int x6, .int x7, .ref h3, .ref h4, .int x8, .ref h5, .int x9])), (h2, .inr (5, [.ref h7, .ref h8, .int x12, .int x13, .long y1, .long y2, .int x14])), (h3, .inl (gJ g, 7, .inr (.inl fm0))), (h4, .inl (gJ g, 7, .inr (.inl fm1))), (h5, .inl (gJ g, 24, .inr (.inl fm2))), (h7, .inl (gB g, 400, .inl fn0)), (h8, .inl (gJ g, 2400, .inr (.inl fm4))), (h6, .inl (gJ g, 48, .inr (.inl fm3)))] (fun sz => c231_X7_size l g h1 h6 h13 x10 x11 i_x10 i_x11 sz) gX9_callOther_X7_size rfl ⟨rfl, rfl⟩ 0 (by decide) ⟨Nat.le_of_ble_eq_true rfl, Nat.le_of_ble_eq_true rfl⟩ 7 rfl rfl [7] [0, 1, 2, 3, 4, 5, 6, 8] rfl rfl (by decide) (by decide) (by decide) rfl rfl (Nat.le_of_ble_eq_true rfl) ⟨Nat.le_of_ble_eq_true rfl, Nat.le_of_ble_eq_true rfl⟩ (fun r13 _ w14 => ?_)
      refine r_ws [(h0, .inr (8, [.ref h1, .ref h2, .ref h9, .int x0, .int x1, .long y0, .int x2, .int x3, .int x4, .int x5, .ref h10, .ref h11, .ref h12, .int x6, .int x7, .ref h3, .ref h4, .int x8, .ref h5, .int x9])), (h2, .inr (5, [.ref h7, .ref h8, .int x12, .int x13, .long y1, .long y2, .int x14])), (h3, .inl (gJ g, 7, .inr (.inl fm0))), (h4, .inl (gJ g, 7, .inr (.inl fm1))), (h5, .inl (gJ g, 24, .inr (.inl fm2))), (h7, .inl (gB g, 400, .inl fn0)), (h8, .inl (gJ g, 2400, .inr (.inl fm4))), (h6, .inl (gJ g, 48, .inr (.inl fm3))), (h1, .inr (6, [.ref h6, .ref h13, .int x10, .int x11]))] rfl ?_
      have p15 : x10 = r13 := (w14).symm
      subst p15
      refine r_iconst 48 2 C dX9_callOther_48 (by decide) ?_
      obtain ⟨z16, ez16⟩ : ∃ z_9, x10 - 2 = z_9 := ⟨_, rfl⟩
      have tz16 : (Int32.toInt z16) = (Int32.toInt x10) - 2 := by rw [← ez16]; exact fb_subIv (a := 0) (b := 48) (c := 2) (d := 2) i_x10 ⟨by decide, by decide⟩ (by decide) (by decide)
      refine r_isub 49 z16 C dX9_callOther_49 ez16 ?_
      obtain ⟨z17, ez17⟩ : ∃ z_9, Int32.toInt64 z16 = z_9 := ⟨_, rfl⟩
      have tz17 : (Int64.toInt z17) = (Int32.toInt z16) := by rw [← ez17]; exact Int32.toInt_toInt64 _
      refine r_i2l 50 z17 C dX9_callOther_50 ez17 ?_
      obtain ⟨z18, ez18⟩ : ∃ z_9, lg_cmp r8 z17 = z_9 := ⟨_, rfl⟩
      have l1z18 : (Int32.toInt z18) < 0 ↔ (Int64.toInt r8) < (Int64.toInt z17) := by rw [← ez18]; exact lgI1 r8 z17
      have l2z18 : 0 < (Int32.toInt z18) ↔ (Int64.toInt z17) < (Int64.toInt r8) := by rw [← ez18]; exact lgI2 r8 z17
      refine r_lcmp 51 z18 C dX9_callOther_51 ez18 ?_
      refine r_if_le 52 57 C dX9_callOther_52 (by decide) (fun c19 => ?_) (fun c19 => ?_)
      · skip
        have k20 : (Int32.toInt z18) ≤ 0 := (fa_le z18 0).mp c19
        refine r_aload_n 57 2 C dX9_callOther_57 rfl ?_
        refine r_get 58 C dX9_callOther_58 (k := 0) 0 rfl rfl hiX9 (by decide) rfl (mg 1 rfl) (Or.inr (mg 2 rfl)) rfl ?_
        refine r_iconst 61 2 C dX9_callOther_61 (by decide) ?_
        refine r_callVv 62 C dX9_callOther_62 [] [(h1, .inr (6, [.ref h6, .ref h13, .int x10, .int x11]))] [(h0, .inr (8, [.ref h1, .ref h2, .ref h9, .int x0, .int x1, .long y0, .int x2, .int x3, .int x4, .int x5, .ref h10, .ref h11, .ref h12, .int x6, .int x7, .ref h3, .ref h4, .int x8, .ref h5, .int x9])), (h2, .inr (5, [.ref h7, .ref h8, .int x12, .int x13, .long y1, .long y2, .int x14])), (h3, .inl (gJ g, 7, .inr (.inl fm0))), (h4, .inl (gJ g, 7, .inr (.inl fm1))), (h5, .inl (gJ g, 24, .inr (.inl fm2))), (h7, .inl (gB g, 400, .inl fn0)), (h8, .inl (gJ g, 2400, .inr (.inl fm4))), (h6, .inl (gJ g, 48, .inr (.inl fm3)))] (fun sz => c235_X7_drop l g h1 2 h6 h13 x10 x11 i_x10 i_x11 sz) gX9_callOther_X7_drop rfl ⟨rfl, rfl⟩ 1 (by decide) ⟨Nat.le_of_ble_eq_true rfl, Nat.le_of_ble_eq_true rfl⟩ 8 rfl rfl [8] [0, 1, 2, 3, 4, 5, 6, 7] rfl rfl (by decide) (by decide) (by decide) rfl rfl (Nat.le_of_ble_eq_true rfl) ⟨Nat.le_of_ble_eq_true rfl, Nat.le_of_ble_eq_true rfl⟩ (fun  z21 w22 => ?_)
        refine r_ws [(h0, .inr (8, [.ref h1, .ref h2, .ref h9, .int x0, .int x1, .long y0, .int x2, .int x3, .int x4, .int x5, .ref h10, .ref h11, .ref h12, .int x6, .int x7, .ref h3, .ref h4, .int x8, .ref h5, .int x9])), (h2, .inr (5, [.ref h7, .ref h8, .int x12, .int x13, .long y1, .long y2, .int x14])), (h3, .inl (gJ g, 7, .inr (.inl fm0))), (h4, .inl (gJ g, 7, .inr (.inl fm1))), (h5, .inl (gJ g, 24, .inr (.inl fm2))), (h7, .inl (gB g, 400, .inl fn0)), (h8, .inl (gJ g, 2400, .inr (.inl fm4))), (h6, .inl (gJ g, 48, .inr (.inl fm3))), (h1, .inr (6, [.ref h6, .ref h13, .int z21, .int x11]))] rfl ?_
        have p23 : 0 ≤ (Int32.toInt z21) := w22.1
        have p24 : (Int32.toInt z21) ≤ 48 := w22.2
        refine r_aload_n 65 2 C dX9_callOther_65 rfl ?_
        refine r_iconst 66 0 C dX9_callOther_66 (by decide) ?_
        refine r_put 67 C dX9_callOther_67 (k := 19) 0 rfl rfl hiX9 tyX9 tyX9_ok nmX9 (by decide) rfl (mg 3 rfl) (Or.inl rfl) rfl rfl rfl rfl (Nat.le_of_ble_eq_true rfl) [(h0, .inr (8, [.ref h1, .ref h2, .ref h9, .int x0, .int x1, .long y0, .int x2, .int x3, .int x4, .int x5, .ref h10, .ref h11, .ref h12, .int x6, .int x7, .ref h3, .ref h4, .int x8, .ref h5, .int 0])), (h2, .inr (5, [.ref h7, .ref h8, .int x12, .int x13, .long y1, .long y2, .int x14])), (h3, .inl (gJ g, 7, .inr (.inl fm0))), (h4, .inl (gJ g, 7, .inr (.inl fm1))), (h5, .inl (gJ g, 24, .inr (.inl fm2))), (h7, .inl (gB g, 400, .inl fn0)), (h8, .inl (gJ g, 2400, .inr (.inl fm4))), (h6, .inl (gJ g, 48, .inr (.inl fm3))), (h1, .inr (6, [.ref h6, .ref h13, .int z21, .int x11]))] rfl ?_
        refine r_lload_n 70 0 C dX9_callOther_70 rfl ?_
        obtain ⟨z25, ez25⟩ : ∃ z_9, Int64.toInt32 r8 = z_9 := ⟨_, rfl⟩
        have tz25 : (Int32.toInt z25) = (Int64.toInt r8) := by rw [← ez25]; exact l2i_in (by omega) (by omega)
        refine r_l2i 71 z25 C dX9_callOther_71 ez25 ?_
        refine r_istore 72 C dX9_callOther_72 [(5, .int z25), (3, .long r8), (1, .long r6), (0, .ref h0)] (by decide) rfl ?_
        refine r_iconst 74 0 C dX9_callOther_74 (by decide) ?_
        refine r_istore 75 C dX9_callOther_75 [(6, .int 0), (5, .int z25), (3, .long r8), (1, .long r6), (0, .ref h0)] (by decide) rfl ?_
        refine r_lload_n 77 3 C dX9_callOther_77 rfl ?_
        refine r_lconst 78 0 C dX9_callOther_78 (by decide) ?_
        obtain ⟨z26, ez26⟩ : ∃ z_9, lg_cmp r6 0 = z_9 := ⟨_, rfl⟩
        have l1z26 : (Int32.toInt z26) < 0 ↔ (Int64.toInt r6) < 0 := by rw [← ez26]; exact lgI1 r6 0
        have l2z26 : 0 < (Int32.toInt z26) ↔ 0 < (Int64.toInt r6) := by rw [← ez26]; exact lgI2 r6 0
        refine r_lcmp 79 z26 C dX9_callOther_79 ez26 ?_
        refine r_if_lt 80 91 C dX9_callOther_80 (by decide) (fun c27 => ?_) (fun c27 => ?_)
        · skip
          have k28 : (Int32.toInt z26) < 0 := (fa_lt z26 0).mp c27
          refine r_aload_n 91 4 C dX9_callOther_91 rfl ?_
          refine r_iload 92 1 C dX9_callOther_92 rfl ?_
          refine r_callVv 94 C dX9_callOther_94 [] [(h0, .inr (8, [.ref h1, .ref h2, .ref h9, .int x0, .int x1, .long y0, .int x2, .int x3, .int x4, .int x5, .ref h10, .ref h11, .ref h12, .int x6, .int x7, .ref h3, .ref h4, .int x8, .ref h5, .int 0])), (h1, .inr (6, [.ref h6, .ref h13, .int z21, .int x11])), (h5, .inl (gJ g, 24, .inr (.inl fm2))), (h6, .inl (gJ g, 48, .inr (.inl fm3)))] [(h2, .inr (5, [.ref h7, .ref h8, .int x12, .int x13, .long y1, .long y2, .int x14])), (h3, .inl (gJ g, 7, .inr (.inl fm0))), (h4, .inl (gJ g, 7, .inr (.inl fm1))), (h7, .inl (gB g, 400, .inl fn0)), (h8, .inl (gJ g, 2400, .inr (.inl fm4)))] (fun sz => c241_X9_putAllBy l g h0 h1 h5 h6 z25 h2 h9 x0 x1 y0 x2 x3 x4 x5 h10 h11 h12 x6 x7 h3 h4 x8 0 h13 z21 x11 fm2 fm3 i_x5 i_x6 i_x7 i_x8 (by decide) ⟨p23, p24⟩ i_x11 sz) gX9_callOther_X9_putAllBy rfl ⟨rfl, rfl⟩ 1 (by decide) ⟨Nat.le_of_ble_eq_true rfl, Nat.le_of_ble_eq_true rfl⟩ 0 rfl rfl [0, 8, 4, 7] [1, 2, 3, 5, 6] rfl rfl (by decide) (by decide) (by decide) rfl rfl (Nat.le_of_ble_eq_true rfl) ⟨Nat.le_of_ble_eq_true rfl, Nat.le_of_ble_eq_true rfl⟩ (fun  u32 w31 => ?_)
          obtain ⟨z29, f30⟩ := u32
          refine r_ws [(h2, .inr (5, [.ref h7, .ref h8, .int x12, .int x13, .long y1, .long y2, .int x14])), (h3, .inl (gJ g, 7, .inr (.inl fm0))), (h4, .inl (gJ g, 7, .inr (.inl fm1))), (h7, .inl (gB g, 400, .inl fn0)), (h8, .inl (gJ g, 2400, .inr (.inl fm4))), (h0, .inr (8, [.ref h1, .ref h2, .ref h9, .int x0, .int x1, .long y0, .int x2, .int x3, .int x4, .int x5, .ref h10, .ref h11, .ref h12, .int x6, .int x7, .ref h3, .ref h4, .int x8, .ref h5, .int z29])), (h1, .inr (6, [.ref h6, .ref h13, .int z21, .int x11])), (h5, .inl (gJ g, 24, .inr (.inl f30))), (h6, .inl (gJ g, 48, .inr (.inl fm3)))] rfl ?_
          have p33 : 0 ≤ (Int32.toInt z29) := w31.1
          have p34 : (Int32.toInt z29) ≤ 24 := w31.2
          refine r_goto 97 169 C dX9_callOther_97 (by decide) ?_
          refine r_aload_n 169 4 C dX9_callOther_169 rfl ?_
          refine r_get 170 C dX9_callOther_170 (k := 0) 5 rfl rfl hiX9 (by decide) rfl (mg 1 rfl) (Or.inr (mg 2 rfl)) rfl ?_
          refine r_iload 173 1 C dX9_callOther_173 rfl ?_
          refine r_callVv 175 C dX9_callOther_175 [] [(h1, .inr (6, [.ref h6, .ref h13, .int z21, .int x11]))] [(h2, .inr (5, [.ref h7, .ref h8, .int x12, .int x13, .long y1, .long y2, .int x14])), (h3, .inl (gJ g, 7, .inr (.inl fm0))), (h4, .inl (gJ g, 7, .inr (.inl fm1))), (h7, .inl (gB g, 400, .inl fn0)), (h8, .inl (gJ g, 2400, .inr (.inl fm4))), (h0, .inr (8, [.ref h1, .ref h2, .ref h9, .int x0, .int x1, .long y0, .int x2, .int x3, .int x4, .int x5, .ref h10, .ref h11, .ref h12, .int x6, .int x7, .ref h3, .ref h4, .int x8, .ref h5, .int z29])), (h5, .inl (gJ g, 24, .inr (.inl f30))), (h6, .inl (gJ g, 48, .inr (.inl fm3)))] (fun sz => c235_X7_drop l g h1 z25 h6 h13 z21 x11 ⟨p23, p24⟩ i_x11 sz) gX9_callOther_X7_drop rfl ⟨rfl, rfl⟩ 1 (by decide) ⟨Nat.le_of_ble_eq_true rfl, Nat.le_of_ble_eq_true rfl⟩ 6 rfl rfl [6] [0, 1, 2, 3, 4, 5, 7, 8] rfl rfl (by decide) (by decide) (by decide) rfl rfl (Nat.le_of_ble_eq_true rfl) ⟨Nat.le_of_ble_eq_true rfl, Nat.le_of_ble_eq_true rfl⟩ (fun  z35 w36 => ?_)
          refine r_ws [(h2, .inr (5, [.ref h7, .ref h8, .int x12, .int x13, .long y1, .long y2, .int x14])), (h3, .inl (gJ g, 7, .inr (.inl fm0))), (h4, .inl (gJ g, 7, .inr (.inl fm1))), (h7, .inl (gB g, 400, .inl fn0)), (h8, .inl (gJ g, 2400, .inr (.inl fm4))), (h0, .inr (8, [.ref h1, .ref h2, .ref h9, .int x0, .int x1, .long y0, .int x2, .int x3, .int x4, .int x5, .ref h10, .ref h11, .ref h12, .int x6, .int x7, .ref h3, .ref h4, .int x8, .ref h5, .int z29])), (h5, .inl (gJ g, 24, .inr (.inl f30))), (h6, .inl (gJ g, 48, .inr (.inl fm3))), (h1, .inr (6, [.ref h6, .ref h13, .int z35, .int x11]))] rfl ?_
          have p37 : 0 ≤ (Int32.toInt z35) := w36.1
          have p38 : (Int32.toInt z35) ≤ 48 := w36.2
          refine r_iload 178 0 C dX9_callOther_178 rfl ?_
          exact r_iret 180 Rt dX9_callOther_180 (x7, x8, z29, z35, x12, y1, y2, x14, fm0, fm1, f30, fn0, fm4) (show 0 ≤ (Int32.toInt 0) ∧ (Int32.toInt 0) ≤ 9 ∧ 0 ≤ (Int32.toInt x7) ∧ (Int32.toInt x7) ≤ 1 ∧ 0 ≤ (Int32.toInt x8) ∧ (Int32.toInt x8) ≤ 7 ∧ 0 ≤ (Int32.toInt z29) ∧ (Int32.toInt z29) ≤ 24 ∧ 0 ≤ (Int32.toInt z35) ∧ (Int32.toInt z35) ≤ 48 ∧ 0 ≤ (Int32.toInt x12) ∧ (Int32.toInt x12) ≤ 400 ∧ 0 ≤ (Int32.toInt x14) ∧ (Int32.toInt x14) ≤ 1 from ⟨(by ((repeat' apply And.intro) <;> first | trivial | rfl | assumption | omega | decide | exact Or.inl rfl | exact Or.inr (Or.inl rfl) | exact Or.inr (Or.inr rfl))), (by ((repeat' apply And.intro) <;> first | trivial | rfl | assumption | omega | decide | exact Or.inl rfl | exact Or.inr (Or.inl rfl) | exact Or.inr (Or.inr rfl))), i_x7.1, i_x7.2, i_x8.1, i_x8.2, (show _ ∧ _ from ⟨p33, p34⟩).1, (show _ ∧ _ from ⟨p33, p34⟩).2, (show _ ∧ _ from ⟨p37, p38⟩).1, (show _ ∧ _ from ⟨p37, p38⟩).2, i_x12.1, i_x12.2, i_x14.1, i_x14.2⟩) [5, 8, 0, 1, 2, 6, 7, 3, 4] (by decide) rfl (Nat.le_of_ble_eq_true rfl) (Nat.le_of_ble_eq_true rfl)
        · skip
          have k39 : ¬ ((Int32.toInt z26) < 0) := fun h_9 => c27 ((fa_lt z26 0).mpr h_9)
          refine r_lload_n 83 3 C dX9_callOther_83 rfl ?_
          refine r_ldc2 84 3 C dX9_callOther_84 (mg 4 rfl) ?_
          obtain ⟨z40, ez40⟩ : ∃ z_9, lg_cmp r6 3 = z_9 := ⟨_, rfl⟩
          have l1z40 : (Int32.toInt z40) < 0 ↔ (Int64.toInt r6) < 3 := by rw [← ez40]; exact lgI1 r6 3
          have l2z40 : 0 < (Int32.toInt z40) ↔ 3 < (Int64.toInt r6) := by rw [← ez40]; exact lgI2 r6 3
          refine r_lcmp 87 z40 C dX9_callOther_87 ez40 ?_
          refine r_if_le 88 100 C dX9_callOther_88 (by decide) (fun c41 => ?_) (fun c41 => ?_)
          · skip
            have k42 : (Int32.toInt z40) ≤ 0 := (fa_le z40 0).mp c41
            refine r_iload 100 1 C dX9_callOther_100 rfl ?_
            refine r_lload_n 102 3 C dX9_callOther_102 rfl ?_
            obtain ⟨z43, ez43⟩ : ∃ z_9, Int64.toInt32 r6 = z_9 := ⟨_, rfl⟩
            have tz43 : (Int32.toInt z43) = (Int64.toInt r6) := by rw [← ez43]; exact l2i_in (by omega) (by omega)
            refine r_l2i 103 z43 C dX9_callOther_103 ez43 ?_
            refine r_callSi 104 C dX9_callOther_104 [.int z25] [] [(h0, .inr (8, [.ref h1, .ref h2, .ref h9, .int x0, .int x1, .long y0, .int x2, .int x3, .int x4, .int x5, .ref h10, .ref h11, .ref h12, .int x6, .int x7, .ref h3, .ref h4, .int x8, .ref h5, .int 0])), (h2, .inr (5, [.ref h7, .ref h8, .int x12, .int x13, .long y1, .long y2, .int x14])), (h3, .inl (gJ g, 7, .inr (.inl fm0))), (h4, .inl (gJ g, 7, .inr (.inl fm1))), (h5, .inl (gJ g, 24, .inr (.inl fm2))), (h7, .inl (gB g, 400, .inl fn0)), (h8, .inl (gJ g, 2400, .inr (.inl fm4))), (h6, .inl (gJ g, 48, .inr (.inl fm3))), (h1, .inr (6, [.ref h6, .ref h13, .int z21, .int x11]))] (fun sz => c242_X9_takenBy l g z43  sz) gX9_callOther_X9_takenBy rfl ⟨rfl, rfl⟩ 1 (by decide) ⟨Nat.le_of_ble_eq_true rfl, Nat.le_of_ble_eq_true rfl⟩ [] [0, 1, 2, 3, 4, 5, 6, 7, 8] rfl rfl (by decide) (by decide) (by decide) rfl rfl (Nat.le_of_ble_eq_true rfl) ⟨Nat.le_of_ble_eq_true rfl, Nat.le_of_ble_eq_true rfl⟩ (fun r44 _ w45 => ?_)
            refine r_ws [(h0, .inr (8, [.ref h1, .ref h2, .ref h9, .int x0, .int x1, .long y0, .int x2, .int x3, .int x4, .int x5, .ref h10, .ref h11, .ref h12, .int x6, .int x7, .ref h3, .ref h4, .int x8, .ref h5, .int 0])), (h2, .inr (5, [.ref h7, .ref h8, .int x12, .int x13, .long y1, .long y2, .int x14])), (h3, .inl (gJ g, 7, .inr (.inl fm0))), (h4, .inl (gJ g, 7, .inr (.inl fm1))), (h5, .inl (gJ g, 24, .inr (.inl fm2))), (h7, .inl (gB g, 400, .inl fn0)), (h8, .inl (gJ g, 2400, .inr (.inl fm4))), (h6, .inl (gJ g, 48, .inr (.inl fm3))), (h1, .inr (6, [.ref h6, .ref h13, .int z21, .int x11]))] rfl ?_
            have p46 : 0 ≤ (Int32.toInt r44) := w45.1
            have p47 : (Int32.toInt r44) ≤ 3 := w45.2
            refine r_icmp_eq 107 117 C dX9_callOther_107 (by decide) (fun c48 => ?_) (fun c48 => ?_)
            · skip
              have k49 : (Int32.toInt z25) = (Int32.toInt r44) := (fa_eq z25 r44).mp c48
              refine r_lload_n 117 3 C dX9_callOther_117 rfl ?_
              refine r_lconst 118 0 C dX9_callOther_118 (by decide) ?_
              obtain ⟨z50, ez50⟩ : ∃ z_9, lg_cmp r6 0 = z_9 := ⟨_, rfl⟩
              have l1z50 : (Int32.toInt z50) < 0 ↔ (Int64.toInt r6) < 0 := by rw [← ez50]; exact lgI1 r6 0
              have l2z50 : 0 < (Int32.toInt z50) ↔ 0 < (Int64.toInt r6) := by rw [← ez50]; exact lgI2 r6 0
              refine r_lcmp 119 z50 C dX9_callOther_119 ez50 ?_
              refine r_if_ne 120 132 C dX9_callOther_120 (by decide) (fun c51 => ?_) (fun c51 => ?_)
              · skip
                have k52 : ¬ ((Int32.toInt z50) = 0) := fun h_9 => c51 ((fa_eq z50 0).mpr h_9)
                refine r_lload_n 132 3 C dX9_callOther_132 rfl ?_
                refine r_lconst 133 1 C dX9_callOther_133 (by decide) ?_
                obtain ⟨z53, ez53⟩ : ∃ z_9, lg_cmp r6 1 = z_9 := ⟨_, rfl⟩
                have l1z53 : (Int32.toInt z53) < 0 ↔ (Int64.toInt r6) < 1 := by rw [← ez53]; exact lgI1 r6 1
                have l2z53 : 0 < (Int32.toInt z53) ↔ 1 < (Int64.toInt r6) := by rw [← ez53]; exact lgI2 r6 1
                refine r_lcmp 134 z53 C dX9_callOther_134 ez53 ?_
                refine r_if_ne 135 145 C dX9_callOther_135 (by decide) (fun c54 => ?_) (fun c54 => ?_)
                · skip
                  have k55 : ¬ ((Int32.toInt z53) = 0) := fun h_9 => c54 ((fa_eq z53 0).mpr h_9)
                  refine r_lload_n 145 3 C dX9_callOther_145 rfl ?_
                  refine r_ldc2 146 2 C dX9_callOther_146 (mg 5 rfl) ?_
                  obtain ⟨z56, ez56⟩ : ∃ z_9, lg_cmp r6 2 = z_9 := ⟨_, rfl⟩
                  have l1z56 : (Int32.toInt z56) < 0 ↔ (Int64.toInt r6) < 2 := by rw [← ez56]; exact lgI1 r6 2
                  have l2z56 : 0 < (Int32.toInt z56) ↔ 2 < (Int64.toInt r6) := by rw [← ez56]; exact lgI2 r6 2
                  refine r_lcmp 149 z56 C dX9_callOther_149 ez56 ?_
                  refine r_if_ne 150 162 C dX9_callOther_150 (by decide) (fun c57 => ?_) (fun c57 => ?_)
                  · skip
                    have k58 : ¬ ((Int32.toInt z56) = 0) := fun h_9 => c57 ((fa_eq z56 0).mpr h_9)
                    refine r_aload_n 162 4 C dX9_callOther_162 rfl ?_
                    refine r_ldc2 163 196608 C dX9_callOther_163 (mg 6 rfl) ?_
                    refine r_callVv 166 C dX9_callOther_166 [] [(h0, .inr (8, [.ref h1, .ref h2, .ref h9, .int x0, .int x1, .long y0, .int x2, .int x3, .int x4, .int x5, .ref h10, .ref h11, .ref h12, .int x6, .int x7, .ref h3, .ref h4, .int x8, .ref h5, .int 0])), (h5, .inl (gJ g, 24, .inr (.inl fm2)))] [(h2, .inr (5, [.ref h7, .ref h8, .int x12, .int x13, .long y1, .long y2, .int x14])), (h3, .inl (gJ g, 7, .inr (.inl fm0))), (h4, .inl (gJ g, 7, .inr (.inl fm1))), (h7, .inl (gB g, 400, .inl fn0)), (h8, .inl (gJ g, 2400, .inr (.inl fm4))), (h6, .inl (gJ g, 48, .inr (.inl fm3))), (h1, .inr (6, [.ref h6, .ref h13, .int z21, .int x11]))] (fun sz => c240_X9_putOneBy l g h0 h5 196608 h1 h2 h9 x0 x1 y0 x2 x3 x4 x5 h10 h11 h12 x6 x7 h3 h4 x8 0 fm2 i_x5 i_x6 i_x7 i_x8 (by decide) sz) gX9_callOther_X9_putOneBy rfl ⟨rfl, rfl⟩ 1 (by decide) ⟨Nat.le_of_ble_eq_true rfl, Nat.le_of_ble_eq_true rfl⟩ 0 rfl rfl [0, 4] [1, 2, 3, 5, 6, 7, 8] rfl rfl (by decide) (by decide) (by decide) rfl rfl (Nat.le_of_ble_eq_true rfl) ⟨Nat.le_of_ble_eq_true rfl, Nat.le_of_ble_eq_true rfl⟩ (fun  u62 w61 => ?_)
                    obtain ⟨z59, f60⟩ := u62
                    refine r_ws [(h2, .inr (5, [.ref h7, .ref h8, .int x12, .int x13, .long y1, .long y2, .int x14])), (h3, .inl (gJ g, 7, .inr (.inl fm0))), (h4, .inl (gJ g, 7, .inr (.inl fm1))), (h7, .inl (gB g, 400, .inl fn0)), (h8, .inl (gJ g, 2400, .inr (.inl fm4))), (h6, .inl (gJ g, 48, .inr (.inl fm3))), (h1, .inr (6, [.ref h6, .ref h13, .int z21, .int x11])), (h0, .inr (8, [.ref h1, .ref h2, .ref h9, .int x0, .int x1, .long y0, .int x2, .int x3, .int x4, .int x5, .ref h10, .ref h11, .ref h12, .int x6, .int x7, .ref h3, .ref h4, .int x8, .ref h5, .int z59])), (h5, .inl (gJ g, 24, .inr (.inl f60)))] rfl ?_
                    have p63 : 0 ≤ (Int32.toInt z59) := w61.1
                    have p64 : (Int32.toInt z59) ≤ 24 := w61.2
                    refine r_aload_n 169 4 C dX9_callOther_169 rfl ?_
                    refine r_get 170 C dX9_callOther_170 (k := 0) 7 rfl rfl hiX9 (by decide) rfl (mg 1 rfl) (Or.inr (mg 2 rfl)) rfl ?_
                    refine r_iload 173 1 C dX9_callOther_173 rfl ?_
                    refine r_callVv 175 C dX9_callOther_175 [] [(h1, .inr (6, [.ref h6, .ref h13, .int z21, .int x11]))] [(h2, .inr (5, [.ref h7, .ref h8, .int x12, .int x13, .long y1, .long y2, .int x14])), (h3, .inl (gJ g, 7, .inr (.inl fm0))), (h4, .inl (gJ g, 7, .inr (.inl fm1))), (h7, .inl (gB g, 400, .inl fn0)), (h8, .inl (gJ g, 2400, .inr (.inl fm4))), (h6, .inl (gJ g, 48, .inr (.inl fm3))), (h0, .inr (8, [.ref h1, .ref h2, .ref h9, .int x0, .int x1, .long y0, .int x2, .int x3, .int x4, .int x5, .ref h10, .ref h11, .ref h12, .int x6, .int x7, .ref h3, .ref h4, .int x8, .ref h5, .int z59])), (h5, .inl (gJ g, 24, .inr (.inl f60)))] (fun sz => c235_X7_drop l g h1 z25 h6 h13 z21 x11 ⟨p23, p24⟩ i_x11 sz) gX9_callOther_X7_drop rfl ⟨rfl, rfl⟩ 1 (by decide) ⟨Nat.le_of_ble_eq_true rfl, Nat.le_of_ble_eq_true rfl⟩ 6 rfl rfl [6] [0, 1, 2, 3, 4, 5, 7, 8] rfl rfl (by decide) (by decide) (by decide) rfl rfl (Nat.le_of_ble_eq_true rfl) ⟨Nat.le_of_ble_eq_true rfl, Nat.le_of_ble_eq_true rfl⟩ (fun  z65 w66 => ?_)
                    refine r_ws [(h2, .inr (5, [.ref h7, .ref h8, .int x12, .int x13, .long y1, .long y2, .int x14])), (h3, .inl (gJ g, 7, .inr (.inl fm0))), (h4, .inl (gJ g, 7, .inr (.inl fm1))), (h7, .inl (gB g, 400, .inl fn0)), (h8, .inl (gJ g, 2400, .inr (.inl fm4))), (h6, .inl (gJ g, 48, .inr (.inl fm3))), (h0, .inr (8, [.ref h1, .ref h2, .ref h9, .int x0, .int x1, .long y0, .int x2, .int x3, .int x4, .int x5, .ref h10, .ref h11, .ref h12, .int x6, .int x7, .ref h3, .ref h4, .int x8, .ref h5, .int z59])), (h5, .inl (gJ g, 24, .inr (.inl f60))), (h1, .inr (6, [.ref h6, .ref h13, .int z65, .int x11]))] rfl ?_
                    have p67 : 0 ≤ (Int32.toInt z65) := w66.1
                    have p68 : (Int32.toInt z65) ≤ 48 := w66.2
                    refine r_iload 178 0 C dX9_callOther_178 rfl ?_
                    exact r_iret 180 Rt dX9_callOther_180 (x7, x8, z59, z65, x12, y1, y2, x14, fm0, fm1, f60, fn0, fm4) (show 0 ≤ (Int32.toInt 0) ∧ (Int32.toInt 0) ≤ 9 ∧ 0 ≤ (Int32.toInt x7) ∧ (Int32.toInt x7) ≤ 1 ∧ 0 ≤ (Int32.toInt x8) ∧ (Int32.toInt x8) ≤ 7 ∧ 0 ≤ (Int32.toInt z59) ∧ (Int32.toInt z59) ≤ 24 ∧ 0 ≤ (Int32.toInt z65) ∧ (Int32.toInt z65) ≤ 48 ∧ 0 ≤ (Int32.toInt x12) ∧ (Int32.toInt x12) ≤ 400 ∧ 0 ≤ (Int32.toInt x14) ∧ (Int32.toInt x14) ≤ 1 from ⟨(by ((repeat' apply And.intro) <;> first | trivial | rfl | assumption | omega | decide | exact Or.inl rfl | exact Or.inr (Or.inl rfl) | exact Or.inr (Or.inr rfl))), (by ((repeat' apply And.intro) <;> first | trivial | rfl | assumption | omega | decide | exact Or.inl rfl | exact Or.inr (Or.inl rfl) | exact Or.inr (Or.inr rfl))), i_x7.1, i_x7.2, i_x8.1, i_x8.2, (show _ ∧ _ from ⟨p63, p64⟩).1, (show _ ∧ _ from ⟨p63, p64⟩).2, (show _ ∧ _ from ⟨p67, p68⟩).1, (show _ ∧ _ from ⟨p67, p68⟩).2, i_x12.1, i_x12.2, i_x14.1, i_x14.2⟩) [6, 8, 0, 1, 2, 7, 5, 3, 4] (by decide) rfl (Nat.le_of_ble_eq_true rfl) (Nat.le_of_ble_eq_true rfl)
                  · skip
                    have k69 : (Int32.toInt z56) = 0 := (fa_eq z56 0).mp c57
                    refine r_aload_n 153 4 C dX9_callOther_153 rfl ?_
                    refine r_callVi 154 C dX9_callOther_154 [] [(h0, .inr (8, [.ref h1, .ref h2, .ref h9, .int x0, .int x1, .long y0, .int x2, .int x3, .int x4, .int x5, .ref h10, .ref h11, .ref h12, .int x6, .int x7, .ref h3, .ref h4, .int x8, .ref h5, .int 0])), (h2, .inr (5, [.ref h7, .ref h8, .int x12, .int x13, .long y1, .long y2, .int x14])), (h3, .inl (gJ g, 7, .inr (.inl fm0))), (h4, .inl (gJ g, 7, .inr (.inl fm1)))] [(h5, .inl (gJ g, 24, .inr (.inl fm2))), (h7, .inl (gB g, 400, .inl fn0)), (h8, .inl (gJ g, 2400, .inr (.inl fm4))), (h6, .inl (gJ g, 48, .inr (.inl fm3))), (h1, .inr (6, [.ref h6, .ref h13, .int z21, .int x11]))] (fun sz => c243_X9_keepPoint l g h0 h2 h3 h4 h1 h9 x0 x1 y0 x2 x3 x4 x5 h10 h11 h12 x6 x7 x8 h5 0 h7 h8 x12 x13 y1 y2 x14 fm0 fm1 i_x5 i_x6 i_x7 i_x8 (by decide) i_x12 i_x13 i_x14 sz) gX9_callOther_X9_keepPoint rfl ⟨rfl, rfl⟩ 0 (by decide) ⟨Nat.le_of_ble_eq_true rfl, Nat.le_of_ble_eq_true rfl⟩ 0 rfl rfl [0, 1, 2, 3] [4, 5, 6, 7, 8] rfl rfl (by decide) (by decide) (by decide) rfl rfl (Nat.le_of_ble_eq_true rfl) ⟨Nat.le_of_ble_eq_true rfl, Nat.le_of_ble_eq_true rfl⟩ (fun r73 u75 w74 => ?_)
                    obtain ⟨z70, f71, f72⟩ := u75
                    refine r_ws [(h5, .inl (gJ g, 24, .inr (.inl fm2))), (h7, .inl (gB g, 400, .inl fn0)), (h8, .inl (gJ g, 2400, .inr (.inl fm4))), (h6, .inl (gJ g, 48, .inr (.inl fm3))), (h1, .inr (6, [.ref h6, .ref h13, .int z21, .int x11])), (h0, .inr (8, [.ref h1, .ref h2, .ref h9, .int x0, .int x1, .long y0, .int x2, .int x3, .int x4, .int x5, .ref h10, .ref h11, .ref h12, .int x6, .int x7, .ref h3, .ref h4, .int z70, .ref h5, .int 0])), (h2, .inr (5, [.ref h7, .ref h8, .int x12, .int x13, .long y1, .long y2, .int x14])), (h3, .inl (gJ g, 7, .inr (.inl f71))), (h4, .inl (gJ g, 7, .inr (.inl f72)))] rfl ?_
                    have p76 : 0 ≤ (Int32.toInt r73) := w74.1
                    have p77 : (Int32.toInt r73) ≤ 9 := w74.2.1
                    have p78 : 0 ≤ (Int32.toInt z70) := w74.2.2.1
                    have p79 : (Int32.toInt z70) ≤ 7 := w74.2.2.2
                    refine r_istore 157 C dX9_callOther_157 [(6, .int r73), (5, .int z25), (3, .long r8), (1, .long r6), (0, .ref h0)] (by decide) rfl ?_
                    refine r_goto 159 169 C dX9_callOther_159 (by decide) ?_
                    refine r_aload_n 169 4 C dX9_callOther_169 rfl ?_
                    refine r_get 170 C dX9_callOther_170 (k := 0) 5 rfl rfl hiX9 (by decide) rfl (mg 1 rfl) (Or.inr (mg 2 rfl)) rfl ?_
                    refine r_iload 173 1 C dX9_callOther_173 rfl ?_
                    refine r_callVv 175 C dX9_callOther_175 [] [(h1, .inr (6, [.ref h6, .ref h13, .int z21, .int x11]))] [(h5, .inl (gJ g, 24, .inr (.inl fm2))), (h7, .inl (gB g, 400, .inl fn0)), (h8, .inl (gJ g, 2400, .inr (.inl fm4))), (h6, .inl (gJ g, 48, .inr (.inl fm3))), (h0, .inr (8, [.ref h1, .ref h2, .ref h9, .int x0, .int x1, .long y0, .int x2, .int x3, .int x4, .int x5, .ref h10, .ref h11, .ref h12, .int x6, .int x7, .ref h3, .ref h4, .int z70, .ref h5, .int 0])), (h2, .inr (5, [.ref h7, .ref h8, .int x12, .int x13, .long y1, .long y2, .int x14])), (h3, .inl (gJ g, 7, .inr (.inl f71))), (h4, .inl (gJ g, 7, .inr (.inl f72)))] (fun sz => c235_X7_drop l g h1 z25 h6 h13 z21 x11 ⟨p23, p24⟩ i_x11 sz) gX9_callOther_X7_drop rfl ⟨rfl, rfl⟩ 1 (by decide) ⟨Nat.le_of_ble_eq_true rfl, Nat.le_of_ble_eq_true rfl⟩ 4 rfl rfl [4] [0, 1, 2, 3, 5, 6, 7, 8] rfl rfl (by decide) (by decide) (by decide) rfl rfl (Nat.le_of_ble_eq_true rfl) ⟨Nat.le_of_ble_eq_true rfl, Nat.le_of_ble_eq_true rfl⟩ (fun  z80 w81 => ?_)
                    refine r_ws [(h5, .inl (gJ g, 24, .inr (.inl fm2))), (h7, .inl (gB g, 400, .inl fn0)), (h8, .inl (gJ g, 2400, .inr (.inl fm4))), (h6, .inl (gJ g, 48, .inr (.inl fm3))), (h0, .inr (8, [.ref h1, .ref h2, .ref h9, .int x0, .int x1, .long y0, .int x2, .int x3, .int x4, .int x5, .ref h10, .ref h11, .ref h12, .int x6, .int x7, .ref h3, .ref h4, .int z70, .ref h5, .int 0])), (h2, .inr (5, [.ref h7, .ref h8, .int x12, .int x13, .long y1, .long y2, .int x14])), (h3, .inl (gJ g, 7, .inr (.inl f71))), (h4, .inl (gJ g, 7, .inr (.inl f72))), (h1, .inr (6, [.ref h6, .ref h13, .int z80, .int x11]))] rfl ?_
                    have p82 : 0 ≤ (Int32.toInt z80) := w81.1
                    have p83 : (Int32.toInt z80) ≤ 48 := w81.2
                    refine r_iload 178 0 C dX9_callOther_178 rfl ?_
                    exact r_iret 180 Rt dX9_callOther_180 (x7, z70, 0, z80, x12, y1, y2, x14, f71, f72, fm2, fn0, fm4) (show 0 ≤ (Int32.toInt r73) ∧ (Int32.toInt r73) ≤ 9 ∧ 0 ≤ (Int32.toInt x7) ∧ (Int32.toInt x7) ≤ 1 ∧ 0 ≤ (Int32.toInt z70) ∧ (Int32.toInt z70) ≤ 7 ∧ 0 ≤ (Int32.toInt 0) ∧ (Int32.toInt 0) ≤ 24 ∧ 0 ≤ (Int32.toInt z80) ∧ (Int32.toInt z80) ≤ 48 ∧ 0 ≤ (Int32.toInt x12) ∧ (Int32.toInt x12) ≤ 400 ∧ 0 ≤ (Int32.toInt x14) ∧ (Int32.toInt x14) ≤ 1 from ⟨(show _ ∧ _ from ⟨p76, p77⟩).1, (show _ ∧ _ from ⟨p76, p77⟩).2, i_x7.1, i_x7.2, (show _ ∧ _ from ⟨p78, p79⟩).1, (show _ ∧ _ from ⟨p78, p79⟩).2, (by ((repeat' apply And.intro) <;> first | trivial | rfl | assumption | omega | decide | exact Or.inl rfl | exact Or.inr (Or.inl rfl) | exact Or.inr (Or.inr rfl))), (by ((repeat' apply And.intro) <;> first | trivial | rfl | assumption | omega | decide | exact Or.inl rfl | exact Or.inr (Or.inl rfl) | exact Or.inr (Or.inr rfl))), (show _ ∧ _ from ⟨p82, p83⟩).1, (show _ ∧ _ from ⟨p82, p83⟩).2, i_x12.1, i_x12.2, i_x14.1, i_x14.2⟩) [4, 8, 5, 6, 7, 0, 3, 1, 2] (by decide) rfl (Nat.le_of_ble_eq_true rfl) (Nat.le_of_ble_eq_true rfl)
                · skip
                  have k84 : (Int32.toInt z53) = 0 := (fa_eq z53 0).mp c54
                  refine r_aload_n 138 4 C dX9_callOther_138 rfl ?_
                  refine r_callVv 139 C dX9_callOther_139 [] [(h0, .inr (8, [.ref h1, .ref h2, .ref h9, .int x0, .int x1, .long y0, .int x2, .int x3, .int x4, .int x5, .ref h10, .ref h11, .ref h12, .int x6, .int x7, .ref h3, .ref h4, .int x8, .ref h5, .int 0]))] [(h2, .inr (5, [.ref h7, .ref h8, .int x12, .int x13, .long y1, .long y2, .int x14])), (h3, .inl (gJ g, 7, .inr (.inl fm0))), (h4, .inl (gJ g, 7, .inr (.inl fm1))), (h5, .inl (gJ g, 24, .inr (.inl fm2))), (h7, .inl (gB g, 400, .inl fn0)), (h8, .inl (gJ g, 2400, .inr (.inl fm4))), (h6, .inl (gJ g, 48, .inr (.inl fm3))), (h1, .inr (6, [.ref h6, .ref h13, .int z21, .int x11]))] (fun sz => c244_X9_beginFlex l g h0 h1 h2 h9 x0 x1 y0 x2 x3 x4 x5 h10 h11 h12 x6 x7 h3 h4 x8 h5 0 i_x5 i_x6 i_x7 i_x8 (by decide) sz) gX9_callOther_X9_beginFlex rfl ⟨rfl, rfl⟩ 0 (by decide) ⟨Nat.le_of_ble_eq_true rfl, Nat.le_of_ble_eq_true rfl⟩ 0 rfl rfl [0] [1, 2, 3, 4, 5, 6, 7, 8] rfl rfl (by decide) (by decide) (by decide) rfl rfl (Nat.le_of_ble_eq_true rfl) ⟨Nat.le_of_ble_eq_true rfl, Nat.le_of_ble_eq_true rfl⟩ (fun  _ w85 => ?_)
                  refine r_ws [(h2, .inr (5, [.ref h7, .ref h8, .int x12, .int x13, .long y1, .long y2, .int x14])), (h3, .inl (gJ g, 7, .inr (.inl fm0))), (h4, .inl (gJ g, 7, .inr (.inl fm1))), (h5, .inl (gJ g, 24, .inr (.inl fm2))), (h7, .inl (gB g, 400, .inl fn0)), (h8, .inl (gJ g, 2400, .inr (.inl fm4))), (h6, .inl (gJ g, 48, .inr (.inl fm3))), (h1, .inr (6, [.ref h6, .ref h13, .int z21, .int x11])), (h0, .inr (8, [.ref h1, .ref h2, .ref h9, .int x0, .int x1, .long y0, .int x2, .int x3, .int x4, .int x5, .ref h10, .ref h11, .ref h12, .int x6, .int 1, .ref h3, .ref h4, .int 0, .ref h5, .int 0]))] rfl ?_
                  refine r_goto 142 169 C dX9_callOther_142 (by decide) ?_
                  refine r_aload_n 169 4 C dX9_callOther_169 rfl ?_
                  refine r_get 170 C dX9_callOther_170 (k := 0) 8 rfl rfl hiX9 (by decide) rfl (mg 1 rfl) (Or.inr (mg 2 rfl)) rfl ?_
                  refine r_iload 173 1 C dX9_callOther_173 rfl ?_
                  refine r_callVv 175 C dX9_callOther_175 [] [(h1, .inr (6, [.ref h6, .ref h13, .int z21, .int x11]))] [(h2, .inr (5, [.ref h7, .ref h8, .int x12, .int x13, .long y1, .long y2, .int x14])), (h3, .inl (gJ g, 7, .inr (.inl fm0))), (h4, .inl (gJ g, 7, .inr (.inl fm1))), (h5, .inl (gJ g, 24, .inr (.inl fm2))), (h7, .inl (gB g, 400, .inl fn0)), (h8, .inl (gJ g, 2400, .inr (.inl fm4))), (h6, .inl (gJ g, 48, .inr (.inl fm3))), (h0, .inr (8, [.ref h1, .ref h2, .ref h9, .int x0, .int x1, .long y0, .int x2, .int x3, .int x4, .int x5, .ref h10, .ref h11, .ref h12, .int x6, .int 1, .ref h3, .ref h4, .int 0, .ref h5, .int 0]))] (fun sz => c235_X7_drop l g h1 z25 h6 h13 z21 x11 ⟨p23, p24⟩ i_x11 sz) gX9_callOther_X7_drop rfl ⟨rfl, rfl⟩ 1 (by decide) ⟨Nat.le_of_ble_eq_true rfl, Nat.le_of_ble_eq_true rfl⟩ 7 rfl rfl [7] [0, 1, 2, 3, 4, 5, 6, 8] rfl rfl (by decide) (by decide) (by decide) rfl rfl (Nat.le_of_ble_eq_true rfl) ⟨Nat.le_of_ble_eq_true rfl, Nat.le_of_ble_eq_true rfl⟩ (fun  z86 w87 => ?_)
                  refine r_ws [(h2, .inr (5, [.ref h7, .ref h8, .int x12, .int x13, .long y1, .long y2, .int x14])), (h3, .inl (gJ g, 7, .inr (.inl fm0))), (h4, .inl (gJ g, 7, .inr (.inl fm1))), (h5, .inl (gJ g, 24, .inr (.inl fm2))), (h7, .inl (gB g, 400, .inl fn0)), (h8, .inl (gJ g, 2400, .inr (.inl fm4))), (h6, .inl (gJ g, 48, .inr (.inl fm3))), (h0, .inr (8, [.ref h1, .ref h2, .ref h9, .int x0, .int x1, .long y0, .int x2, .int x3, .int x4, .int x5, .ref h10, .ref h11, .ref h12, .int x6, .int 1, .ref h3, .ref h4, .int 0, .ref h5, .int 0])), (h1, .inr (6, [.ref h6, .ref h13, .int z86, .int x11]))] rfl ?_
                  have p88 : 0 ≤ (Int32.toInt z86) := w87.1
                  have p89 : (Int32.toInt z86) ≤ 48 := w87.2
                  refine r_iload 178 0 C dX9_callOther_178 rfl ?_
                  exact r_iret 180 Rt dX9_callOther_180 (1, 0, 0, z86, x12, y1, y2, x14, fm0, fm1, fm2, fn0, fm4) (show 0 ≤ (Int32.toInt 0) ∧ (Int32.toInt 0) ≤ 9 ∧ 0 ≤ (Int32.toInt 1) ∧ (Int32.toInt 1) ≤ 1 ∧ 0 ≤ (Int32.toInt 0) ∧ (Int32.toInt 0) ≤ 7 ∧ 0 ≤ (Int32.toInt 0) ∧ (Int32.toInt 0) ≤ 24 ∧ 0 ≤ (Int32.toInt z86) ∧ (Int32.toInt z86) ≤ 48 ∧ 0 ≤ (Int32.toInt x12) ∧ (Int32.toInt x12) ≤ 400 ∧ 0 ≤ (Int32.toInt x14) ∧ (Int32.toInt x14) ≤ 1 from ⟨(by ((repeat' apply And.intro) <;> first | trivial | rfl | assumption | omega | decide | exact Or.inl rfl | exact Or.inr (Or.inl rfl) | exact Or.inr (Or.inr rfl))), (by ((repeat' apply And.intro) <;> first | trivial | rfl | assumption | omega | decide | exact Or.inl rfl | exact Or.inr (Or.inl rfl) | exact Or.inr (Or.inr rfl))), (by ((repeat' apply And.intro) <;> first | trivial | rfl | assumption | omega | decide | exact Or.inl rfl | exact Or.inr (Or.inl rfl) | exact Or.inr (Or.inr rfl))), (by ((repeat' apply And.intro) <;> first | trivial | rfl | assumption | omega | decide | exact Or.inl rfl | exact Or.inr (Or.inl rfl) | exact Or.inr (Or.inr rfl))), (by ((repeat' apply And.intro) <;> first | trivial | rfl | assumption | omega | decide | exact Or.inl rfl | exact Or.inr (Or.inl rfl) | exact Or.inr (Or.inr rfl))), (by ((repeat' apply And.intro) <;> first | trivial | rfl | assumption | omega | decide | exact Or.inl rfl | exact Or.inr (Or.inl rfl) | exact Or.inr (Or.inr rfl))), (by ((repeat' apply And.intro) <;> first | trivial | rfl | assumption | omega | decide | exact Or.inl rfl | exact Or.inr (Or.inl rfl) | exact Or.inr (Or.inr rfl))), (by ((repeat' apply And.intro) <;> first | trivial | rfl | assumption | omega | decide | exact Or.inl rfl | exact Or.inr (Or.inl rfl) | exact Or.inr (Or.inr rfl))), (show _ ∧ _ from ⟨p88, p89⟩).1, (show _ ∧ _ from ⟨p88, p89⟩).2, i_x12.1, i_x12.2, i_x14.1, i_x14.2⟩) [7, 8, 0, 1, 2, 3, 6, 4, 5] (by decide) rfl (Nat.le_of_ble_eq_true rfl) (Nat.le_of_ble_eq_true rfl)
              · skip
                have k90 : (Int32.toInt z50) = 0 := (fa_eq z50 0).mp c51
                refine r_aload_n 123 4 C dX9_callOther_123 rfl ?_
                refine r_callVi 124 C dX9_callOther_124 [] [(h0, .inr (8, [.ref h1, .ref h2, .ref h9, .int x0, .int x1, .long y0, .int x2, .int x3, .int x4, .int x5, .ref h10, .ref h11, .ref h12, .int x6, .int x7, .ref h3, .ref h4, .int x8, .ref h5, .int 0])), (h1, .inr (6, [.ref h6, .ref h13, .int z21, .int x11])), (h2, .inr (5, [.ref h7, .ref h8, .int x12, .int x13, .long y1, .long y2, .int x14])), (h3, .inl (gJ g, 7, .inr (.inl fm0))), (h4, .inl (gJ g, 7, .inr (.inl fm1))), (h5, .inl (gJ g, 24, .inr (.inl fm2))), (h6, .inl (gJ g, 48, .inr (.inl fm3))), (h7, .inl (gB g, 400, .inl fn0)), (h8, .inl (gJ g, 2400, .inr (.inl fm4)))] [] (fun sz => c247_X9_endFlex l g h0 h1 h2 h3 h4 h5 h6 h7 h8 h9 x0 x1 y0 x2 x3 x4 x5 h10 h11 h12 x6 x7 x8 0 h13 z21 x11 x12 x13 y1 y2 x14 fm0 fm1 fm2 fm3 fn0 fm4 i_x5 i_x6 i_x7 i_x8 (by decide) ⟨p23, p24⟩ i_x11 i_x12 i_x13 i_x14 sz) gX9_callOther_X9_endFlex rfl ⟨rfl, rfl⟩ 0 (by decide) ⟨Nat.le_of_ble_eq_true rfl, Nat.le_of_ble_eq_true rfl⟩ 0 rfl rfl [0, 8, 1, 2, 3, 4, 7, 5, 6] [] rfl rfl (by decide) (by decide) (by decide) rfl rfl (Nat.le_of_ble_eq_true rfl) ⟨Nat.le_of_ble_eq_true rfl, Nat.le_of_ble_eq_true rfl⟩ (fun r100 u102 w101 => ?_)
                obtain ⟨z91, z92, z93, z94, z95, z96, f97, f98, f99⟩ := u102
                refine r_ws [(h0, .inr (8, [.ref h1, .ref h2, .ref h9, .int x0, .int x1, .long y0, .int x2, .int x3, .int x4, .int x5, .ref h10, .ref h11, .ref h12, .int x6, .int z91, .ref h3, .ref h4, .int x8, .ref h5, .int z92])), (h1, .inr (6, [.ref h6, .ref h13, .int z21, .int x11])), (h2, .inr (5, [.ref h7, .ref h8, .int z93, .int x13, .long z94, .long z95, .int z96])), (h3, .inl (gJ g, 7, .inr (.inl fm0))), (h4, .inl (gJ g, 7, .inr (.inl fm1))), (h5, .inl (gJ g, 24, .inr (.inl f97))), (h6, .inl (gJ g, 48, .inr (.inl fm3))), (h7, .inl (gB g, 400, .inl f98)), (h8, .inl (gJ g, 2400, .inr (.inl f99)))] rfl ?_
                have gz94 := fb_rngL z94
                have gz95 := fb_rngL z95
                have p103 : 0 ≤ (Int32.toInt r100) := w101.1
                have p104 : (Int32.toInt r100) ≤ 9 := w101.2.1
                have p105 : 0 ≤ (Int32.toInt z91) := w101.2.2.1
                have p106 : (Int32.toInt z91) ≤ 1 := w101.2.2.2.1
                have p107 : 0 ≤ (Int32.toInt z92) := w101.2.2.2.2.1
                have p108 : (Int32.toInt z92) ≤ 24 := w101.2.2.2.2.2.1
                have p109 : 0 ≤ (Int32.toInt z93) := w101.2.2.2.2.2.2.1
                have p110 : (Int32.toInt z93) ≤ 400 := w101.2.2.2.2.2.2.2.1
                have p111 : 0 ≤ (Int32.toInt z96) := w101.2.2.2.2.2.2.2.2.1
                have p112 : (Int32.toInt z96) ≤ 1 := w101.2.2.2.2.2.2.2.2.2
                refine r_istore 127 C dX9_callOther_127 [(6, .int r100), (5, .int z25), (3, .long r8), (1, .long r6), (0, .ref h0)] (by decide) rfl ?_
                refine r_goto 129 169 C dX9_callOther_129 (by decide) ?_
                refine r_aload_n 169 4 C dX9_callOther_169 rfl ?_
                refine r_get 170 C dX9_callOther_170 (k := 0) 0 rfl rfl hiX9 (by decide) rfl (mg 1 rfl) (Or.inr (mg 2 rfl)) rfl ?_
                refine r_iload 173 1 C dX9_callOther_173 rfl ?_
                refine r_callVv 175 C dX9_callOther_175 [] [(h1, .inr (6, [.ref h6, .ref h13, .int z21, .int x11]))] [(h0, .inr (8, [.ref h1, .ref h2, .ref h9, .int x0, .int x1, .long y0, .int x2, .int x3, .int x4, .int x5, .ref h10, .ref h11, .ref h12, .int x6, .int z91, .ref h3, .ref h4, .int x8, .ref h5, .int z92])), (h2, .inr (5, [.ref h7, .ref h8, .int z93, .int x13, .long z94, .long z95, .int z96])), (h3, .inl (gJ g, 7, .inr (.inl fm0))), (h4, .inl (gJ g, 7, .inr (.inl fm1))), (h5, .inl (gJ g, 24, .inr (.inl f97))), (h6, .inl (gJ g, 48, .inr (.inl fm3))), (h7, .inl (gB g, 400, .inl f98)), (h8, .inl (gJ g, 2400, .inr (.inl f99)))] (fun sz => c235_X7_drop l g h1 z25 h6 h13 z21 x11 ⟨p23, p24⟩ i_x11 sz) gX9_callOther_X7_drop rfl ⟨rfl, rfl⟩ 1 (by decide) ⟨Nat.le_of_ble_eq_true rfl, Nat.le_of_ble_eq_true rfl⟩ 1 rfl rfl [1] [0, 2, 3, 4, 5, 6, 7, 8] rfl rfl (by decide) (by decide) (by decide) rfl rfl (Nat.le_of_ble_eq_true rfl) ⟨Nat.le_of_ble_eq_true rfl, Nat.le_of_ble_eq_true rfl⟩ (fun  z113 w114 => ?_)
                refine r_ws [(h0, .inr (8, [.ref h1, .ref h2, .ref h9, .int x0, .int x1, .long y0, .int x2, .int x3, .int x4, .int x5, .ref h10, .ref h11, .ref h12, .int x6, .int z91, .ref h3, .ref h4, .int x8, .ref h5, .int z92])), (h2, .inr (5, [.ref h7, .ref h8, .int z93, .int x13, .long z94, .long z95, .int z96])), (h3, .inl (gJ g, 7, .inr (.inl fm0))), (h4, .inl (gJ g, 7, .inr (.inl fm1))), (h5, .inl (gJ g, 24, .inr (.inl f97))), (h6, .inl (gJ g, 48, .inr (.inl fm3))), (h7, .inl (gB g, 400, .inl f98)), (h8, .inl (gJ g, 2400, .inr (.inl f99))), (h1, .inr (6, [.ref h6, .ref h13, .int z113, .int x11]))] rfl ?_
                have p115 : 0 ≤ (Int32.toInt z113) := w114.1
                have p116 : (Int32.toInt z113) ≤ 48 := w114.2
                refine r_iload 178 0 C dX9_callOther_178 rfl ?_
                exact r_iret 180 Rt dX9_callOther_180 (z91, x8, z92, z113, z93, z94, z95, z96, fm0, fm1, f97, f98, f99) (show 0 ≤ (Int32.toInt r100) ∧ (Int32.toInt r100) ≤ 9 ∧ 0 ≤ (Int32.toInt z91) ∧ (Int32.toInt z91) ≤ 1 ∧ 0 ≤ (Int32.toInt x8) ∧ (Int32.toInt x8) ≤ 7 ∧ 0 ≤ (Int32.toInt z92) ∧ (Int32.toInt z92) ≤ 24 ∧ 0 ≤ (Int32.toInt z113) ∧ (Int32.toInt z113) ≤ 48 ∧ 0 ≤ (Int32.toInt z93) ∧ (Int32.toInt z93) ≤ 400 ∧ 0 ≤ (Int32.toInt z96) ∧ (Int32.toInt z96) ≤ 1 from ⟨(show _ ∧ _ from ⟨p103, p104⟩).1, (show _ ∧ _ from ⟨p103, p104⟩).2, (show _ ∧ _ from ⟨p105, p106⟩).1, (show _ ∧ _ from ⟨p105, p106⟩).2, i_x8.1, i_x8.2, (show _ ∧ _ from ⟨p107, p108⟩).1, (show _ ∧ _ from ⟨p107, p108⟩).2, (show _ ∧ _ from ⟨p115, p116⟩).1, (show _ ∧ _ from ⟨p115, p116⟩).2, (show _ ∧ _ from ⟨p109, p110⟩).1, (show _ ∧ _ from ⟨p109, p110⟩).2, (show _ ∧ _ from ⟨p111, p112⟩).1, (show _ ∧ _ from ⟨p111, p112⟩).2⟩) [0, 8, 1, 2, 3, 4, 5, 6, 7] (by decide) rfl (Nat.le_of_ble_eq_true rfl) (Nat.le_of_ble_eq_true rfl)
            · skip
              have k117 : ¬ ((Int32.toInt z25) = (Int32.toInt r44)) := fun h_9 => c48 ((fa_eq z25 r44).mpr h_9)
              refine r_bipush 110 9 C dX9_callOther_110 (by decide) ?_
              refine r_istore 112 C dX9_callOther_112 [(6, .int 9), (5, .int z25), (3, .long r8), (1, .long r6), (0, .ref h0)] (by decide) rfl ?_
              refine r_goto 114 169 C dX9_callOther_114 (by decide) ?_
              refine r_aload_n 169 4 C dX9_callOther_169 rfl ?_
              refine r_get 170 C dX9_callOther_170 (k := 0) 0 rfl rfl hiX9 (by decide) rfl (mg 1 rfl) (Or.inr (mg 2 rfl)) rfl ?_
              refine r_iload 173 1 C dX9_callOther_173 rfl ?_
              refine r_callVv 175 C dX9_callOther_175 [] [(h1, .inr (6, [.ref h6, .ref h13, .int z21, .int x11]))] [(h0, .inr (8, [.ref h1, .ref h2, .ref h9, .int x0, .int x1, .long y0, .int x2, .int x3, .int x4, .int x5, .ref h10, .ref h11, .ref h12, .int x6, .int x7, .ref h3, .ref h4, .int x8, .ref h5, .int 0])), (h2, .inr (5, [.ref h7, .ref h8, .int x12, .int x13, .long y1, .long y2, .int x14])), (h3, .inl (gJ g, 7, .inr (.inl fm0))), (h4, .inl (gJ g, 7, .inr (.inl fm1))), (h5, .inl (gJ g, 24, .inr (.inl fm2))), (h7, .inl (gB g, 400, .inl fn0)), (h8, .inl (gJ g, 2400, .inr (.inl fm4))), (h6, .inl (gJ g, 48, .inr (.inl fm3)))] (fun sz => c235_X7_drop l g h1 z25 h6 h13 z21 x11 ⟨p23, p24⟩ i_x11 sz) gX9_callOther_X7_drop rfl ⟨rfl, rfl⟩ 1 (by decide) ⟨Nat.le_of_ble_eq_true rfl, Nat.le_of_ble_eq_true rfl⟩ 8 rfl rfl [8] [0, 1, 2, 3, 4, 5, 6, 7] rfl rfl (by decide) (by decide) (by decide) rfl rfl (Nat.le_of_ble_eq_true rfl) ⟨Nat.le_of_ble_eq_true rfl, Nat.le_of_ble_eq_true rfl⟩ (fun  z118 w119 => ?_)
              refine r_ws [(h0, .inr (8, [.ref h1, .ref h2, .ref h9, .int x0, .int x1, .long y0, .int x2, .int x3, .int x4, .int x5, .ref h10, .ref h11, .ref h12, .int x6, .int x7, .ref h3, .ref h4, .int x8, .ref h5, .int 0])), (h2, .inr (5, [.ref h7, .ref h8, .int x12, .int x13, .long y1, .long y2, .int x14])), (h3, .inl (gJ g, 7, .inr (.inl fm0))), (h4, .inl (gJ g, 7, .inr (.inl fm1))), (h5, .inl (gJ g, 24, .inr (.inl fm2))), (h7, .inl (gB g, 400, .inl fn0)), (h8, .inl (gJ g, 2400, .inr (.inl fm4))), (h6, .inl (gJ g, 48, .inr (.inl fm3))), (h1, .inr (6, [.ref h6, .ref h13, .int z118, .int x11]))] rfl ?_
              have p120 : 0 ≤ (Int32.toInt z118) := w119.1
              have p121 : (Int32.toInt z118) ≤ 48 := w119.2
              refine r_iload 178 0 C dX9_callOther_178 rfl ?_
              exact r_iret 180 Rt dX9_callOther_180 (x7, x8, 0, z118, x12, y1, y2, x14, fm0, fm1, fm2, fn0, fm4) (show 0 ≤ (Int32.toInt 9) ∧ (Int32.toInt 9) ≤ 9 ∧ 0 ≤ (Int32.toInt x7) ∧ (Int32.toInt x7) ≤ 1 ∧ 0 ≤ (Int32.toInt x8) ∧ (Int32.toInt x8) ≤ 7 ∧ 0 ≤ (Int32.toInt 0) ∧ (Int32.toInt 0) ≤ 24 ∧ 0 ≤ (Int32.toInt z118) ∧ (Int32.toInt z118) ≤ 48 ∧ 0 ≤ (Int32.toInt x12) ∧ (Int32.toInt x12) ≤ 400 ∧ 0 ≤ (Int32.toInt x14) ∧ (Int32.toInt x14) ≤ 1 from ⟨(by ((repeat' apply And.intro) <;> first | trivial | rfl | assumption | omega | decide | exact Or.inl rfl | exact Or.inr (Or.inl rfl) | exact Or.inr (Or.inr rfl))), (by ((repeat' apply And.intro) <;> first | trivial | rfl | assumption | omega | decide | exact Or.inl rfl | exact Or.inr (Or.inl rfl) | exact Or.inr (Or.inr rfl))), i_x7.1, i_x7.2, i_x8.1, i_x8.2, (by ((repeat' apply And.intro) <;> first | trivial | rfl | assumption | omega | decide | exact Or.inl rfl | exact Or.inr (Or.inl rfl) | exact Or.inr (Or.inr rfl))), (by ((repeat' apply And.intro) <;> first | trivial | rfl | assumption | omega | decide | exact Or.inl rfl | exact Or.inr (Or.inl rfl) | exact Or.inr (Or.inr rfl))), (show _ ∧ _ from ⟨p120, p121⟩).1, (show _ ∧ _ from ⟨p120, p121⟩).2, i_x12.1, i_x12.2, i_x14.1, i_x14.2⟩) [0, 8, 1, 2, 3, 4, 7, 5, 6] (by decide) rfl (Nat.le_of_ble_eq_true rfl) (Nat.le_of_ble_eq_true rfl)
          · skip
            have k122 : ¬ ((Int32.toInt z40) ≤ 0) := fun h_9 => c41 ((fa_le z40 0).mpr h_9)
            refine r_aload_n 91 4 C dX9_callOther_91 rfl ?_
            refine r_iload 92 1 C dX9_callOther_92 rfl ?_
            refine r_callVv 94 C dX9_callOther_94 [] [(h0, .inr (8, [.ref h1, .ref h2, .ref h9, .int x0, .int x1, .long y0, .int x2, .int x3, .int x4, .int x5, .ref h10, .ref h11, .ref h12, .int x6, .int x7, .ref h3, .ref h4, .int x8, .ref h5, .int 0])), (h1, .inr (6, [.ref h6, .ref h13, .int z21, .int x11])), (h5, .inl (gJ g, 24, .inr (.inl fm2))), (h6, .inl (gJ g, 48, .inr (.inl fm3)))] [(h2, .inr (5, [.ref h7, .ref h8, .int x12, .int x13, .long y1, .long y2, .int x14])), (h3, .inl (gJ g, 7, .inr (.inl fm0))), (h4, .inl (gJ g, 7, .inr (.inl fm1))), (h7, .inl (gB g, 400, .inl fn0)), (h8, .inl (gJ g, 2400, .inr (.inl fm4)))] (fun sz => c241_X9_putAllBy l g h0 h1 h5 h6 z25 h2 h9 x0 x1 y0 x2 x3 x4 x5 h10 h11 h12 x6 x7 h3 h4 x8 0 h13 z21 x11 fm2 fm3 i_x5 i_x6 i_x7 i_x8 (by decide) ⟨p23, p24⟩ i_x11 sz) gX9_callOther_X9_putAllBy rfl ⟨rfl, rfl⟩ 1 (by decide) ⟨Nat.le_of_ble_eq_true rfl, Nat.le_of_ble_eq_true rfl⟩ 0 rfl rfl [0, 8, 4, 7] [1, 2, 3, 5, 6] rfl rfl (by decide) (by decide) (by decide) rfl rfl (Nat.le_of_ble_eq_true rfl) ⟨Nat.le_of_ble_eq_true rfl, Nat.le_of_ble_eq_true rfl⟩ (fun  u126 w125 => ?_)
            obtain ⟨z123, f124⟩ := u126
            refine r_ws [(h2, .inr (5, [.ref h7, .ref h8, .int x12, .int x13, .long y1, .long y2, .int x14])), (h3, .inl (gJ g, 7, .inr (.inl fm0))), (h4, .inl (gJ g, 7, .inr (.inl fm1))), (h7, .inl (gB g, 400, .inl fn0)), (h8, .inl (gJ g, 2400, .inr (.inl fm4))), (h0, .inr (8, [.ref h1, .ref h2, .ref h9, .int x0, .int x1, .long y0, .int x2, .int x3, .int x4, .int x5, .ref h10, .ref h11, .ref h12, .int x6, .int x7, .ref h3, .ref h4, .int x8, .ref h5, .int z123])), (h1, .inr (6, [.ref h6, .ref h13, .int z21, .int x11])), (h5, .inl (gJ g, 24, .inr (.inl f124))), (h6, .inl (gJ g, 48, .inr (.inl fm3)))] rfl ?_
            have p127 : 0 ≤ (Int32.toInt z123) := w125.1
            have p128 : (Int32.toInt z123) ≤ 24 := w125.2
            refine r_goto 97 169 C dX9_callOther_97 (by decide) ?_
            refine r_aload_n 169 4 C dX9_callOther_169 rfl ?_
            refine r_get 170 C dX9_callOther_170 (k := 0) 5 rfl rfl hiX9 (by decide) rfl (mg 1 rfl) (Or.inr (mg 2 rfl)) rfl ?_
            refine r_iload 173 1 C dX9_callOther_173 rfl ?_
            refine r_callVv 175 C dX9_callOther_175 [] [(h1, .inr (6, [.ref h6, .ref h13, .int z21, .int x11]))] [(h2, .inr (5, [.ref h7, .ref h8, .int x12, .int x13, .long y1, .long y2, .int x14])), (h3, .inl (gJ g, 7, .inr (.inl fm0))), (h4, .inl (gJ g, 7, .inr (.inl fm1))), (h7, .inl (gB g, 400, .inl fn0)), (h8, .inl (gJ g, 2400, .inr (.inl fm4))), (h0, .inr (8, [.ref h1, .ref h2, .ref h9, .int x0, .int x1, .long y0, .int x2, .int x3, .int x4, .int x5, .ref h10, .ref h11, .ref h12, .int x6, .int x7, .ref h3, .ref h4, .int x8, .ref h5, .int z123])), (h5, .inl (gJ g, 24, .inr (.inl f124))), (h6, .inl (gJ g, 48, .inr (.inl fm3)))] (fun sz => c235_X7_drop l g h1 z25 h6 h13 z21 x11 ⟨p23, p24⟩ i_x11 sz) gX9_callOther_X7_drop rfl ⟨rfl, rfl⟩ 1 (by decide) ⟨Nat.le_of_ble_eq_true rfl, Nat.le_of_ble_eq_true rfl⟩ 6 rfl rfl [6] [0, 1, 2, 3, 4, 5, 7, 8] rfl rfl (by decide) (by decide) (by decide) rfl rfl (Nat.le_of_ble_eq_true rfl) ⟨Nat.le_of_ble_eq_true rfl, Nat.le_of_ble_eq_true rfl⟩ (fun  z129 w130 => ?_)
            refine r_ws [(h2, .inr (5, [.ref h7, .ref h8, .int x12, .int x13, .long y1, .long y2, .int x14])), (h3, .inl (gJ g, 7, .inr (.inl fm0))), (h4, .inl (gJ g, 7, .inr (.inl fm1))), (h7, .inl (gB g, 400, .inl fn0)), (h8, .inl (gJ g, 2400, .inr (.inl fm4))), (h0, .inr (8, [.ref h1, .ref h2, .ref h9, .int x0, .int x1, .long y0, .int x2, .int x3, .int x4, .int x5, .ref h10, .ref h11, .ref h12, .int x6, .int x7, .ref h3, .ref h4, .int x8, .ref h5, .int z123])), (h5, .inl (gJ g, 24, .inr (.inl f124))), (h6, .inl (gJ g, 48, .inr (.inl fm3))), (h1, .inr (6, [.ref h6, .ref h13, .int z129, .int x11]))] rfl ?_
            have p131 : 0 ≤ (Int32.toInt z129) := w130.1
            have p132 : (Int32.toInt z129) ≤ 48 := w130.2
            refine r_iload 178 0 C dX9_callOther_178 rfl ?_
            exact r_iret 180 Rt dX9_callOther_180 (x7, x8, z123, z129, x12, y1, y2, x14, fm0, fm1, f124, fn0, fm4) (show 0 ≤ (Int32.toInt 0) ∧ (Int32.toInt 0) ≤ 9 ∧ 0 ≤ (Int32.toInt x7) ∧ (Int32.toInt x7) ≤ 1 ∧ 0 ≤ (Int32.toInt x8) ∧ (Int32.toInt x8) ≤ 7 ∧ 0 ≤ (Int32.toInt z123) ∧ (Int32.toInt z123) ≤ 24 ∧ 0 ≤ (Int32.toInt z129) ∧ (Int32.toInt z129) ≤ 48 ∧ 0 ≤ (Int32.toInt x12) ∧ (Int32.toInt x12) ≤ 400 ∧ 0 ≤ (Int32.toInt x14) ∧ (Int32.toInt x14) ≤ 1 from ⟨(by ((repeat' apply And.intro) <;> first | trivial | rfl | assumption | omega | decide | exact Or.inl rfl | exact Or.inr (Or.inl rfl) | exact Or.inr (Or.inr rfl))), (by ((repeat' apply And.intro) <;> first | trivial | rfl | assumption | omega | decide | exact Or.inl rfl | exact Or.inr (Or.inl rfl) | exact Or.inr (Or.inr rfl))), i_x7.1, i_x7.2, i_x8.1, i_x8.2, (show _ ∧ _ from ⟨p127, p128⟩).1, (show _ ∧ _ from ⟨p127, p128⟩).2, (show _ ∧ _ from ⟨p131, p132⟩).1, (show _ ∧ _ from ⟨p131, p132⟩).2, i_x12.1, i_x12.2, i_x14.1, i_x14.2⟩) [5, 8, 0, 1, 2, 6, 7, 3, 4] (by decide) rfl (Nat.le_of_ble_eq_true rfl) (Nat.le_of_ble_eq_true rfl)
      · skip
        have k133 : ¬ ((Int32.toInt z18) ≤ 0) := fun h_9 => c19 ((fa_le z18 0).mpr h_9)
        refine r_iconst 55 2 C dX9_callOther_55 (by decide) ?_
        exact r_iret 56 Rt dX9_callOther_56 (x7, x8, x9, x10, x12, y1, y2, x14, fm0, fm1, fm2, fn0, fm4) (show 0 ≤ (Int32.toInt 2) ∧ (Int32.toInt 2) ≤ 9 ∧ 0 ≤ (Int32.toInt x7) ∧ (Int32.toInt x7) ≤ 1 ∧ 0 ≤ (Int32.toInt x8) ∧ (Int32.toInt x8) ≤ 7 ∧ 0 ≤ (Int32.toInt x9) ∧ (Int32.toInt x9) ≤ 24 ∧ 0 ≤ (Int32.toInt x10) ∧ (Int32.toInt x10) ≤ 48 ∧ 0 ≤ (Int32.toInt x12) ∧ (Int32.toInt x12) ≤ 400 ∧ 0 ≤ (Int32.toInt x14) ∧ (Int32.toInt x14) ≤ 1 from ⟨(by ((repeat' apply And.intro) <;> first | trivial | rfl | assumption | omega | decide | exact Or.inl rfl | exact Or.inr (Or.inl rfl) | exact Or.inr (Or.inr rfl))), (by ((repeat' apply And.intro) <;> first | trivial | rfl | assumption | omega | decide | exact Or.inl rfl | exact Or.inr (Or.inl rfl) | exact Or.inr (Or.inr rfl))), i_x7.1, i_x7.2, i_x8.1, i_x8.2, i_x9.1, i_x9.2, i_x10.1, i_x10.2, i_x12.1, i_x12.2, i_x14.1, i_x14.2⟩) [0, 8, 1, 2, 3, 4, 7, 5, 6] (by decide) rfl (Nat.le_of_ble_eq_true rfl) (Nat.le_of_ble_eq_true rfl)
    · skip
      have k134 : ¬ (0 ≤ (Int32.toInt z10)) := fun h_9 => c11 ((fa_le 0 z10).mpr h_9)
      refine r_bipush 37 9 C dX9_callOther_37 (by decide) ?_
      exact r_iret 39 Rt dX9_callOther_39 (x7, x8, x9, x10, x12, y1, y2, x14, fm0, fm1, fm2, fn0, fm4) (show 0 ≤ (Int32.toInt 9) ∧ (Int32.toInt 9) ≤ 9 ∧ 0 ≤ (Int32.toInt x7) ∧ (Int32.toInt x7) ≤ 1 ∧ 0 ≤ (Int32.toInt x8) ∧ (Int32.toInt x8) ≤ 7 ∧ 0 ≤ (Int32.toInt x9) ∧ (Int32.toInt x9) ≤ 24 ∧ 0 ≤ (Int32.toInt x10) ∧ (Int32.toInt x10) ≤ 48 ∧ 0 ≤ (Int32.toInt x12) ∧ (Int32.toInt x12) ≤ 400 ∧ 0 ≤ (Int32.toInt x14) ∧ (Int32.toInt x14) ≤ 1 from ⟨(by ((repeat' apply And.intro) <;> first | trivial | rfl | assumption | omega | decide | exact Or.inl rfl | exact Or.inr (Or.inl rfl) | exact Or.inr (Or.inr rfl))), (by ((repeat' apply And.intro) <;> first | trivial | rfl | assumption | omega | decide | exact Or.inl rfl | exact Or.inr (Or.inl rfl) | exact Or.inr (Or.inr rfl))), i_x7.1, i_x7.2, i_x8.1, i_x8.2, i_x9.1, i_x9.2, i_x10.1, i_x10.2, i_x12.1, i_x12.2, i_x14.1, i_x14.2⟩) [0, 7, 1, 2, 3, 4, 8, 5, 6] (by decide) rfl (Nat.le_of_ble_eq_true rfl) (Nat.le_of_ble_eq_true rfl)
  · skip
    have k135 : ¬ (2 ≤ (Int32.toInt x10)) := fun h_9 => c4 ((fa_le 2 x10).mpr h_9)
    refine r_iconst 11 2 C dX9_callOther_11 (by decide) ?_
    exact r_iret 12 Rt dX9_callOther_12 (x7, x8, x9, x10, x12, y1, y2, x14, fm0, fm1, fm2, fn0, fm4) (show 0 ≤ (Int32.toInt 2) ∧ (Int32.toInt 2) ≤ 9 ∧ 0 ≤ (Int32.toInt x7) ∧ (Int32.toInt x7) ≤ 1 ∧ 0 ≤ (Int32.toInt x8) ∧ (Int32.toInt x8) ≤ 7 ∧ 0 ≤ (Int32.toInt x9) ∧ (Int32.toInt x9) ≤ 24 ∧ 0 ≤ (Int32.toInt x10) ∧ (Int32.toInt x10) ≤ 48 ∧ 0 ≤ (Int32.toInt x12) ∧ (Int32.toInt x12) ≤ 400 ∧ 0 ≤ (Int32.toInt x14) ∧ (Int32.toInt x14) ≤ 1 from ⟨(by ((repeat' apply And.intro) <;> first | trivial | rfl | assumption | omega | decide | exact Or.inl rfl | exact Or.inr (Or.inl rfl) | exact Or.inr (Or.inr rfl))), (by ((repeat' apply And.intro) <;> first | trivial | rfl | assumption | omega | decide | exact Or.inl rfl | exact Or.inr (Or.inl rfl) | exact Or.inr (Or.inr rfl))), i_x7.1, i_x7.2, i_x8.1, i_x8.2, i_x9.1, i_x9.2, i_x10.1, i_x10.2, i_x12.1, i_x12.2, i_x14.1, i_x14.2⟩) [0, 8, 1, 2, 3, 4, 5, 6, 7] (by decide) rfl (Nat.le_of_ble_eq_true rfl) (Nat.le_of_ble_eq_true rfl)
