set_option maxHeartbeats 4000000 in
set_option maxRecDepth 100000 in
theorem c0_X5_size (l : Launch) (g : GD) (h0 : Nat) (h1 : Nat) (x0 : Int32) (i_x0 : (0 ≤ (Int32.toInt x0) ∧ (Int32.toInt x0) ≤ 1500)) (sz : Nat) : Met l yX5_size wsX5_size ({ frames := 0, cells := 0, slots := 0, locals := 0 }) (va_Pc [.ref h0] (PW g [(h0, .inr (4, [.ref h1, .int x0]))] sz)) (va_Qi (fun (r : Int32) (_ : Unit) => r = x0) (BW g (va_A [(h0, .inr (4, [.ref h1, .int x0]))] sz) (fun _ : Unit => [(h0, .inr (4, [.ref h1, .int x0]))])) (va_A [(h0, .inr (4, [.ref h1, .int x0]))] sz)) 0 0 (va_A [(h0, .inr (4, [.ref h1, .int x0]))] sz) := by
  refine met_i RX5 (by decide) rfl rfl (Nat.le_of_ble_eq_true rfl) [(0, .ref h0)] rfl ?_
  intro p e s m args below meth c A Q C hnm Rt
  obtain ⟨i_x0a, i_x0b⟩ := i_x0
  have hiX5 : ∀ w ∈ wsX50, w ∈ wsX5_size := fun w h => List.mem_cons_of_mem _ (List.mem_append_right _ (h))
  refine r_aload_n 0 0 C dX5_size_0 rfl ?_
  refine r_get 1 C dX5_size_1 (k := 1) 0 rfl rfl hiX5 (by decide) rfl (mg 1 rfl) (Or.inl rfl) rfl ?_
  exact r_iret 4 Rt dX5_size_4 () (show x0 = x0 from by ((repeat' apply And.intro) <;> first | trivial | rfl | assumption | omega | decide)) [0] (by decide) rfl (Nat.le_of_ble_eq_true rfl) (Nat.le_of_ble_eq_true rfl)
set_option maxHeartbeats 4000000 in
set_option maxRecDepth 100000 in
theorem c1_X5_get (l : Launch) (g : GD) (h0 : Nat) (h1 : Nat) (y0 : Int64) (x0 : Int32) (fn0 : Nat → Int32) (i_x0 : (0 ≤ (Int32.toInt x0) ∧ (Int32.toInt x0) ≤ 1500)) (sz : Nat) : Met l yX5_get wsX5_get ({ frames := 0, cells := 0, slots := 0, locals := 0 }) (va_Pc [.ref h0, .long y0] (PW g [(h0, .inr (4, [.ref h1, .int x0])), (h1, .inl (gB g, 1500, .inl fn0))] sz)) (va_Qi (fun (r : Int32) (_ : Unit) => -1 ≤ (Int32.toInt r) ∧ (Int32.toInt r) ≤ 255) (BW g (va_A [(h0, .inr (4, [.ref h1, .int x0])), (h1, .inl (gB g, 1500, .inl fn0))] sz) (fun _ : Unit => [(h0, .inr (4, [.ref h1, .int x0])), (h1, .inl (gB g, 1500, .inl fn0))])) (va_A [(h0, .inr (4, [.ref h1, .int x0])), (h1, .inl (gB g, 1500, .inl fn0))] sz)) 0 0 (va_A [(h0, .inr (4, [.ref h1, .int x0])), (h1, .inl (gB g, 1500, .inl fn0))] sz) := by
  refine met_i RX5 (by decide) rfl rfl (Nat.le_of_ble_eq_true rfl) [(0, .ref h0), (1, .long y0)] rfl ?_
  intro p e s m args below meth c A Q C hnm Rt
  obtain ⟨i_x0a, i_x0b⟩ := i_x0
  have gy0 := fb_rngL y0
  have hiX5 : ∀ w ∈ wsX50, w ∈ wsX5_get := fun w h => List.mem_cons_of_mem _ (List.mem_append_right _ (h))
  refine r_lload_n 0 1 C dX5_get_0 rfl ?_
  refine r_lconst 1 0 C dX5_get_1 (by decide) ?_
  obtain ⟨z1, ez1⟩ : ∃ z_9, lg_cmp y0 0 = z_9 := ⟨_, rfl⟩
  have l1z1 : (Int32.toInt z1) < 0 ↔ (Int64.toInt y0) < 0 := by rw [← ez1]; exact lgI1 y0 0
  have l2z1 : 0 < (Int32.toInt z1) ↔ 0 < (Int64.toInt y0) := by rw [← ez1]; exact lgI2 y0 0
  refine r_lcmp 2 z1 C dX5_get_2 ez1 ?_
  refine r_if_lt 3 30 C dX5_get_3 (by decide) (fun c2 => ?_) (fun c2 => ?_)
  · skip
    have k3 : (Int32.toInt z1) < 0 := (fa_lt z1 0).mp c2
    refine r_iconst 30 (-1) C dX5_get_30 (by decide) ?_
    exact r_iret 31 Rt dX5_get_31 () (show -1 ≤ (Int32.toInt (-1)) ∧ (Int32.toInt (-1)) ≤ 255 from by ((repeat' apply And.intro) <;> first | trivial | rfl | assumption | omega | decide)) [0, 1] (by decide) rfl (Nat.le_of_ble_eq_true rfl) (Nat.le_of_ble_eq_true rfl)
  · skip
    have k4 : ¬ ((Int32.toInt z1) < 0) := fun h_9 => c2 ((fa_lt z1 0).mpr h_9)
    refine r_lload_n 6 1 C dX5_get_6 rfl ?_
    refine r_aload_n 7 0 C dX5_get_7 rfl ?_
    refine r_get 8 C dX5_get_8 (k := 1) 0 rfl rfl hiX5 (by decide) rfl (mg 1 rfl) (Or.inl rfl) rfl ?_
    obtain ⟨z5, ez5⟩ : ∃ z_9, Int32.toInt64 x0 = z_9 := ⟨_, rfl⟩
    have tz5 : (Int64.toInt z5) = (Int32.toInt x0) := by rw [← ez5]; exact Int32.toInt_toInt64 _
    refine r_i2l 11 z5 C dX5_get_11 ez5 ?_
    obtain ⟨z6, ez6⟩ : ∃ z_9, lg_cmp y0 z5 = z_9 := ⟨_, rfl⟩
    have l1z6 : (Int32.toInt z6) < 0 ↔ (Int64.toInt y0) < (Int64.toInt z5) := by rw [← ez6]; exact lgI1 y0 z5
    have l2z6 : 0 < (Int32.toInt z6) ↔ (Int64.toInt z5) < (Int64.toInt y0) := by rw [← ez6]; exact lgI2 y0 z5
    refine r_lcmp 12 z6 C dX5_get_12 ez6 ?_
    refine r_if_ge 13 30 C dX5_get_13 (by decide) (fun c7 => ?_) (fun c7 => ?_)
    · skip
      have k8 : 0 ≤ (Int32.toInt z6) := (fa_le 0 z6).mp c7
      refine r_iconst 30 (-1) C dX5_get_30 (by decide) ?_
      exact r_iret 31 Rt dX5_get_31 () (show -1 ≤ (Int32.toInt (-1)) ∧ (Int32.toInt (-1)) ≤ 255 from by ((repeat' apply And.intro) <;> first | trivial | rfl | assumption | omega | decide)) [0, 1] (by decide) rfl (Nat.le_of_ble_eq_true rfl) (Nat.le_of_ble_eq_true rfl)
    · skip
      have k9 : ¬ (0 ≤ (Int32.toInt z6)) := fun h_9 => c7 ((fa_le 0 z6).mpr h_9)
      refine r_aload_n 16 0 C dX5_get_16 rfl ?_
      refine r_get 17 C dX5_get_17 (k := 0) 0 rfl rfl hiX5 (by decide) rfl (mg 2 rfl) (Or.inl rfl) rfl ?_
      refine r_lload_n 20 1 C dX5_get_20 rfl ?_
      obtain ⟨z10, ez10⟩ : ∃ z_9, Int64.toInt32 y0 = z_9 := ⟨_, rfl⟩
      have tz10 : (Int32.toInt z10) = (Int64.toInt y0) := by rw [← ez10]; exact l2i_in (by omega) (by omega)
      refine r_l2i 21 z10 C dX5_get_21 ez10 ?_
      obtain ⟨z11, ez11⟩ : ∃ z_9, fn0 (Int32.toNatClampNeg z10) = z_9 := ⟨_, rfl⟩
      refine r_bald 22 z11 C dX5_get_22 1 rfl (vinI (by omega) (by omega)) ez11 ?_
      have gz11 := fb_rng z11
      refine r_sipush 23 255 C dX5_get_23 (by decide) ?_
      obtain ⟨z12, ez12⟩ : ∃ z_9, z11 &&& 255 = z_9 := ⟨_, rfl⟩
      have tz12 : 0 ≤ (Int32.toInt z12) ∧ (Int32.toInt z12) ≤ 255 := by rw [← ez12]; exact and_255 z11
      refine r_iand 26 z12 C dX5_get_26 ez12 ?_
      refine r_goto 27 31 C dX5_get_27 (by decide) ?_
      exact r_iret 31 Rt dX5_get_31 () (show -1 ≤ (Int32.toInt z12) ∧ (Int32.toInt z12) ≤ 255 from by ((repeat' apply And.intro) <;> first | trivial | rfl | assumption | omega | decide)) [0, 1] (by decide) rfl (Nat.le_of_ble_eq_true rfl) (Nat.le_of_ble_eq_true rfl)
set_option maxHeartbeats 4000000 in
set_option maxRecDepth 100000 in
theorem c2_X5_add (l : Launch) (g : GD) (h0 : Nat) (h1 : Nat) (x0 : Int32) (x1 : Int32) (fn0 : Nat → Int32) (i_x1 : (0 ≤ (Int32.toInt x1) ∧ (Int32.toInt x1) ≤ 1500)) (sz : Nat) : Met l yX5_add wsX5_add ({ frames := 0, cells := 0, slots := 0, locals := 0 }) (va_Pc [.ref h0, .int x0] (PW g [(h0, .inr (4, [.ref h1, .int x1])), (h1, .inl (gB g, 1500, .inl fn0))] sz)) (va_Qv (fun (u : (Int32) × (Nat → Int32)) => 0 ≤ (Int32.toInt (u.1)) ∧ (Int32.toInt (u.1)) ≤ 1500) (BW g (va_A [(h0, .inr (4, [.ref h1, .int x1])), (h1, .inl (gB g, 1500, .inl fn0))] sz) (fun u : (Int32) × (Nat → Int32) => [(h0, .inr (4, [.ref h1, .int u.1])), (h1, .inl (gB g, 1500, .inl u.2))])) (va_A [(h0, .inr (4, [.ref h1, .int x1])), (h1, .inl (gB g, 1500, .inl fn0))] sz)) 0 0 (va_A [(h0, .inr (4, [.ref h1, .int x1])), (h1, .inl (gB g, 1500, .inl fn0))] sz) := by
  refine met_v RX5 (by decide) rfl rfl (Nat.le_of_ble_eq_true rfl) [(0, .ref h0), (1, .int x0)] rfl ?_
  intro p e s m args below meth c A Q C hnm Rt
  obtain ⟨i_x1a, i_x1b⟩ := i_x1
  have gx0 := fb_rng x0
  have hiX5 : ∀ w ∈ wsX50, w ∈ wsX5_add := fun w h => List.mem_cons_of_mem _ (List.mem_append_right _ (h))
  refine r_aload_n 0 0 C dX5_add_0 rfl ?_
  refine r_get 1 C dX5_add_1 (k := 1) 0 rfl rfl hiX5 (by decide) rfl (mg 1 rfl) (Or.inl rfl) rfl ?_
  refine r_aload_n 4 0 C dX5_add_4 rfl ?_
  refine r_get 5 C dX5_add_5 (k := 0) 0 rfl rfl hiX5 (by decide) rfl (mg 2 rfl) (Or.inl rfl) rfl ?_
  refine r_balen 8 1500 C dX5_add_8 1 rfl (by decide) ?_
  refine r_icmp_ge 9 33 C dX5_add_9 (by decide) (fun c1 => ?_) (fun c1 => ?_)
  · skip
    have k2 : 1500 ≤ (Int32.toInt x1) := (fa_le 1500 x1).mp c1
    exact r_vret 33 Rt dX5_add_33 (x1, fn0) (show 0 ≤ (Int32.toInt x1) ∧ (Int32.toInt x1) ≤ 1500 from by ((repeat' apply And.intro) <;> first | trivial | rfl | assumption | omega | decide)) [0, 1] (by decide) rfl (Nat.le_of_ble_eq_true rfl) (Nat.le_of_ble_eq_true rfl)
  · skip
    have k3 : ¬ (1500 ≤ (Int32.toInt x1)) := fun h_9 => c1 ((fa_le 1500 x1).mpr h_9)
    refine r_aload_n 12 0 C dX5_add_12 rfl ?_
    refine r_get 13 C dX5_add_13 (k := 0) 0 rfl rfl hiX5 (by decide) rfl (mg 2 rfl) (Or.inl rfl) rfl ?_
    refine r_aload_n 16 0 C dX5_add_16 rfl ?_
    refine r_get 17 C dX5_add_17 (k := 1) 0 rfl rfl hiX5 (by decide) rfl (mg 1 rfl) (Or.inl rfl) rfl ?_
    refine r_iload_n 20 1 C dX5_add_20 rfl ?_
    obtain ⟨z4, ez4⟩ : ∃ z_9, (Int32.toInt8 x0).toInt32 = z_9 := ⟨_, rfl⟩
    have gz4 := fb_rng z4
    refine r_i2b 21 z4 C dX5_add_21 ez4 ?_
    obtain ⟨f5, ef5⟩ : ∃ f_9, upd fn0 (Int32.toNatClampNeg x1) (vp_nar .byte z4) = f_9 := ⟨_, rfl⟩
    refine r_bast 22 C dX5_add_22 1 rfl (vinI (by omega) (by omega)) f5 ef5 [(h0, .inr (4, [.ref h1, .int x1])), (h1, .inl (gB g, 1500, .inl f5))] rfl ?_
    refine r_aload_n 23 0 C dX5_add_23 rfl ?_
    refine r_dup 24 C dX5_add_24 rfl ?_
    refine r_get 25 C dX5_add_25 (k := 1) 0 rfl rfl hiX5 (by decide) rfl (mg 1 rfl) (Or.inl rfl) rfl ?_
    refine r_iconst 28 1 C dX5_add_28 (by decide) ?_
    obtain ⟨z6, ez6⟩ : ∃ z_9, x1 + 1 = z_9 := ⟨_, rfl⟩
    have tz6 : (Int32.toInt z6) = (Int32.toInt x1) + 1 := by rw [← ez6]; exact fb_addI (by show -2147483648 ≤ (Int32.toInt x1) + 1; omega) (by show (Int32.toInt x1) + 1 < 2147483648; omega)
    refine r_iadd 29 z6 C dX5_add_29 ez6 ?_
    refine r_put 30 C dX5_add_30 (k := 1) 0 rfl rfl hiX5 tyX5 tyX5_ok nmX5 (by decide) rfl (mg 1 rfl) (Or.inl rfl) rfl rfl rfl rfl (Nat.le_of_ble_eq_true rfl) [(h0, .inr (4, [.ref h1, .int z6])), (h1, .inl (gB g, 1500, .inl f5))] rfl ?_
    exact r_vret 33 Rt dX5_add_33 (z6, f5) (show 0 ≤ (Int32.toInt z6) ∧ (Int32.toInt z6) ≤ 1500 from by ((repeat' apply And.intro) <;> first | trivial | rfl | assumption | omega | decide)) [0, 1] (by decide) rfl (Nat.le_of_ble_eq_true rfl) (Nat.le_of_ble_eq_true rfl)
set_option maxHeartbeats 4000000 in
set_option maxRecDepth 100000 in
theorem c3_X5_addWord (l : Launch) (g : GD) (h0 : Nat) (h1 : Nat) (x0 : Int32) (x1 : Int32) (fn0 : Nat → Int32) (i_x1 : (0 ≤ (Int32.toInt x1) ∧ (Int32.toInt x1) ≤ 1500)) (sz : Nat) : Met l yX5_addWord wsX5_addWord ({ frames := 1, cells := 0, slots := 0, locals := 21 }) (va_Pc [.ref h0, .int x0] (PW g [(h0, .inr (4, [.ref h1, .int x1])), (h1, .inl (gB g, 1500, .inl fn0))] sz)) (va_Qv (fun (u : (Int32) × (Nat → Int32)) => 0 ≤ (Int32.toInt (u.1)) ∧ (Int32.toInt (u.1)) ≤ 1500) (BW g (va_A [(h0, .inr (4, [.ref h1, .int x1])), (h1, .inl (gB g, 1500, .inl fn0))] sz) (fun u : (Int32) × (Nat → Int32) => [(h0, .inr (4, [.ref h1, .int u.1])), (h1, .inl (gB g, 1500, .inl u.2))])) (va_A [(h0, .inr (4, [.ref h1, .int x1])), (h1, .inl (gB g, 1500, .inl fn0))] sz)) 0 0 (va_A [(h0, .inr (4, [.ref h1, .int x1])), (h1, .inl (gB g, 1500, .inl fn0))] sz) := by
  refine met_v RX5 (by decide) rfl rfl (Nat.le_of_ble_eq_true rfl) [(0, .ref h0), (1, .int x0)] rfl ?_
  intro p e s m args below meth c A Q C hnm Rt
  obtain ⟨i_x1a, i_x1b⟩ := i_x1
  have gx0 := fb_rng x0
  refine r_aload_n 0 0 C dX5_addWord_0 rfl ?_
  refine r_iload_n 1 1 C dX5_addWord_1 rfl ?_
  refine r_bipush 2 24 C dX5_addWord_2 (by decide) ?_
  obtain ⟨z1, ez1⟩ : ∃ z_9, x0 >>> (24 &&& 31) = z_9 := ⟨_, rfl⟩
  have tz1 : (Int32.toInt z1) = (Int32.toInt x0) / 16777216 := by rw [← ez1]; exact shr_24 x0
  refine r_ishr 4 z1 C dX5_addWord_4 ez1 ?_
  refine r_callVv 5 C dX5_addWord_5 [] [(h0, .inr (4, [.ref h1, .int x1])), (h1, .inl (gB g, 1500, .inl fn0))] [] (fun sz => c2_X5_add l g h0 h1 z1 x1 fn0 ⟨by omega, by omega⟩ sz) gX5_addWord_X5_add rfl ⟨rfl, rfl⟩ 1 (by decide) ⟨Nat.le_of_ble_eq_true rfl, Nat.le_of_ble_eq_true rfl⟩ 0 rfl rfl [0, 1] [] rfl rfl (by decide) (by decide) (by decide) rfl rfl (Nat.le_of_ble_eq_true rfl) ⟨Nat.le_of_ble_eq_true rfl, Nat.le_of_ble_eq_true rfl⟩ (fun  u5 w4 => ?_)
  obtain ⟨z2, f3⟩ := u5
  refine r_ws [(h0, .inr (4, [.ref h1, .int z2])), (h1, .inl (gB g, 1500, .inl f3))] rfl ?_
  have p6 : 0 ≤ (Int32.toInt z2) := w4.1
  have p7 : (Int32.toInt z2) ≤ 1500 := w4.2
  refine r_aload_n 8 0 C dX5_addWord_8 rfl ?_
  refine r_iload_n 9 1 C dX5_addWord_9 rfl ?_
  refine r_bipush 10 16 C dX5_addWord_10 (by decide) ?_
  obtain ⟨z8, ez8⟩ : ∃ z_9, x0 >>> (16 &&& 31) = z_9 := ⟨_, rfl⟩
  have tz8 : (Int32.toInt z8) = (Int32.toInt x0) / 65536 := by rw [← ez8]; exact shr_16 x0
  refine r_ishr 12 z8 C dX5_addWord_12 ez8 ?_
  refine r_callVv 13 C dX5_addWord_13 [] [(h0, .inr (4, [.ref h1, .int z2])), (h1, .inl (gB g, 1500, .inl f3))] [] (fun sz => c2_X5_add l g h0 h1 z8 z2 f3 ⟨by omega, by omega⟩ sz) gX5_addWord_X5_add rfl ⟨rfl, rfl⟩ 1 (by decide) ⟨Nat.le_of_ble_eq_true rfl, Nat.le_of_ble_eq_true rfl⟩ 0 rfl rfl [0, 1] [] rfl rfl (by decide) (by decide) (by decide) rfl rfl (Nat.le_of_ble_eq_true rfl) ⟨Nat.le_of_ble_eq_true rfl, Nat.le_of_ble_eq_true rfl⟩ (fun  u12 w11 => ?_)
  obtain ⟨z9, f10⟩ := u12
  refine r_ws [(h0, .inr (4, [.ref h1, .int z9])), (h1, .inl (gB g, 1500, .inl f10))] rfl ?_
  have p13 : 0 ≤ (Int32.toInt z9) := w11.1
  have p14 : (Int32.toInt z9) ≤ 1500 := w11.2
  refine r_aload_n 16 0 C dX5_addWord_16 rfl ?_
  refine r_iload_n 17 1 C dX5_addWord_17 rfl ?_
  refine r_bipush 18 8 C dX5_addWord_18 (by decide) ?_
  obtain ⟨z15, ez15⟩ : ∃ z_9, x0 >>> (8 &&& 31) = z_9 := ⟨_, rfl⟩
  have tz15 : (Int32.toInt z15) = (Int32.toInt x0) / 256 := by rw [← ez15]; exact shr_8 x0
  refine r_ishr 20 z15 C dX5_addWord_20 ez15 ?_
  refine r_callVv 21 C dX5_addWord_21 [] [(h0, .inr (4, [.ref h1, .int z9])), (h1, .inl (gB g, 1500, .inl f10))] [] (fun sz => c2_X5_add l g h0 h1 z15 z9 f10 ⟨by omega, by omega⟩ sz) gX5_addWord_X5_add rfl ⟨rfl, rfl⟩ 1 (by decide) ⟨Nat.le_of_ble_eq_true rfl, Nat.le_of_ble_eq_true rfl⟩ 0 rfl rfl [0, 1] [] rfl rfl (by decide) (by decide) (by decide) rfl rfl (Nat.le_of_ble_eq_true rfl) ⟨Nat.le_of_ble_eq_true rfl, Nat.le_of_ble_eq_true rfl⟩ (fun  u19 w18 => ?_)
  obtain ⟨z16, f17⟩ := u19
  refine r_ws [(h0, .inr (4, [.ref h1, .int z16])), (h1, .inl (gB g, 1500, .inl f17))] rfl ?_
  have p20 : 0 ≤ (Int32.toInt z16) := w18.1
  have p21 : (Int32.toInt z16) ≤ 1500 := w18.2
  refine r_aload_n 24 0 C dX5_addWord_24 rfl ?_
  refine r_iload_n 25 1 C dX5_addWord_25 rfl ?_
  refine r_callVv 26 C dX5_addWord_26 [] [(h0, .inr (4, [.ref h1, .int z16])), (h1, .inl (gB g, 1500, .inl f17))] [] (fun sz => c2_X5_add l g h0 h1 x0 z16 f17 ⟨by omega, by omega⟩ sz) gX5_addWord_X5_add rfl ⟨rfl, rfl⟩ 1 (by decide) ⟨Nat.le_of_ble_eq_true rfl, Nat.le_of_ble_eq_true rfl⟩ 0 rfl rfl [0, 1] [] rfl rfl (by decide) (by decide) (by decide) rfl rfl (Nat.le_of_ble_eq_true rfl) ⟨Nat.le_of_ble_eq_true rfl, Nat.le_of_ble_eq_true rfl⟩ (fun  u25 w24 => ?_)
  obtain ⟨z22, f23⟩ := u25
  refine r_ws [(h0, .inr (4, [.ref h1, .int z22])), (h1, .inl (gB g, 1500, .inl f23))] rfl ?_
  have p26 : 0 ≤ (Int32.toInt z22) := w24.1
  have p27 : (Int32.toInt z22) ≤ 1500 := w24.2
  exact r_vret 29 Rt dX5_addWord_29 (z22, f23) (show 0 ≤ (Int32.toInt z22) ∧ (Int32.toInt z22) ≤ 1500 from by ((repeat' apply And.intro) <;> first | trivial | rfl | assumption | omega | decide)) [0, 1] (by decide) rfl (Nat.le_of_ble_eq_true rfl) (Nat.le_of_ble_eq_true rfl)
set_option maxHeartbeats 4000000 in
set_option maxRecDepth 100000 in
theorem c4_X5_addAll (l : Launch) (g : GD) (h0 : Nat) (h1 : Nat) (h2 : Nat) (h3 : Nat) (x0 : Int32) (x1 : Int32) (x2 : Int32) (fn0 : Nat → Int32) (fn1 : Nat → Int32) (i_x1 : (0 ≤ (Int32.toInt x1) ∧ (Int32.toInt x1) ≤ 1500)) (i_x2 : (0 ≤ (Int32.toInt x2) ∧ (Int32.toInt x2) ≤ 1500)) (sz : Nat) : Met l yX5_addAll wsX5_addAll ({ frames := 1, cells := 0, slots := 0, locals := 22 }) (va_Pc [.ref h0, .ref h1, .int x0] (PW g [(h0, .inr (4, [.ref h2, .int x1])), (h1, .inr (4, [.ref h3, .int x2])), (h2, .inl (gB g, 1500, .inl fn0)), (h3, .inl (gB g, 1500, .inl fn1))] sz)) (va_Qv (fun (u : (Int32) × (Nat → Int32)) => 0 ≤ (Int32.toInt (u.1)) ∧ (Int32.toInt (u.1)) ≤ 1500) (BW g (va_A [(h0, .inr (4, [.ref h2, .int x1])), (h1, .inr (4, [.ref h3, .int x2])), (h2, .inl (gB g, 1500, .inl fn0)), (h3, .inl (gB g, 1500, .inl fn1))] sz) (fun u : (Int32) × (Nat → Int32) => [(h0, .inr (4, [.ref h2, .int u.1])), (h1, .inr (4, [.ref h3, .int x2])), (h2, .inl (gB g, 1500, .inl u.2)), (h3, .inl (gB g, 1500, .inl fn1))])) (va_A [(h0, .inr (4, [.ref h2, .int x1])), (h1, .inr (4, [.ref h3, .int x2])), (h2, .inl (gB g, 1500, .inl fn0)), (h3, .inl (gB g, 1500, .inl fn1))] sz)) 0 0 (va_A [(h0, .inr (4, [.ref h2, .int x1])), (h1, .inr (4, [.ref h3, .int x2])), (h2, .inl (gB g, 1500, .inl fn0)), (h3, .inl (gB g, 1500, .inl fn1))] sz) := by
  refine met_v RX5 (by decide) rfl rfl (Nat.le_of_ble_eq_true rfl) [(0, .ref h0), (1, .ref h1), (2, .int x0)] rfl ?_
  intro p e s m args below meth c A Q C hnm Rt
  obtain ⟨i_x1a, i_x1b⟩ := i_x1
  obtain ⟨i_x2a, i_x2b⟩ := i_x2
  have gx0 := fb_rng x0
  have hiX5 : ∀ w ∈ wsX50, w ∈ wsX5_addAll := fun w h => List.mem_cons_of_mem _ (List.mem_append_right _ (h))
  refine r_iload_n 0 2 C dX5_addAll_0 rfl ?_
  refine r_iconst 1 0 C dX5_addAll_1 (by decide) ?_
  obtain ⟨z1, ez1⟩ : ∃ z_9, (if x0 < 0 then 0 else x0) = z_9 := ⟨_, rfl⟩
  have tz1 : ((Int32.toInt x0) < 0 ∧ (Int32.toInt z1) = 0) ∨ (¬ ((Int32.toInt x0) < 0) ∧ (Int32.toInt z1) = (Int32.toInt x0)) := by rw [← ez1]; exact mx_or x0 0 0 x0
  refine r_mmax 2 z1 C dX5_addAll_2 (mg 1 rfl) (mg 2 rfl) (mg 3 rfl) (mg 4 rfl) (Nat.le_of_ble_eq_true rfl) (Nat.le_of_ble_eq_true rfl) (Nat.le_of_ble_eq_true rfl) (Nat.le_of_ble_eq_true rfl) ez1 ?_
  refine r_istore_n 5 C dX5_addAll_5 [(3, .int z1), (0, .ref h0), (1, .ref h1), (2, .int x0)] (by decide) rfl ?_
  have lp6 : ∀ (n5 : Nat) (z2 : Int32) (z3 : Int32) (f4 : Nat → Int32), (0 ≤ (Int32.toInt z2) ∧ (Int32.toInt z2) ≤ 2147483647) → (0 ≤ (Int32.toInt z3) ∧ (Int32.toInt z3) ≤ 1500) → Int.toNat (2147483647 - (Int32.toInt z2)) < n5 → WW p l e ({ frames := 1, cells := 0, slots := 0, locals := 22 } : Room) s m args below meth c A Q g 4 0 0 [(h0, .inr (4, [.ref h2, .int z3])), (h1, .inr (4, [.ref h3, .int x2])), (h2, .inl (gB g, 1500, .inl f4)), (h3, .inl (gB g, 1500, .inl fn1))] 6 [(3, .int z2), (0, .ref h0), (1, .ref h1), (2, .int x0)] [] := by
    intro n5
    induction n5 with
    | zero => intro z2 z3 f4 i9 i10 hm8; exact absurd hm8 (Nat.not_lt_zero _)
    | succ n5 ih7 =>
      intro z2 z3 f4 i9 i10 hm8
      obtain ⟨i9a, i9b⟩ := i9
      obtain ⟨i10a, i10b⟩ := i10
      refine r_iload_n 6 0 C dX5_addAll_6 rfl ?_
      refine r_aload_n 7 2 C dX5_addAll_7 rfl ?_
      refine r_get 8 C dX5_addAll_8 (k := 1) 1 rfl rfl hiX5 (by decide) rfl (mg 5 rfl) (Or.inl rfl) rfl ?_
      refine r_icmp_ge 11 30 C dX5_addAll_11 (by decide) (fun c11 => ?_) (fun c11 => ?_)
      · skip
        have k12 : (Int32.toInt x2) ≤ (Int32.toInt z2) := (fa_le x2 z2).mp c11
        exact r_vret 30 Rt dX5_addAll_30 (z3, f4) (show 0 ≤ (Int32.toInt z3) ∧ (Int32.toInt z3) ≤ 1500 from by ((repeat' apply And.intro) <;> first | trivial | rfl | assumption | omega | decide)) [0, 1, 2, 3] (by decide) rfl (Nat.le_of_ble_eq_true rfl) (Nat.le_of_ble_eq_true rfl)
      · skip
        have k13 : ¬ ((Int32.toInt x2) ≤ (Int32.toInt z2)) := fun h_9 => c11 ((fa_le x2 z2).mpr h_9)
        refine r_aload_n 14 1 C dX5_addAll_14 rfl ?_
        refine r_aload_n 15 2 C dX5_addAll_15 rfl ?_
        refine r_iload_n 16 0 C dX5_addAll_16 rfl ?_
        obtain ⟨z14, ez14⟩ : ∃ z_9, Int32.toInt64 z2 = z_9 := ⟨_, rfl⟩
        have tz14 : (Int64.toInt z14) = (Int32.toInt z2) := by rw [← ez14]; exact Int32.toInt_toInt64 _
        refine r_i2l 17 z14 C dX5_addAll_17 ez14 ?_
        refine r_callVi 18 C dX5_addAll_18 [.ref h0] [(h1, .inr (4, [.ref h3, .int x2])), (h3, .inl (gB g, 1500, .inl fn1))] [(h0, .inr (4, [.ref h2, .int z3])), (h2, .inl (gB g, 1500, .inl f4))] (fun sz => c1_X5_get l g h1 h3 z14 x2 fn1 ⟨by omega, by omega⟩ sz) gX5_addAll_X5_get rfl ⟨rfl, rfl⟩ 1 (by decide) ⟨Nat.le_of_ble_eq_true rfl, Nat.le_of_ble_eq_true rfl⟩ 1 rfl rfl [1, 3] [0, 2] rfl rfl (by decide) (by decide) (by decide) rfl rfl (Nat.le_of_ble_eq_true rfl) ⟨Nat.le_of_ble_eq_true rfl, Nat.le_of_ble_eq_true rfl⟩ (fun r15 _ w16 => ?_)
        refine r_ws [(h0, .inr (4, [.ref h2, .int z3])), (h2, .inl (gB g, 1500, .inl f4)), (h1, .inr (4, [.ref h3, .int x2])), (h3, .inl (gB g, 1500, .inl fn1))] rfl ?_
        have p17 : -1 ≤ (Int32.toInt r15) := w16.1
        have p18 : (Int32.toInt r15) ≤ 255 := w16.2
        refine r_callVv 21 C dX5_addAll_21 [] [(h0, .inr (4, [.ref h2, .int z3])), (h2, .inl (gB g, 1500, .inl f4))] [(h1, .inr (4, [.ref h3, .int x2])), (h3, .inl (gB g, 1500, .inl fn1))] (fun sz => c2_X5_add l g h0 h2 r15 z3 f4 ⟨by omega, by omega⟩ sz) gX5_addAll_X5_add rfl ⟨rfl, rfl⟩ 1 (by decide) ⟨Nat.le_of_ble_eq_true rfl, Nat.le_of_ble_eq_true rfl⟩ 0 rfl rfl [0, 1] [2, 3] rfl rfl (by decide) (by decide) (by decide) rfl rfl (Nat.le_of_ble_eq_true rfl) ⟨Nat.le_of_ble_eq_true rfl, Nat.le_of_ble_eq_true rfl⟩ (fun  u22 w21 => ?_)
        obtain ⟨z19, f20⟩ := u22
        refine r_ws [(h1, .inr (4, [.ref h3, .int x2])), (h3, .inl (gB g, 1500, .inl fn1)), (h0, .inr (4, [.ref h2, .int z19])), (h2, .inl (gB g, 1500, .inl f20))] rfl ?_
        have p23 : 0 ≤ (Int32.toInt z19) := w21.1
        have p24 : (Int32.toInt z19) ≤ 1500 := w21.2
        obtain ⟨z25, ez25⟩ : ∃ z_9, z2 + Int32.ofInt 1 = z_9 := ⟨_, rfl⟩
        have tz25 : (Int32.toInt z25) = (Int32.toInt z2) + 1 := by rw [← ez25]; exact fb_addI (by show -2147483648 ≤ (Int32.toInt z2) + 1; omega) (by show (Int32.toInt z2) + 1 < 2147483648; omega)
        refine r_iinc 24 0 z25 C dX5_addAll_24 rfl ez25 [(3, .int z25), (0, .ref h0), (1, .ref h1), (2, .int x0)] (by decide) rfl ?_
        refine r_goto 27 6 C dX5_addAll_27 (by decide) ?_
        refine r_pick [(h0, .inr (4, [.ref h2, .int z19])), (h1, .inr (4, [.ref h3, .int x2])), (h2, .inl (gB g, 1500, .inl f20)), (h3, .inl (gB g, 1500, .inl fn1))] [2, 0, 3, 1] (by decide) rfl ?_
        exact ih7 z25 z19 f20 ⟨by omega, by omega⟩ ⟨by omega, by omega⟩ (by omega)
  exact lp6 _ z1 x1 fn0 ⟨by omega, by omega⟩ ⟨by omega, by omega⟩ (Nat.lt_succ_self _)
set_option maxHeartbeats 4000000 in
set_option maxRecDepth 100000 in
theorem c5_X5_cut (l : Launch) (g : GD) (h0 : Nat) (x0 : Int32) (h1 : Nat) (x1 : Int32) (i_x1 : (0 ≤ (Int32.toInt x1) ∧ (Int32.toInt x1) ≤ 1500)) (sz : Nat) : Met l yX5_cut wsX5_cut ({ frames := 0, cells := 0, slots := 0, locals := 0 }) (va_Pc [.ref h0, .int x0] (PW g [(h0, .inr (4, [.ref h1, .int x1]))] sz)) (va_Qv (fun (u : (Int32)) => 0 ≤ (Int32.toInt u) ∧ (Int32.toInt u) ≤ 1500) (BW g (va_A [(h0, .inr (4, [.ref h1, .int x1]))] sz) (fun u : (Int32) => [(h0, .inr (4, [.ref h1, .int u]))])) (va_A [(h0, .inr (4, [.ref h1, .int x1]))] sz)) 0 0 (va_A [(h0, .inr (4, [.ref h1, .int x1]))] sz) := by
  refine met_v RX5 (by decide) rfl rfl (Nat.le_of_ble_eq_true rfl) [(0, .ref h0), (1, .int x0)] rfl ?_
  intro p e s m args below meth c A Q C hnm Rt
  obtain ⟨i_x1a, i_x1b⟩ := i_x1
  have gx0 := fb_rng x0
  have hiX5 : ∀ w ∈ wsX50, w ∈ wsX5_cut := fun w h => List.mem_cons_of_mem _ (List.mem_append_right _ (h))
  refine r_iload_n 0 1 C dX5_cut_0 rfl ?_
  refine r_if_lt 1 17 C dX5_cut_1 (by decide) (fun c1 => ?_) (fun c1 => ?_)
  · skip
    have k2 : (Int32.toInt x0) < 0 := (fa_lt x0 0).mp c1
    exact r_vret 17 Rt dX5_cut_17 x1 (show 0 ≤ (Int32.toInt x1) ∧ (Int32.toInt x1) ≤ 1500 from by ((repeat' apply And.intro) <;> first | trivial | rfl | assumption | omega | decide)) [0] (by decide) rfl (Nat.le_of_ble_eq_true rfl) (Nat.le_of_ble_eq_true rfl)
  · skip
    have k3 : ¬ ((Int32.toInt x0) < 0) := fun h_9 => c1 ((fa_lt x0 0).mpr h_9)
    refine r_iload_n 4 1 C dX5_cut_4 rfl ?_
    refine r_aload_n 5 0 C dX5_cut_5 rfl ?_
    refine r_get 6 C dX5_cut_6 (k := 1) 0 rfl rfl hiX5 (by decide) rfl (mg 1 rfl) (Or.inl rfl) rfl ?_
    refine r_icmp_gt 9 17 C dX5_cut_9 (by decide) (fun c4 => ?_) (fun c4 => ?_)
    · skip
      have k5 : (Int32.toInt x1) < (Int32.toInt x0) := (fa_lt x1 x0).mp c4
      exact r_vret 17 Rt dX5_cut_17 x1 (show 0 ≤ (Int32.toInt x1) ∧ (Int32.toInt x1) ≤ 1500 from by ((repeat' apply And.intro) <;> first | trivial | rfl | assumption | omega | decide)) [0] (by decide) rfl (Nat.le_of_ble_eq_true rfl) (Nat.le_of_ble_eq_true rfl)
    · skip
      have k6 : ¬ ((Int32.toInt x1) < (Int32.toInt x0)) := fun h_9 => c4 ((fa_lt x1 x0).mpr h_9)
      refine r_aload_n 12 0 C dX5_cut_12 rfl ?_
      refine r_iload_n 13 1 C dX5_cut_13 rfl ?_
      refine r_put 14 C dX5_cut_14 (k := 1) 0 rfl rfl hiX5 tyX5 tyX5_ok nmX5 (by decide) rfl (mg 1 rfl) (Or.inl rfl) rfl rfl rfl rfl (Nat.le_of_ble_eq_true rfl) [(h0, .inr (4, [.ref h1, .int x0]))] rfl ?_
      exact r_vret 17 Rt dX5_cut_17 x0 (show 0 ≤ (Int32.toInt x0) ∧ (Int32.toInt x0) ≤ 1500 from by ((repeat' apply And.intro) <;> first | trivial | rfl | assumption | omega | decide)) [0] (by decide) rfl (Nat.le_of_ble_eq_true rfl) (Nat.le_of_ble_eq_true rfl)
set_option maxHeartbeats 4000000 in
set_option maxRecDepth 100000 in
theorem c6_X5_nextKey (l : Launch) (g : GD) (x0 : Int32) (x1 : Int32) (sz : Nat) : Met l yX5_nextKey wsX5_nextKey ({ frames := 0, cells := 0, slots := 0, locals := 0 }) (va_Pc [.int x0, .int x1] (PW g [] sz)) (va_Qi (fun (r : Int32) (_ : Unit) => 0 ≤ (Int32.toInt r) ∧ (Int32.toInt r) ≤ 65535) (BW g (va_A [] sz) (fun _ : Unit => [])) (va_A [] sz)) 0 0 (va_A [] sz) := by
  refine met_i RX5 (by decide) rfl rfl (Nat.le_of_ble_eq_true rfl) [(0, .int x0), (1, .int x1)] rfl ?_
  intro p e s m args below meth c A Q C hnm Rt
  have gx0 := fb_rng x0
  have gx1 := fb_rng x1
  refine r_iload_n 0 0 C dX5_nextKey_0 rfl ?_
  refine r_iload_n 1 1 C dX5_nextKey_1 rfl ?_
  obtain ⟨z1, ez1⟩ : ∃ z_9, x0 + x1 = z_9 := ⟨_, rfl⟩
  have gz1 := fb_rng z1
  refine r_iadd 2 z1 C dX5_nextKey_2 ez1 ?_
  refine r_ldc 3 52845 C dX5_nextKey_3 (mg 1 rfl) ?_
  obtain ⟨z2, ez2⟩ : ∃ z_9, z1 * 52845 = z_9 := ⟨_, rfl⟩
  have gz2 := fb_rng z2
  refine r_imul 5 z2 C dX5_nextKey_5 ez2 ?_
  refine r_sipush 6 22719 C dX5_nextKey_6 (by decide) ?_
  obtain ⟨z3, ez3⟩ : ∃ z_9, z2 + 22719 = z_9 := ⟨_, rfl⟩
  have gz3 := fb_rng z3
  refine r_iadd 9 z3 C dX5_nextKey_9 ez3 ?_
  refine r_ldc 10 65535 C dX5_nextKey_10 (mg 2 rfl) ?_
  obtain ⟨z4, ez4⟩ : ∃ z_9, z3 &&& 65535 = z_9 := ⟨_, rfl⟩
  have tz4 : 0 ≤ (Int32.toInt z4) ∧ (Int32.toInt z4) ≤ 65535 := by rw [← ez4]; exact and_65535 z3
  refine r_iand 12 z4 C dX5_nextKey_12 ez4 ?_
  exact r_iret 13 Rt dX5_nextKey_13 () (show 0 ≤ (Int32.toInt z4) ∧ (Int32.toInt z4) ≤ 65535 from by ((repeat' apply And.intro) <;> first | trivial | rfl | assumption | omega | decide)) [] (by decide) rfl (Nat.le_of_ble_eq_true rfl) (Nat.le_of_ble_eq_true rfl)
set_option maxHeartbeats 4000000 in
set_option maxRecDepth 100000 in
theorem c7_X5_encipher (l : Launch) (g : GD) (h0 : Nat) (h1 : Nat) (x0 : Int32) (x1 : Int32) (fn0 : Nat → Int32) (i_x1 : (0 ≤ (Int32.toInt x1) ∧ (Int32.toInt x1) ≤ 1500)) (sz : Nat) : Met l yX5_encipher wsX5_encipher ({ frames := 1, cells := 0, slots := 0, locals := 21 }) (va_Pc [.ref h0, .int x0] (PW g [(h0, .inr (4, [.ref h1, .int x1])), (h1, .inl (gB g, 1500, .inl fn0))] sz)) (va_Qv (fun (u : (Nat → Int32)) => True) (BW g (va_A [(h0, .inr (4, [.ref h1, .int x1])), (h1, .inl (gB g, 1500, .inl fn0))] sz) (fun u : (Nat → Int32) => [(h0, .inr (4, [.ref h1, .int x1])), (h1, .inl (gB g, 1500, .inl u))])) (va_A [(h0, .inr (4, [.ref h1, .int x1])), (h1, .inl (gB g, 1500, .inl fn0))] sz)) 0 0 (va_A [(h0, .inr (4, [.ref h1, .int x1])), (h1, .inl (gB g, 1500, .inl fn0))] sz) := by
  refine met_v RX5 (by decide) rfl rfl (Nat.le_of_ble_eq_true rfl) [(0, .ref h0), (1, .int x0)] rfl ?_
  intro p e s m args below meth c A Q C hnm Rt
  obtain ⟨i_x1a, i_x1b⟩ := i_x1
  have gx0 := fb_rng x0
  have hiX5 : ∀ w ∈ wsX50, w ∈ wsX5_encipher := fun w h => List.mem_cons_of_mem _ (List.mem_append_right _ (h))
  refine r_iload_n 0 1 C dX5_encipher_0 rfl ?_
  refine r_istore_n 1 C dX5_encipher_1 [(2, .int x0), (0, .ref h0), (1, .int x0)] (by decide) rfl ?_
  refine r_iconst 2 0 C dX5_encipher_2 (by decide) ?_
  refine r_istore_n 3 C dX5_encipher_3 [(3, .int 0), (2, .int x0), (0, .ref h0), (1, .int x0)] (by decide) rfl ?_
  have lp5 : ∀ (n4 : Nat) (z1 : Int32) (z2 : Int32) (f3 : Nat → Int32), (0 ≤ (Int32.toInt z1) ∧ (Int32.toInt z1) ≤ 1500) → Int.toNat (1500 - (Int32.toInt z1)) < n4 → WW p l e ({ frames := 1, cells := 0, slots := 0, locals := 21 } : Room) s m args below meth c A Q g 5 0 0 [(h0, .inr (4, [.ref h1, .int x1])), (h1, .inl (gB g, 1500, .inl f3))] 4 [(3, .int z1), (2, .int z2), (0, .ref h0), (1, .int x0)] [] := by
    intro n4
    induction n4 with
    | zero => intro z1 z2 f3 i8 hm7; exact absurd hm7 (Nat.not_lt_zero _)
    | succ n4 ih6 =>
      intro z1 z2 f3 i8 hm7
      obtain ⟨i8a, i8b⟩ := i8
      have gz2 := fb_rng z2
      refine r_iload_n 4 0 C dX5_encipher_4 rfl ?_
      refine r_aload_n 5 2 C dX5_encipher_5 rfl ?_
      refine r_get 6 C dX5_encipher_6 (k := 1) 0 rfl rfl hiX5 (by decide) rfl (mg 1 rfl) (Or.inl rfl) rfl ?_
      refine r_icmp_ge 9 51 C dX5_encipher_9 (by decide) (fun c9 => ?_) (fun c9 => ?_)
      · skip
        have k10 : (Int32.toInt x1) ≤ (Int32.toInt z1) := (fa_le x1 z1).mp c9
        exact r_vret 51 Rt dX5_encipher_51 f3 trivial [0, 1] (by decide) rfl (Nat.le_of_ble_eq_true rfl) (Nat.le_of_ble_eq_true rfl)
      · skip
        have k11 : ¬ ((Int32.toInt x1) ≤ (Int32.toInt z1)) := fun h_9 => c9 ((fa_le x1 z1).mpr h_9)
        refine r_aload_n 12 2 C dX5_encipher_12 rfl ?_
        refine r_get 13 C dX5_encipher_13 (k := 0) 0 rfl rfl hiX5 (by decide) rfl (mg 2 rfl) (Or.inl rfl) rfl ?_
        refine r_iload_n 16 0 C dX5_encipher_16 rfl ?_
        obtain ⟨z12, ez12⟩ : ∃ z_9, f3 (Int32.toNatClampNeg z1) = z_9 := ⟨_, rfl⟩
        refine r_bald 17 z12 C dX5_encipher_17 1 rfl (vinI (by omega) (by omega)) ez12 ?_
        have gz12 := fb_rng z12
        refine r_sipush 18 255 C dX5_encipher_18 (by decide) ?_
        obtain ⟨z13, ez13⟩ : ∃ z_9, z12 &&& 255 = z_9 := ⟨_, rfl⟩
        have tz13 : 0 ≤ (Int32.toInt z13) ∧ (Int32.toInt z13) ≤ 255 := by rw [← ez13]; exact and_255 z12
        refine r_iand 21 z13 C dX5_encipher_21 ez13 ?_
        refine r_iload_n 22 1 C dX5_encipher_22 rfl ?_
        refine r_bipush 23 8 C dX5_encipher_23 (by decide) ?_
        obtain ⟨z14, ez14⟩ : ∃ z_9, z2 >>> (8 &&& 31) = z_9 := ⟨_, rfl⟩
        have tz14 : (Int32.toInt z14) = (Int32.toInt z2) / 256 := by rw [← ez14]; exact shr_8 z2
        refine r_ishr 25 z14 C dX5_encipher_25 ez14 ?_
        obtain ⟨z15, ez15⟩ : ∃ z_9, z13 ^^^ z14 = z_9 := ⟨_, rfl⟩
        have gz15 := fb_rng z15
        refine r_ixor 26 z15 C dX5_encipher_26 ez15 ?_
        refine r_istore 27 C dX5_encipher_27 [(4, .int z15), (3, .int z1), (2, .int z2), (0, .ref h0), (1, .int x0)] (by decide) rfl ?_
        refine r_aload_n 29 3 C dX5_encipher_29 rfl ?_
        refine r_get 30 C dX5_encipher_30 (k := 0) 0 rfl rfl hiX5 (by decide) rfl (mg 2 rfl) (Or.inl rfl) rfl ?_
        refine r_iload_n 33 1 C dX5_encipher_33 rfl ?_
        refine r_iload 34 0 C dX5_encipher_34 rfl ?_
        obtain ⟨z16, ez16⟩ : ∃ z_9, (Int32.toInt8 z15).toInt32 = z_9 := ⟨_, rfl⟩
        have gz16 := fb_rng z16
        refine r_i2b 36 z16 C dX5_encipher_36 ez16 ?_
        obtain ⟨f17, ef17⟩ : ∃ f_9, upd f3 (Int32.toNatClampNeg z1) (vp_nar .byte z16) = f_9 := ⟨_, rfl⟩
        refine r_bast 37 C dX5_encipher_37 1 rfl (vinI (by omega) (by omega)) f17 ef17 [(h0, .inr (4, [.ref h1, .int x1])), (h1, .inl (gB g, 1500, .inl f17))] rfl ?_
        refine r_iload 38 0 C dX5_encipher_38 rfl ?_
        refine r_iload_n 40 2 C dX5_encipher_40 rfl ?_
        refine r_callSi 41 C dX5_encipher_41 [] [] [(h0, .inr (4, [.ref h1, .int x1])), (h1, .inl (gB g, 1500, .inl f17))] (fun sz => c6_X5_nextKey l g z15 z2  sz) gX5_encipher_X5_nextKey rfl ⟨rfl, rfl⟩ 2 (by decide) ⟨Nat.le_of_ble_eq_true rfl, Nat.le_of_ble_eq_true rfl⟩ [] [0, 1] rfl rfl (by decide) (by decide) (by decide) rfl rfl (Nat.le_of_ble_eq_true rfl) ⟨Nat.le_of_ble_eq_true rfl, Nat.le_of_ble_eq_true rfl⟩ (fun r18 _ w19 => ?_)
        refine r_ws [(h0, .inr (4, [.ref h1, .int x1])), (h1, .inl (gB g, 1500, .inl f17))] rfl ?_
        have p20 : 0 ≤ (Int32.toInt r18) := w19.1
        have p21 : (Int32.toInt r18) ≤ 65535 := w19.2
        refine r_istore_n 44 C dX5_encipher_44 [(2, .int r18), (4, .int z15), (3, .int z1), (0, .ref h0), (1, .int x0)] (by decide) rfl ?_
        obtain ⟨z22, ez22⟩ : ∃ z_9, z1 + Int32.ofInt 1 = z_9 := ⟨_, rfl⟩
        have tz22 : (Int32.toInt z22) = (Int32.toInt z1) + 1 := by rw [← ez22]; exact fb_addI (by show -2147483648 ≤ (Int32.toInt z1) + 1; omega) (by show (Int32.toInt z1) + 1 < 2147483648; omega)
        refine r_iinc 45 2 z22 C dX5_encipher_45 rfl ez22 [(3, .int z22), (2, .int r18), (4, .int z15), (0, .ref h0), (1, .int x0)] (by decide) rfl ?_
        refine r_goto 48 4 C dX5_encipher_48 (by decide) ?_
        refine r_lv [(3, .int z22), (2, .int r18), (0, .ref h0), (1, .int x0)] [0, 1, 3, 4] rfl ?_
        exact ih6 z22 r18 f17 ⟨by omega, by omega⟩ (by omega)
  exact lp5 _ 0 x0 fn0 (by decide) (Nat.lt_succ_self _)
set_option maxHeartbeats 4000000 in
set_option maxRecDepth 100000 in
theorem c8_X5_decipher (l : Launch) (g : GD) (h0 : Nat) (h1 : Nat) (x0 : Int32) (x1 : Int32) (x2 : Int32) (x3 : Int32) (fn0 : Nat → Int32) (i_x3 : (0 ≤ (Int32.toInt x3) ∧ (Int32.toInt x3) ≤ 1500)) (sz : Nat) : Met l yX5_decipher wsX5_decipher ({ frames := 1, cells := 0, slots := 0, locals := 21 }) (va_Pc [.ref h0, .int x0, .int x1, .int x2] (PW g [(h0, .inr (4, [.ref h1, .int x3])), (h1, .inl (gB g, 1500, .inl fn0))] sz)) (va_Qv (fun (u : (Nat → Int32)) => True) (BW g (va_A [(h0, .inr (4, [.ref h1, .int x3])), (h1, .inl (gB g, 1500, .inl fn0))] sz) (fun u : (Nat → Int32) => [(h0, .inr (4, [.ref h1, .int x3])), (h1, .inl (gB g, 1500, .inl u))])) (va_A [(h0, .inr (4, [.ref h1, .int x3])), (h1, .inl (gB g, 1500, .inl fn0))] sz)) 0 0 (va_A [(h0, .inr (4, [.ref h1, .int x3])), (h1, .inl (gB g, 1500, .inl fn0))] sz) := by
  refine met_v RX5 (by decide) rfl rfl (Nat.le_of_ble_eq_true rfl) [(0, .ref h0), (1, .int x0), (2, .int x1), (3, .int x2)] rfl ?_
  intro p e s m args below meth c A Q C hnm Rt
  obtain ⟨i_x3a, i_x3b⟩ := i_x3
  have gx0 := fb_rng x0
  have gx1 := fb_rng x1
  have gx2 := fb_rng x2
  have hiX5 : ∀ w ∈ wsX50, w ∈ wsX5_decipher := fun w h => List.mem_cons_of_mem _ (List.mem_append_right _ (h))
  refine r_iload_n 0 1 C dX5_decipher_0 rfl ?_
  refine r_istore 1 C dX5_decipher_1 [(4, .int x0), (0, .ref h0), (1, .int x0), (2, .int x1), (3, .int x2)] (by decide) rfl ?_
  refine r_iload_n 3 3 C dX5_decipher_3 rfl ?_
  refine r_iconst 4 0 C dX5_decipher_4 (by decide) ?_
  obtain ⟨z1, ez1⟩ : ∃ z_9, (if x1 < 0 then 0 else x1) = z_9 := ⟨_, rfl⟩
  have tz1 : ((Int32.toInt x1) < 0 ∧ (Int32.toInt z1) = 0) ∨ (¬ ((Int32.toInt x1) < 0) ∧ (Int32.toInt z1) = (Int32.toInt x1)) := by rw [← ez1]; exact mx_or x1 0 0 x1
  refine r_mmax 5 z1 C dX5_decipher_5 (mg 1 rfl) (mg 2 rfl) (mg 3 rfl) (mg 4 rfl) (Nat.le_of_ble_eq_true rfl) (Nat.le_of_ble_eq_true rfl) (Nat.le_of_ble_eq_true rfl) (Nat.le_of_ble_eq_true rfl) ez1 ?_
  refine r_istore 8 C dX5_decipher_8 [(5, .int z1), (4, .int x0), (0, .ref h0), (1, .int x0), (2, .int x1), (3, .int x2)] (by decide) rfl ?_
  have lp6 : ∀ (n5 : Nat) (z2 : Int32) (z3 : Int32) (f4 : Nat → Int32), (0 ≤ (Int32.toInt z2) ∧ (Int32.toInt z2) ≤ 2147483647) → Int.toNat (2147483647 - (Int32.toInt z2)) < n5 → WW p l e ({ frames := 1, cells := 0, slots := 0, locals := 21 } : Room) s m args below meth c A Q g 7 0 0 [(h0, .inr (4, [.ref h1, .int x3])), (h1, .inl (gB g, 1500, .inl f4))] 10 [(5, .int z2), (4, .int z3), (0, .ref h0), (1, .int x0), (2, .int x1), (3, .int x2)] [] := by
    intro n5
    induction n5 with
    | zero => intro z2 z3 f4 i9 hm8; exact absurd hm8 (Nat.not_lt_zero _)
    | succ n5 ih7 =>
      intro z2 z3 f4 i9 hm8
      obtain ⟨i9a, i9b⟩ := i9
      have gz3 := fb_rng z3
      refine r_iload 10 0 C dX5_decipher_10 rfl ?_
      refine r_iload_n 12 5 C dX5_decipher_12 rfl ?_
      refine r_icmp_ge 13 69 C dX5_decipher_13 (by decide) (fun c10 => ?_) (fun c10 => ?_)
      · skip
        have k11 : (Int32.toInt x2) ≤ (Int32.toInt z2) := (fa_le x2 z2).mp c10
        exact r_vret 69 Rt dX5_decipher_69 f4 trivial [0, 1] (by decide) rfl (Nat.le_of_ble_eq_true rfl) (Nat.le_of_ble_eq_true rfl)
      · skip
        have k12 : ¬ ((Int32.toInt x2) ≤ (Int32.toInt z2)) := fun h_9 => c10 ((fa_le x2 z2).mpr h_9)
        refine r_iload 16 0 C dX5_decipher_16 rfl ?_
        refine r_aload_n 18 2 C dX5_decipher_18 rfl ?_
        refine r_get 19 C dX5_decipher_19 (k := 1) 0 rfl rfl hiX5 (by decide) rfl (mg 5 rfl) (Or.inl rfl) rfl ?_
        refine r_icmp_ge 22 69 C dX5_decipher_22 (by decide) (fun c13 => ?_) (fun c13 => ?_)
        · skip
          have k14 : (Int32.toInt x3) ≤ (Int32.toInt z2) := (fa_le x3 z2).mp c13
          exact r_vret 69 Rt dX5_decipher_69 f4 trivial [0, 1] (by decide) rfl (Nat.le_of_ble_eq_true rfl) (Nat.le_of_ble_eq_true rfl)
        · skip
          have k15 : ¬ ((Int32.toInt x3) ≤ (Int32.toInt z2)) := fun h_9 => c13 ((fa_le x3 z2).mpr h_9)
          refine r_aload_n 25 2 C dX5_decipher_25 rfl ?_
          refine r_get 26 C dX5_decipher_26 (k := 0) 0 rfl rfl hiX5 (by decide) rfl (mg 6 rfl) (Or.inl rfl) rfl ?_
          refine r_iload 29 0 C dX5_decipher_29 rfl ?_
          obtain ⟨z16, ez16⟩ : ∃ z_9, f4 (Int32.toNatClampNeg z2) = z_9 := ⟨_, rfl⟩
          refine r_bald 31 z16 C dX5_decipher_31 1 rfl (vinI (by omega) (by omega)) ez16 ?_
          have gz16 := fb_rng z16
          refine r_sipush 32 255 C dX5_decipher_32 (by decide) ?_
          obtain ⟨z17, ez17⟩ : ∃ z_9, z16 &&& 255 = z_9 := ⟨_, rfl⟩
          have tz17 : 0 ≤ (Int32.toInt z17) ∧ (Int32.toInt z17) ≤ 255 := by rw [← ez17]; exact and_255 z16
          refine r_iand 35 z17 C dX5_decipher_35 ez17 ?_
          refine r_istore 36 C dX5_decipher_36 [(6, .int z17), (5, .int z2), (4, .int z3), (0, .ref h0), (1, .int x0), (2, .int x1), (3, .int x2)] (by decide) rfl ?_
          refine r_aload_n 38 3 C dX5_decipher_38 rfl ?_
          refine r_get 39 C dX5_decipher_39 (k := 0) 0 rfl rfl hiX5 (by decide) rfl (mg 6 rfl) (Or.inl rfl) rfl ?_
          refine r_iload 42 1 C dX5_decipher_42 rfl ?_
          refine r_iload 44 0 C dX5_decipher_44 rfl ?_
          refine r_iload 46 2 C dX5_decipher_46 rfl ?_
          refine r_bipush 48 8 C dX5_decipher_48 (by decide) ?_
          obtain ⟨z18, ez18⟩ : ∃ z_9, z3 >>> (8 &&& 31) = z_9 := ⟨_, rfl⟩
          have tz18 : (Int32.toInt z18) = (Int32.toInt z3) / 256 := by rw [← ez18]; exact shr_8 z3
          refine r_ishr 50 z18 C dX5_decipher_50 ez18 ?_
          obtain ⟨z19, ez19⟩ : ∃ z_9, z17 ^^^ z18 = z_9 := ⟨_, rfl⟩
          have gz19 := fb_rng z19
          refine r_ixor 51 z19 C dX5_decipher_51 ez19 ?_
          obtain ⟨z20, ez20⟩ : ∃ z_9, (Int32.toInt8 z19).toInt32 = z_9 := ⟨_, rfl⟩
          have gz20 := fb_rng z20
          refine r_i2b 52 z20 C dX5_decipher_52 ez20 ?_
          obtain ⟨f21, ef21⟩ : ∃ f_9, upd f4 (Int32.toNatClampNeg z2) (vp_nar .byte z20) = f_9 := ⟨_, rfl⟩
          refine r_bast 53 C dX5_decipher_53 1 rfl (vinI (by omega) (by omega)) f21 ef21 [(h0, .inr (4, [.ref h1, .int x3])), (h1, .inl (gB g, 1500, .inl f21))] rfl ?_
          refine r_iload 54 0 C dX5_decipher_54 rfl ?_
          refine r_iload 56 2 C dX5_decipher_56 rfl ?_
          refine r_callSi 58 C dX5_decipher_58 [] [] [(h0, .inr (4, [.ref h1, .int x3])), (h1, .inl (gB g, 1500, .inl f21))] (fun sz => c6_X5_nextKey l g z17 z3  sz) gX5_decipher_X5_nextKey rfl ⟨rfl, rfl⟩ 2 (by decide) ⟨Nat.le_of_ble_eq_true rfl, Nat.le_of_ble_eq_true rfl⟩ [] [0, 1] rfl rfl (by decide) (by decide) (by decide) rfl rfl (Nat.le_of_ble_eq_true rfl) ⟨Nat.le_of_ble_eq_true rfl, Nat.le_of_ble_eq_true rfl⟩ (fun r22 _ w23 => ?_)
          refine r_ws [(h0, .inr (4, [.ref h1, .int x3])), (h1, .inl (gB g, 1500, .inl f21))] rfl ?_
          have p24 : 0 ≤ (Int32.toInt r22) := w23.1
          have p25 : (Int32.toInt r22) ≤ 65535 := w23.2
          refine r_istore 61 C dX5_decipher_61 [(4, .int r22), (6, .int z17), (5, .int z2), (0, .ref h0), (1, .int x0), (2, .int x1), (3, .int x2)] (by decide) rfl ?_
          obtain ⟨z26, ez26⟩ : ∃ z_9, z2 + Int32.ofInt 1 = z_9 := ⟨_, rfl⟩
          have tz26 : (Int32.toInt z26) = (Int32.toInt z2) + 1 := by rw [← ez26]; exact fb_addI (by show -2147483648 ≤ (Int32.toInt z2) + 1; omega) (by show (Int32.toInt z2) + 1 < 2147483648; omega)
          refine r_iinc 63 2 z26 C dX5_decipher_63 rfl ez26 [(5, .int z26), (4, .int r22), (6, .int z17), (0, .ref h0), (1, .int x0), (2, .int x1), (3, .int x2)] (by decide) rfl ?_
          refine r_goto 66 10 C dX5_decipher_66 (by decide) ?_
          refine r_lv [(5, .int z26), (4, .int r22), (0, .ref h0), (1, .int x0), (2, .int x1), (3, .int x2)] [0, 1, 3, 4, 5, 6] rfl ?_
          exact ih7 z26 r22 f21 ⟨by omega, by omega⟩ (by omega)
  exact lp6 _ z1 x0 fn0 ⟨by omega, by omega⟩ (Nat.lt_succ_self _)
