set_option maxHeartbeats 4000000 in
set_option maxRecDepth 100000 in
theorem c0_X5_size (l : Launch) (g : GD) (h0 : Nat) (h1 : Nat) (x0 : Int32) (i_x0 : (0 ≤ (Int32.toInt x0) ∧ (Int32.toInt x0) ≤ 1500)) (sz : Nat) : Met l yX5_size wsX5_size ({ frames := 0, cells := 0, slots := 0, locals := 0 }) (va_Pc [.ref h0] (PW g [(h0, .inr (4, [.ref h1, .int x0]))] sz)) (va_Qi (fun (r : Int32) (_ : Unit) => r = x0) (BW g (va_A [(h0, .inr (4, [.ref h1, .int x0]))] sz) (fun _ : Unit => [(h0, .inr (4, [.ref h1, .int x0]))])) (va_A [(h0, .inr (4, [.ref h1, .int x0]))] sz)) 0 0 (va_A [(h0, .inr (4, [.ref h1, .int x0]))] sz) := by
  refine met_i RX5 (by decide) rfl rfl (Nat.le_of_ble_eq_true rfl) [(0, .ref h0)] rfl ?_
  intro p e s m args below meth c A Q C hnm Rt
  have hiX5 : ∀ w ∈ wsX50, w ∈ wsX5_size := fun w h => List.mem_cons_of_mem _ (List.mem_append_right _ (h))
  refine r_aload_n 0 0 C dX5_size_0 rfl ?_
  refine r_get 1 C dX5_size_1 (k := 1) 0 rfl rfl hiX5 (by decide) rfl (mg 1 rfl) (Or.inl rfl) rfl ?_
  exact r_iret 4 Rt dX5_size_4 () (show x0 = x0 from (by ((repeat' apply And.intro) <;> first | trivial | rfl | assumption | omega | decide | exact Or.inl rfl | exact Or.inr (Or.inl rfl) | exact Or.inr (Or.inr rfl)))) [0] (by decide) rfl (Nat.le_of_ble_eq_true rfl) (Nat.le_of_ble_eq_true rfl)
set_option maxHeartbeats 4000000 in
set_option maxRecDepth 100000 in
theorem c1_X5_add (l : Launch) (g : GD) (h0 : Nat) (h1 : Nat) (x0 : Int32) (x1 : Int32) (fn0 : Nat → Int32) (i_x1 : (0 ≤ (Int32.toInt x1) ∧ (Int32.toInt x1) ≤ 1500)) (sz : Nat) : Met l yX5_add wsX5_add ({ frames := 0, cells := 0, slots := 0, locals := 0 }) (va_Pc [.ref h0, .int x0] (PW g [(h0, .inr (4, [.ref h1, .int x1])), (h1, .inl (gB g, 1500, .inl fn0))] sz)) (va_Qv (fun (u : (Int32) × (Nat → Int32)) => ((1500 ≤ (Int32.toInt x1) ∧ (Int32.toInt (u.1)) = (Int32.toInt x1)) ∨ (¬ (1500 ≤ (Int32.toInt x1)) ∧ (Int32.toInt (u.1)) = (Int32.toInt x1) + 1)) ∧ 0 ≤ (Int32.toInt (u.1)) ∧ (Int32.toInt (u.1)) ≤ 1500) (BW g (va_A [(h0, .inr (4, [.ref h1, .int x1])), (h1, .inl (gB g, 1500, .inl fn0))] sz) (fun u : (Int32) × (Nat → Int32) => [(h0, .inr (4, [.ref h1, .int u.1])), (h1, .inl (gB g, 1500, .inl u.2))])) (va_A [(h0, .inr (4, [.ref h1, .int x1])), (h1, .inl (gB g, 1500, .inl fn0))] sz)) 0 0 (va_A [(h0, .inr (4, [.ref h1, .int x1])), (h1, .inl (gB g, 1500, .inl fn0))] sz) := by
  refine met_v RX5 (by decide) rfl rfl (Nat.le_of_ble_eq_true rfl) [(0, .ref h0), (1, .int x0)] rfl ?_
  intro p e s m args below meth c A Q C hnm Rt
  have hiX5 : ∀ w ∈ wsX50, w ∈ wsX5_add := fun w h => List.mem_cons_of_mem _ (List.mem_append_right _ (h))
  refine r_aload_n 0 0 C dX5_add_0 rfl ?_
  refine r_get 1 C dX5_add_1 (k := 1) 0 rfl rfl hiX5 (by decide) rfl (mg 1 rfl) (Or.inl rfl) rfl ?_
  refine r_aload_n 4 0 C dX5_add_4 rfl ?_
  refine r_get 5 C dX5_add_5 (k := 0) 0 rfl rfl hiX5 (by decide) rfl (mg 2 rfl) (Or.inl rfl) rfl ?_
  refine r_balen 8 1500 C dX5_add_8 1 rfl (by decide) ?_
  refine r_icmp_ge 9 33 C dX5_add_9 (by decide) (fun c1 => ?_) (fun c1 => ?_)
  · skip
    have k2 : 1500 ≤ (Int32.toInt x1) := (fa_le 1500 x1).mp c1
    exact r_vret 33 Rt dX5_add_33 (x1, fn0) (show ((1500 ≤ (Int32.toInt x1) ∧ (Int32.toInt x1) = (Int32.toInt x1)) ∨ (¬ (1500 ≤ (Int32.toInt x1)) ∧ (Int32.toInt x1) = (Int32.toInt x1) + 1)) ∧ 0 ≤ (Int32.toInt x1) ∧ (Int32.toInt x1) ≤ 1500 from by refine ⟨Or.inl ?_, ?_, ?_⟩ <;> ((repeat' apply And.intro) <;> first | trivial | rfl | assumption | omega | decide | exact Or.inl rfl | exact Or.inr (Or.inl rfl) | exact Or.inr (Or.inr rfl))) [0, 1] (by decide) rfl (Nat.le_of_ble_eq_true rfl) (Nat.le_of_ble_eq_true rfl)
  · skip
    have k3 : ¬ (1500 ≤ (Int32.toInt x1)) := fun h_9 => c1 ((fa_le 1500 x1).mpr h_9)
    refine r_aload_n 12 0 C dX5_add_12 rfl ?_
    refine r_get 13 C dX5_add_13 (k := 0) 0 rfl rfl hiX5 (by decide) rfl (mg 2 rfl) (Or.inl rfl) rfl ?_
    refine r_aload_n 16 0 C dX5_add_16 rfl ?_
    refine r_get 17 C dX5_add_17 (k := 1) 0 rfl rfl hiX5 (by decide) rfl (mg 1 rfl) (Or.inl rfl) rfl ?_
    refine r_iload_n 20 1 C dX5_add_20 rfl ?_
    obtain ⟨z4, ez4⟩ : ∃ z_9, (Int32.toInt8 x0).toInt32 = z_9 := ⟨_, rfl⟩
    have gz4 := fb_rng z4
    refine r_i2b 21 z4 C dX5_add_21 ez4 ?_
    obtain ⟨f5, ef5⟩ : ∃ f_9, upd fn0 (Int32.toNatClampNeg x1) (vp_nar .byte z4) = f_9 := ⟨_, rfl⟩
    refine r_bast 22 C dX5_add_22 1 rfl (vinI (by omega) (by omega)) f5 ef5 [(h0, .inr (4, [.ref h1, .int x1])), (h1, .inl (gB g, 1500, .inl f5))] rfl ?_
    refine r_aload_n 23 0 C dX5_add_23 rfl ?_
    refine r_dup 24 C dX5_add_24 rfl ?_
    refine r_get 25 C dX5_add_25 (k := 1) 0 rfl rfl hiX5 (by decide) rfl (mg 1 rfl) (Or.inl rfl) rfl ?_
    refine r_iconst 28 1 C dX5_add_28 (by decide) ?_
    obtain ⟨z6, ez6⟩ : ∃ z_9, x1 + 1 = z_9 := ⟨_, rfl⟩
    have tz6 : (Int32.toInt z6) = (Int32.toInt x1) + 1 := by rw [← ez6]; exact fb_addIv (a := 0) (b := 1500) (c := 1) (d := 1) i_x1 ⟨by decide, by decide⟩ (by decide) (by decide)
    refine r_iadd 29 z6 C dX5_add_29 ez6 ?_
    refine r_put 30 C dX5_add_30 (k := 1) 0 rfl rfl hiX5 tyX5 tyX5_ok nmX5 (by decide) rfl (mg 1 rfl) (Or.inl rfl) rfl rfl rfl rfl (Nat.le_of_ble_eq_true rfl) [(h0, .inr (4, [.ref h1, .int z6])), (h1, .inl (gB g, 1500, .inl f5))] rfl ?_
    exact r_vret 33 Rt dX5_add_33 (z6, f5) (show ((1500 ≤ (Int32.toInt x1) ∧ (Int32.toInt z6) = (Int32.toInt x1)) ∨ (¬ (1500 ≤ (Int32.toInt x1)) ∧ (Int32.toInt z6) = (Int32.toInt x1) + 1)) ∧ 0 ≤ (Int32.toInt z6) ∧ (Int32.toInt z6) ≤ 1500 from by refine ⟨Or.inr (?_), ?_, ?_⟩ <;> ((repeat' apply And.intro) <;> first | trivial | rfl | assumption | omega | decide | exact Or.inl rfl | exact Or.inr (Or.inl rfl) | exact Or.inr (Or.inr rfl))) [0, 1] (by decide) rfl (Nat.le_of_ble_eq_true rfl) (Nat.le_of_ble_eq_true rfl)
set_option maxHeartbeats 4000000 in
set_option maxRecDepth 100000 in
theorem c2_X5_addWord (l : Launch) (g : GD) (h0 : Nat) (h1 : Nat) (x0 : Int32) (x1 : Int32) (fn0 : Nat → Int32) (i_x1 : (0 ≤ (Int32.toInt x1) ∧ (Int32.toInt x1) ≤ 1500)) (sz : Nat) : Met l yX5_addWord wsX5_addWord ({ frames := 1, cells := 0, slots := 0, locals := 21 }) (va_Pc [.ref h0, .int x0] (PW g [(h0, .inr (4, [.ref h1, .int x1])), (h1, .inl (gB g, 1500, .inl fn0))] sz)) (va_Qv (fun (u : (Int32) × (Nat → Int32)) => 0 ≤ (Int32.toInt (u.1)) ∧ (Int32.toInt (u.1)) ≤ 1500 ∧ (1496 < (Int32.toInt x1) ∨ (Int32.toInt (u.1)) = (Int32.toInt x1) + 4)) (BW g (va_A [(h0, .inr (4, [.ref h1, .int x1])), (h1, .inl (gB g, 1500, .inl fn0))] sz) (fun u : (Int32) × (Nat → Int32) => [(h0, .inr (4, [.ref h1, .int u.1])), (h1, .inl (gB g, 1500, .inl u.2))])) (va_A [(h0, .inr (4, [.ref h1, .int x1])), (h1, .inl (gB g, 1500, .inl fn0))] sz)) 0 0 (va_A [(h0, .inr (4, [.ref h1, .int x1])), (h1, .inl (gB g, 1500, .inl fn0))] sz) := by
  refine met_v RX5 (by decide) rfl rfl (Nat.le_of_ble_eq_true rfl) [(0, .ref h0), (1, .int x0)] rfl ?_
  intro p e s m args below meth c A Q C hnm Rt
  have gx0 := fb_rng x0
  refine r_aload_n 0 0 C dX5_addWord_0 rfl ?_
  refine r_iload_n 1 1 C dX5_addWord_1 rfl ?_
  refine r_bipush 2 24 C dX5_addWord_2 (by decide) ?_
  obtain ⟨z1, ez1⟩ : ∃ z_9, x0 >>> (24 &&& 31) = z_9 := ⟨_, rfl⟩
  have tz1 : (Int32.toInt z1) = (Int32.toInt x0) / 16777216 := by rw [← ez1]; exact shr_24 x0
  refine r_ishr 4 z1 C dX5_addWord_4 ez1 ?_
  refine r_callVv 5 C dX5_addWord_5 [] [(h0, .inr (4, [.ref h1, .int x1])), (h1, .inl (gB g, 1500, .inl fn0))] [] (fun sz => c1_X5_add l g h0 h1 z1 x1 fn0 i_x1 sz) gX5_addWord_X5_add rfl ⟨rfl, rfl⟩ 1 (by decide) ⟨Nat.le_of_ble_eq_true rfl, Nat.le_of_ble_eq_true rfl⟩ 0 rfl rfl [0, 1] [] rfl rfl (by decide) (by decide) (by decide) rfl rfl (Nat.le_of_ble_eq_true rfl) ⟨Nat.le_of_ble_eq_true rfl, Nat.le_of_ble_eq_true rfl⟩ (fun  u5 w4 => ?_)
  obtain ⟨z2, f3⟩ := u5
  refine r_ws [(h0, .inr (4, [.ref h1, .int z2])), (h1, .inl (gB g, 1500, .inl f3))] rfl ?_
  have p6 : 0 ≤ (Int32.toInt z2) := w4.2.1
  have p7 : (Int32.toInt z2) ≤ 1500 := w4.2.2
  have w8 : ((1500 ≤ (Int32.toInt x1) ∧ (Int32.toInt z2) = (Int32.toInt x1)) ∨ (¬ (1500 ≤ (Int32.toInt x1)) ∧ (Int32.toInt z2) = (Int32.toInt x1) + 1)) := w4.1
  rcases w8 with ⟨k9, k10⟩ | w8
  · skip
    refine r_aload_n 8 0 C dX5_addWord_8 rfl ?_
    refine r_iload_n 9 1 C dX5_addWord_9 rfl ?_
    refine r_bipush 10 16 C dX5_addWord_10 (by decide) ?_
    obtain ⟨z11, ez11⟩ : ∃ z_9, x0 >>> (16 &&& 31) = z_9 := ⟨_, rfl⟩
    have tz11 : (Int32.toInt z11) = (Int32.toInt x0) / 65536 := by rw [← ez11]; exact shr_16 x0
    refine r_ishr 12 z11 C dX5_addWord_12 ez11 ?_
    refine r_callVv 13 C dX5_addWord_13 [] [(h0, .inr (4, [.ref h1, .int z2])), (h1, .inl (gB g, 1500, .inl f3))] [] (fun sz => c1_X5_add l g h0 h1 z11 z2 f3 ⟨p6, p7⟩ sz) gX5_addWord_X5_add rfl ⟨rfl, rfl⟩ 1 (by decide) ⟨Nat.le_of_ble_eq_true rfl, Nat.le_of_ble_eq_true rfl⟩ 0 rfl rfl [0, 1] [] rfl rfl (by decide) (by decide) (by decide) rfl rfl (Nat.le_of_ble_eq_true rfl) ⟨Nat.le_of_ble_eq_true rfl, Nat.le_of_ble_eq_true rfl⟩ (fun  u15 w14 => ?_)
    obtain ⟨z12, f13⟩ := u15
    refine r_ws [(h0, .inr (4, [.ref h1, .int z12])), (h1, .inl (gB g, 1500, .inl f13))] rfl ?_
    have p16 : 0 ≤ (Int32.toInt z12) := w14.2.1
    have p17 : (Int32.toInt z12) ≤ 1500 := w14.2.2
    have w18 : ((1500 ≤ (Int32.toInt z2) ∧ (Int32.toInt z12) = (Int32.toInt z2)) ∨ (¬ (1500 ≤ (Int32.toInt z2)) ∧ (Int32.toInt z12) = (Int32.toInt z2) + 1)) := w14.1
    rcases w18 with ⟨k19, k20⟩ | w18
    · skip
      refine r_aload_n 16 0 C dX5_addWord_16 rfl ?_
      refine r_iload_n 17 1 C dX5_addWord_17 rfl ?_
      refine r_bipush 18 8 C dX5_addWord_18 (by decide) ?_
      obtain ⟨z21, ez21⟩ : ∃ z_9, x0 >>> (8 &&& 31) = z_9 := ⟨_, rfl⟩
      have tz21 : (Int32.toInt z21) = (Int32.toInt x0) / 256 := by rw [← ez21]; exact shr_8 x0
      refine r_ishr 20 z21 C dX5_addWord_20 ez21 ?_
      refine r_callVv 21 C dX5_addWord_21 [] [(h0, .inr (4, [.ref h1, .int z12])), (h1, .inl (gB g, 1500, .inl f13))] [] (fun sz => c1_X5_add l g h0 h1 z21 z12 f13 ⟨p16, p17⟩ sz) gX5_addWord_X5_add rfl ⟨rfl, rfl⟩ 1 (by decide) ⟨Nat.le_of_ble_eq_true rfl, Nat.le_of_ble_eq_true rfl⟩ 0 rfl rfl [0, 1] [] rfl rfl (by decide) (by decide) (by decide) rfl rfl (Nat.le_of_ble_eq_true rfl) ⟨Nat.le_of_ble_eq_true rfl, Nat.le_of_ble_eq_true rfl⟩ (fun  u25 w24 => ?_)
      obtain ⟨z22, f23⟩ := u25
      refine r_ws [(h0, .inr (4, [.ref h1, .int z22])), (h1, .inl (gB g, 1500, .inl f23))] rfl ?_
      have p26 : 0 ≤ (Int32.toInt z22) := w24.2.1
      have p27 : (Int32.toInt z22) ≤ 1500 := w24.2.2
      have w28 : ((1500 ≤ (Int32.toInt z12) ∧ (Int32.toInt z22) = (Int32.toInt z12)) ∨ (¬ (1500 ≤ (Int32.toInt z12)) ∧ (Int32.toInt z22) = (Int32.toInt z12) + 1)) := w24.1
      rcases w28 with ⟨k29, k30⟩ | w28
      · skip
        refine r_aload_n 24 0 C dX5_addWord_24 rfl ?_
        refine r_iload_n 25 1 C dX5_addWord_25 rfl ?_
        refine r_callVv 26 C dX5_addWord_26 [] [(h0, .inr (4, [.ref h1, .int z22])), (h1, .inl (gB g, 1500, .inl f23))] [] (fun sz => c1_X5_add l g h0 h1 x0 z22 f23 ⟨p26, p27⟩ sz) gX5_addWord_X5_add rfl ⟨rfl, rfl⟩ 1 (by decide) ⟨Nat.le_of_ble_eq_true rfl, Nat.le_of_ble_eq_true rfl⟩ 0 rfl rfl [0, 1] [] rfl rfl (by decide) (by decide) (by decide) rfl rfl (Nat.le_of_ble_eq_true rfl) ⟨Nat.le_of_ble_eq_true rfl, Nat.le_of_ble_eq_true rfl⟩ (fun  u34 w33 => ?_)
        obtain ⟨z31, f32⟩ := u34
        refine r_ws [(h0, .inr (4, [.ref h1, .int z31])), (h1, .inl (gB g, 1500, .inl f32))] rfl ?_
        have p35 : 0 ≤ (Int32.toInt z31) := w33.2.1
        have p36 : (Int32.toInt z31) ≤ 1500 := w33.2.2
        have w37 : ((1500 ≤ (Int32.toInt z22) ∧ (Int32.toInt z31) = (Int32.toInt z22)) ∨ (¬ (1500 ≤ (Int32.toInt z22)) ∧ (Int32.toInt z31) = (Int32.toInt z22) + 1)) := w33.1
        rcases w37 with ⟨k38, k39⟩ | w37
        · skip
          exact r_vret 29 Rt dX5_addWord_29 (z31, f32) (show 0 ≤ (Int32.toInt z31) ∧ (Int32.toInt z31) ≤ 1500 ∧ (1496 < (Int32.toInt x1) ∨ (Int32.toInt z31) = (Int32.toInt x1) + 4) from ⟨(show _ ∧ _ from ⟨p35, p36⟩).1, (show _ ∧ _ from ⟨p35, p36⟩).2, (by ((repeat' apply And.intro) <;> first | trivial | rfl | assumption | omega | decide | exact Or.inl rfl | exact Or.inr (Or.inl rfl) | exact Or.inr (Or.inr rfl)))⟩) [0, 1] (by decide) rfl (Nat.le_of_ble_eq_true rfl) (Nat.le_of_ble_eq_true rfl)
        obtain ⟨k40, k41⟩ := w37
        exact absurd trivial (by omega)
      obtain ⟨k42, k43⟩ := w28
      exact absurd trivial (by omega)
    obtain ⟨k44, k45⟩ := w18
    exact absurd trivial (by omega)
  obtain ⟨k46, k47⟩ := w8
  refine r_aload_n 8 0 C dX5_addWord_8 rfl ?_
  refine r_iload_n 9 1 C dX5_addWord_9 rfl ?_
  refine r_bipush 10 16 C dX5_addWord_10 (by decide) ?_
  obtain ⟨z48, ez48⟩ : ∃ z_9, x0 >>> (16 &&& 31) = z_9 := ⟨_, rfl⟩
  have tz48 : (Int32.toInt z48) = (Int32.toInt x0) / 65536 := by rw [← ez48]; exact shr_16 x0
  refine r_ishr 12 z48 C dX5_addWord_12 ez48 ?_
  refine r_callVv 13 C dX5_addWord_13 [] [(h0, .inr (4, [.ref h1, .int z2])), (h1, .inl (gB g, 1500, .inl f3))] [] (fun sz => c1_X5_add l g h0 h1 z48 z2 f3 ⟨p6, p7⟩ sz) gX5_addWord_X5_add rfl ⟨rfl, rfl⟩ 1 (by decide) ⟨Nat.le_of_ble_eq_true rfl, Nat.le_of_ble_eq_true rfl⟩ 0 rfl rfl [0, 1] [] rfl rfl (by decide) (by decide) (by decide) rfl rfl (Nat.le_of_ble_eq_true rfl) ⟨Nat.le_of_ble_eq_true rfl, Nat.le_of_ble_eq_true rfl⟩ (fun  u52 w51 => ?_)
  obtain ⟨z49, f50⟩ := u52
  refine r_ws [(h0, .inr (4, [.ref h1, .int z49])), (h1, .inl (gB g, 1500, .inl f50))] rfl ?_
  have p53 : 0 ≤ (Int32.toInt z49) := w51.2.1
  have p54 : (Int32.toInt z49) ≤ 1500 := w51.2.2
  have w55 : ((1500 ≤ (Int32.toInt z2) ∧ (Int32.toInt z49) = (Int32.toInt z2)) ∨ (¬ (1500 ≤ (Int32.toInt z2)) ∧ (Int32.toInt z49) = (Int32.toInt z2) + 1)) := w51.1
  rcases w55 with ⟨k56, k57⟩ | w55
  · skip
    refine r_aload_n 16 0 C dX5_addWord_16 rfl ?_
    refine r_iload_n 17 1 C dX5_addWord_17 rfl ?_
    refine r_bipush 18 8 C dX5_addWord_18 (by decide) ?_
    obtain ⟨z58, ez58⟩ : ∃ z_9, x0 >>> (8 &&& 31) = z_9 := ⟨_, rfl⟩
    have tz58 : (Int32.toInt z58) = (Int32.toInt x0) / 256 := by rw [← ez58]; exact shr_8 x0
    refine r_ishr 20 z58 C dX5_addWord_20 ez58 ?_
    refine r_callVv 21 C dX5_addWord_21 [] [(h0, .inr (4, [.ref h1, .int z49])), (h1, .inl (gB g, 1500, .inl f50))] [] (fun sz => c1_X5_add l g h0 h1 z58 z49 f50 ⟨p53, p54⟩ sz) gX5_addWord_X5_add rfl ⟨rfl, rfl⟩ 1 (by decide) ⟨Nat.le_of_ble_eq_true rfl, Nat.le_of_ble_eq_true rfl⟩ 0 rfl rfl [0, 1] [] rfl rfl (by decide) (by decide) (by decide) rfl rfl (Nat.le_of_ble_eq_true rfl) ⟨Nat.le_of_ble_eq_true rfl, Nat.le_of_ble_eq_true rfl⟩ (fun  u62 w61 => ?_)
    obtain ⟨z59, f60⟩ := u62
    refine r_ws [(h0, .inr (4, [.ref h1, .int z59])), (h1, .inl (gB g, 1500, .inl f60))] rfl ?_
    have p63 : 0 ≤ (Int32.toInt z59) := w61.2.1
    have p64 : (Int32.toInt z59) ≤ 1500 := w61.2.2
    have w65 : ((1500 ≤ (Int32.toInt z49) ∧ (Int32.toInt z59) = (Int32.toInt z49)) ∨ (¬ (1500 ≤ (Int32.toInt z49)) ∧ (Int32.toInt z59) = (Int32.toInt z49) + 1)) := w61.1
    rcases w65 with ⟨k66, k67⟩ | w65
    · skip
      refine r_aload_n 24 0 C dX5_addWord_24 rfl ?_
      refine r_iload_n 25 1 C dX5_addWord_25 rfl ?_
      refine r_callVv 26 C dX5_addWord_26 [] [(h0, .inr (4, [.ref h1, .int z59])), (h1, .inl (gB g, 1500, .inl f60))] [] (fun sz => c1_X5_add l g h0 h1 x0 z59 f60 ⟨p63, p64⟩ sz) gX5_addWord_X5_add rfl ⟨rfl, rfl⟩ 1 (by decide) ⟨Nat.le_of_ble_eq_true rfl, Nat.le_of_ble_eq_true rfl⟩ 0 rfl rfl [0, 1] [] rfl rfl (by decide) (by decide) (by decide) rfl rfl (Nat.le_of_ble_eq_true rfl) ⟨Nat.le_of_ble_eq_true rfl, Nat.le_of_ble_eq_true rfl⟩ (fun  u71 w70 => ?_)
      obtain ⟨z68, f69⟩ := u71
      refine r_ws [(h0, .inr (4, [.ref h1, .int z68])), (h1, .inl (gB g, 1500, .inl f69))] rfl ?_
      have p72 : 0 ≤ (Int32.toInt z68) := w70.2.1
      have p73 : (Int32.toInt z68) ≤ 1500 := w70.2.2
      have w74 : ((1500 ≤ (Int32.toInt z59) ∧ (Int32.toInt z68) = (Int32.toInt z59)) ∨ (¬ (1500 ≤ (Int32.toInt z59)) ∧ (Int32.toInt z68) = (Int32.toInt z59) + 1)) := w70.1
      rcases w74 with ⟨k75, k76⟩ | w74
      · skip
        exact r_vret 29 Rt dX5_addWord_29 (z68, f69) (show 0 ≤ (Int32.toInt z68) ∧ (Int32.toInt z68) ≤ 1500 ∧ (1496 < (Int32.toInt x1) ∨ (Int32.toInt z68) = (Int32.toInt x1) + 4) from ⟨(show _ ∧ _ from ⟨p72, p73⟩).1, (show _ ∧ _ from ⟨p72, p73⟩).2, (by ((repeat' apply And.intro) <;> first | trivial | rfl | assumption | omega | decide | exact Or.inl rfl | exact Or.inr (Or.inl rfl) | exact Or.inr (Or.inr rfl)))⟩) [0, 1] (by decide) rfl (Nat.le_of_ble_eq_true rfl) (Nat.le_of_ble_eq_true rfl)
      obtain ⟨k77, k78⟩ := w74
      exact absurd trivial (by omega)
    obtain ⟨k79, k80⟩ := w65
    exact absurd trivial (by omega)
  obtain ⟨k81, k82⟩ := w55
  refine r_aload_n 16 0 C dX5_addWord_16 rfl ?_
  refine r_iload_n 17 1 C dX5_addWord_17 rfl ?_
  refine r_bipush 18 8 C dX5_addWord_18 (by decide) ?_
  obtain ⟨z83, ez83⟩ : ∃ z_9, x0 >>> (8 &&& 31) = z_9 := ⟨_, rfl⟩
  have tz83 : (Int32.toInt z83) = (Int32.toInt x0) / 256 := by rw [← ez83]; exact shr_8 x0
  refine r_ishr 20 z83 C dX5_addWord_20 ez83 ?_
  refine r_callVv 21 C dX5_addWord_21 [] [(h0, .inr (4, [.ref h1, .int z49])), (h1, .inl (gB g, 1500, .inl f50))] [] (fun sz => c1_X5_add l g h0 h1 z83 z49 f50 ⟨p53, p54⟩ sz) gX5_addWord_X5_add rfl ⟨rfl, rfl⟩ 1 (by decide) ⟨Nat.le_of_ble_eq_true rfl, Nat.le_of_ble_eq_true rfl⟩ 0 rfl rfl [0, 1] [] rfl rfl (by decide) (by decide) (by decide) rfl rfl (Nat.le_of_ble_eq_true rfl) ⟨Nat.le_of_ble_eq_true rfl, Nat.le_of_ble_eq_true rfl⟩ (fun  u87 w86 => ?_)
  obtain ⟨z84, f85⟩ := u87
  refine r_ws [(h0, .inr (4, [.ref h1, .int z84])), (h1, .inl (gB g, 1500, .inl f85))] rfl ?_
  have p88 : 0 ≤ (Int32.toInt z84) := w86.2.1
  have p89 : (Int32.toInt z84) ≤ 1500 := w86.2.2
  have w90 : ((1500 ≤ (Int32.toInt z49) ∧ (Int32.toInt z84) = (Int32.toInt z49)) ∨ (¬ (1500 ≤ (Int32.toInt z49)) ∧ (Int32.toInt z84) = (Int32.toInt z49) + 1)) := w86.1
  rcases w90 with ⟨k91, k92⟩ | w90
  · skip
    refine r_aload_n 24 0 C dX5_addWord_24 rfl ?_
    refine r_iload_n 25 1 C dX5_addWord_25 rfl ?_
    refine r_callVv 26 C dX5_addWord_26 [] [(h0, .inr (4, [.ref h1, .int z84])), (h1, .inl (gB g, 1500, .inl f85))] [] (fun sz => c1_X5_add l g h0 h1 x0 z84 f85 ⟨p88, p89⟩ sz) gX5_addWord_X5_add rfl ⟨rfl, rfl⟩ 1 (by decide) ⟨Nat.le_of_ble_eq_true rfl, Nat.le_of_ble_eq_true rfl⟩ 0 rfl rfl [0, 1] [] rfl rfl (by decide) (by decide) (by decide) rfl rfl (Nat.le_of_ble_eq_true rfl) ⟨Nat.le_of_ble_eq_true rfl, Nat.le_of_ble_eq_true rfl⟩ (fun  u96 w95 => ?_)
    obtain ⟨z93, f94⟩ := u96
    refine r_ws [(h0, .inr (4, [.ref h1, .int z93])), (h1, .inl (gB g, 1500, .inl f94))] rfl ?_
    have p97 : 0 ≤ (Int32.toInt z93) := w95.2.1
    have p98 : (Int32.toInt z93) ≤ 1500 := w95.2.2
    have w99 : ((1500 ≤ (Int32.toInt z84) ∧ (Int32.toInt z93) = (Int32.toInt z84)) ∨ (¬ (1500 ≤ (Int32.toInt z84)) ∧ (Int32.toInt z93) = (Int32.toInt z84) + 1)) := w95.1
    rcases w99 with ⟨k100, k101⟩ | w99
    · skip
      exact r_vret 29 Rt dX5_addWord_29 (z93, f94) (show 0 ≤ (Int32.toInt z93) ∧ (Int32.toInt z93) ≤ 1500 ∧ (1496 < (Int32.toInt x1) ∨ (Int32.toInt z93) = (Int32.toInt x1) + 4) from ⟨(show _ ∧ _ from ⟨p97, p98⟩).1, (show _ ∧ _ from ⟨p97, p98⟩).2, (by ((repeat' apply And.intro) <;> first | trivial | rfl | assumption | omega | decide | exact Or.inl rfl | exact Or.inr (Or.inl rfl) | exact Or.inr (Or.inr rfl)))⟩) [0, 1] (by decide) rfl (Nat.le_of_ble_eq_true rfl) (Nat.le_of_ble_eq_true rfl)
    obtain ⟨k102, k103⟩ := w99
    exact absurd trivial (by omega)
  obtain ⟨k104, k105⟩ := w90
  refine r_aload_n 24 0 C dX5_addWord_24 rfl ?_
  refine r_iload_n 25 1 C dX5_addWord_25 rfl ?_
  refine r_callVv 26 C dX5_addWord_26 [] [(h0, .inr (4, [.ref h1, .int z84])), (h1, .inl (gB g, 1500, .inl f85))] [] (fun sz => c1_X5_add l g h0 h1 x0 z84 f85 ⟨p88, p89⟩ sz) gX5_addWord_X5_add rfl ⟨rfl, rfl⟩ 1 (by decide) ⟨Nat.le_of_ble_eq_true rfl, Nat.le_of_ble_eq_true rfl⟩ 0 rfl rfl [0, 1] [] rfl rfl (by decide) (by decide) (by decide) rfl rfl (Nat.le_of_ble_eq_true rfl) ⟨Nat.le_of_ble_eq_true rfl, Nat.le_of_ble_eq_true rfl⟩ (fun  u109 w108 => ?_)
  obtain ⟨z106, f107⟩ := u109
  refine r_ws [(h0, .inr (4, [.ref h1, .int z106])), (h1, .inl (gB g, 1500, .inl f107))] rfl ?_
  have p110 : 0 ≤ (Int32.toInt z106) := w108.2.1
  have p111 : (Int32.toInt z106) ≤ 1500 := w108.2.2
  have w112 : ((1500 ≤ (Int32.toInt z84) ∧ (Int32.toInt z106) = (Int32.toInt z84)) ∨ (¬ (1500 ≤ (Int32.toInt z84)) ∧ (Int32.toInt z106) = (Int32.toInt z84) + 1)) := w108.1
  rcases w112 with ⟨k113, k114⟩ | w112
  · skip
    exact r_vret 29 Rt dX5_addWord_29 (z106, f107) (show 0 ≤ (Int32.toInt z106) ∧ (Int32.toInt z106) ≤ 1500 ∧ (1496 < (Int32.toInt x1) ∨ (Int32.toInt z106) = (Int32.toInt x1) + 4) from ⟨(show _ ∧ _ from ⟨p110, p111⟩).1, (show _ ∧ _ from ⟨p110, p111⟩).2, (by ((repeat' apply And.intro) <;> first | trivial | rfl | assumption | omega | decide | exact Or.inl rfl | exact Or.inr (Or.inl rfl) | exact Or.inr (Or.inr rfl)))⟩) [0, 1] (by decide) rfl (Nat.le_of_ble_eq_true rfl) (Nat.le_of_ble_eq_true rfl)
  obtain ⟨k115, k116⟩ := w112
  exact r_vret 29 Rt dX5_addWord_29 (z106, f107) (show 0 ≤ (Int32.toInt z106) ∧ (Int32.toInt z106) ≤ 1500 ∧ (1496 < (Int32.toInt x1) ∨ (Int32.toInt z106) = (Int32.toInt x1) + 4) from ⟨(show _ ∧ _ from ⟨p110, p111⟩).1, (show _ ∧ _ from ⟨p110, p111⟩).2, (by ((repeat' apply And.intro) <;> first | trivial | rfl | assumption | omega | decide | exact Or.inl rfl | exact Or.inr (Or.inl rfl) | exact Or.inr (Or.inr rfl)))⟩) [0, 1] (by decide) rfl (Nat.le_of_ble_eq_true rfl) (Nat.le_of_ble_eq_true rfl)
set_option maxHeartbeats 4000000 in
set_option maxRecDepth 100000 in
theorem c3_X11_feed (l : Launch) (g : GD) (h0 : Nat) (h1 : Nat) (h2 : Nat) (x0 : Int32) (x1 : Int32) (x2 : Int32) (x3 : Int32) (x4 : Int32) (h3 : Nat) (h4 : Nat) (h5 : Nat) (h6 : Nat) (h7 : Nat) (h8 : Nat) (h9 : Nat) (h10 : Nat) (vv0 : Value) (x5 : Int32) (fn0 : Nat → Int32) (i_x5 : (0 ≤ (Int32.toInt x5) ∧ (Int32.toInt x5) ≤ 1500)) (sz : Nat) : Met l yX11_feed wsX11_feed ({ frames := 2, cells := 0, slots := 0, locals := 42 }) (va_Pc [.ref h0, .int x0, .int x1, .int x2, .int x3, .int x4] (PW g [(h0, .inr (10, [.ref h1, .ref h3, .ref h4, .ref h5, .ref h6, .ref h7, .ref h8, .ref h9, .ref h10, vv0])), (h1, .inr (4, [.ref h2, .int x5])), (h2, .inl (gB g, 1500, .inl fn0))] sz)) (va_Qi (fun (r : Int32) (u : (Int32) × (Nat → Int32)) => -1 ≤ (Int32.toInt r) ∧ (Int32.toInt r) ≤ 1500 ∧ 0 ≤ (Int32.toInt (u.1)) ∧ (Int32.toInt (u.1)) ≤ 1500 ∧ ((1480 < (Int32.toInt x5) ∧ (Int32.toInt (u.1)) = (Int32.toInt x5) ∧ (Int32.toInt r) = -1) ∨ ((Int32.toInt x5) ≤ 1480 ∧ (Int32.toInt (u.1)) = (Int32.toInt x5) + 20 ∧ (Int32.toInt r) = (Int32.toInt (u.1))))) (BW g (va_A [(h0, .inr (10, [.ref h1, .ref h3, .ref h4, .ref h5, .ref h6, .ref h7, .ref h8, .ref h9, .ref h10, vv0])), (h1, .inr (4, [.ref h2, .int x5])), (h2, .inl (gB g, 1500, .inl fn0))] sz) (fun u : (Int32) × (Nat → Int32) => [(h0, .inr (10, [.ref h1, .ref h3, .ref h4, .ref h5, .ref h6, .ref h7, .ref h8, .ref h9, .ref h10, vv0])), (h1, .inr (4, [.ref h2, .int u.1])), (h2, .inl (gB g, 1500, .inl u.2))])) (va_A [(h0, .inr (10, [.ref h1, .ref h3, .ref h4, .ref h5, .ref h6, .ref h7, .ref h8, .ref h9, .ref h10, vv0])), (h1, .inr (4, [.ref h2, .int x5])), (h2, .inl (gB g, 1500, .inl fn0))] sz)) 0 0 (va_A [(h0, .inr (10, [.ref h1, .ref h3, .ref h4, .ref h5, .ref h6, .ref h7, .ref h8, .ref h9, .ref h10, vv0])), (h1, .inr (4, [.ref h2, .int x5])), (h2, .inl (gB g, 1500, .inl fn0))] sz) := by
  refine met_i RX11 (by decide) rfl rfl (Nat.le_of_ble_eq_true rfl) [(0, .ref h0), (1, .int x0), (2, .int x1), (3, .int x2), (4, .int x3), (5, .int x4)] rfl ?_
  intro p e s m args below meth c A Q C hnm Rt
  have hiX11 : ∀ w ∈ wsX110, w ∈ wsX11_feed := fun w h => List.mem_cons_of_mem _ (List.mem_append_left _ (List.mem_append_right _ (h)))
  refine r_aload_n 0 0 C dX11_feed_0 rfl ?_
  refine r_get 1 C dX11_feed_1 (k := 0) 0 rfl rfl hiX11 (by decide) rfl (mg 1 rfl) (Or.inl rfl) rfl ?_
  refine r_callVi 4 C dX11_feed_4 [] [(h1, .inr (4, [.ref h2, .int x5]))] [(h0, .inr (10, [.ref h1, .ref h3, .ref h4, .ref h5, .ref h6, .ref h7, .ref h8, .ref h9, .ref h10, vv0])), (h2, .inl (gB g, 1500, .inl fn0))] (fun sz => c0_X5_size l g h1 h2 x5 i_x5 sz) gX11_feed_X5_size rfl ⟨rfl, rfl⟩ 0 (by decide) ⟨Nat.le_of_ble_eq_true rfl, Nat.le_of_ble_eq_true rfl⟩ 1 rfl rfl [1] [0, 2] rfl rfl (by decide) (by decide) (by decide) rfl rfl (Nat.le_of_ble_eq_true rfl) ⟨Nat.le_of_ble_eq_true rfl, Nat.le_of_ble_eq_true rfl⟩ (fun r1 _ w2 => ?_)
  refine r_ws [(h0, .inr (10, [.ref h1, .ref h3, .ref h4, .ref h5, .ref h6, .ref h7, .ref h8, .ref h9, .ref h10, vv0])), (h2, .inl (gB g, 1500, .inl fn0)), (h1, .inr (4, [.ref h2, .int x5]))] rfl ?_
  have p3 : x5 = r1 := (w2).symm
  subst p3
  refine r_bipush 7 20 C dX11_feed_7 (by decide) ?_
  obtain ⟨z4, ez4⟩ : ∃ z_9, x5 + 20 = z_9 := ⟨_, rfl⟩
  have tz4 : (Int32.toInt z4) = (Int32.toInt x5) + 20 := by rw [← ez4]; exact fb_addIv (a := 0) (b := 1500) (c := 20) (d := 20) i_x5 ⟨by decide, by decide⟩ (by decide) (by decide)
  refine r_iadd 9 z4 C dX11_feed_9 ez4 ?_
  refine r_sipush 10 1500 C dX11_feed_10 (by decide) ?_
  refine r_icmp_le 13 18 C dX11_feed_13 (by decide) (fun c5 => ?_) (fun c5 => ?_)
  · skip
    have k6 : (Int32.toInt z4) ≤ 1500 := (fa_le z4 1500).mp c5
    refine r_aload_n 18 0 C dX11_feed_18 rfl ?_
    refine r_get 19 C dX11_feed_19 (k := 0) 0 rfl rfl hiX11 (by decide) rfl (mg 1 rfl) (Or.inl rfl) rfl ?_
    refine r_iload_n 22 1 C dX11_feed_22 rfl ?_
    refine r_callVv 23 C dX11_feed_23 [] [(h1, .inr (4, [.ref h2, .int x5])), (h2, .inl (gB g, 1500, .inl fn0))] [(h0, .inr (10, [.ref h1, .ref h3, .ref h4, .ref h5, .ref h6, .ref h7, .ref h8, .ref h9, .ref h10, vv0]))] (fun sz => c2_X5_addWord l g h1 h2 x0 x5 fn0 i_x5 sz) gX11_feed_X5_addWord rfl ⟨rfl, rfl⟩ 1 (by decide) ⟨Nat.le_of_ble_eq_true rfl, Nat.le_of_ble_eq_true rfl⟩ 2 rfl rfl [2, 1] [0] rfl rfl (by decide) (by decide) (by decide) rfl rfl (Nat.le_of_ble_eq_true rfl) ⟨Nat.le_of_ble_eq_true rfl, Nat.le_of_ble_eq_true rfl⟩ (fun  u10 w9 => ?_)
    obtain ⟨z7, f8⟩ := u10
    refine r_ws [(h0, .inr (10, [.ref h1, .ref h3, .ref h4, .ref h5, .ref h6, .ref h7, .ref h8, .ref h9, .ref h10, vv0])), (h1, .inr (4, [.ref h2, .int z7])), (h2, .inl (gB g, 1500, .inl f8))] rfl ?_
    have p11 : 0 ≤ (Int32.toInt z7) := w9.1
    have p12 : (Int32.toInt z7) ≤ 1500 := w9.2.1
    have p13 : (1496 < (Int32.toInt x5) ∨ (Int32.toInt z7) = (Int32.toInt x5) + 4) := w9.2.2
    refine r_aload_n 26 0 C dX11_feed_26 rfl ?_
    refine r_get 27 C dX11_feed_27 (k := 0) 0 rfl rfl hiX11 (by decide) rfl (mg 1 rfl) (Or.inl rfl) rfl ?_
    refine r_iload_n 30 2 C dX11_feed_30 rfl ?_
    refine r_callVv 31 C dX11_feed_31 [] [(h1, .inr (4, [.ref h2, .int z7])), (h2, .inl (gB g, 1500, .inl f8))] [(h0, .inr (10, [.ref h1, .ref h3, .ref h4, .ref h5, .ref h6, .ref h7, .ref h8, .ref h9, .ref h10, vv0]))] (fun sz => c2_X5_addWord l g h1 h2 x1 z7 f8 ⟨p11, p12⟩ sz) gX11_feed_X5_addWord rfl ⟨rfl, rfl⟩ 1 (by decide) ⟨Nat.le_of_ble_eq_true rfl, Nat.le_of_ble_eq_true rfl⟩ 1 rfl rfl [1, 2] [0] rfl rfl (by decide) (by decide) (by decide) rfl rfl (Nat.le_of_ble_eq_true rfl) ⟨Nat.le_of_ble_eq_true rfl, Nat.le_of_ble_eq_true rfl⟩ (fun  u17 w16 => ?_)
    obtain ⟨z14, f15⟩ := u17
    refine r_ws [(h0, .inr (10, [.ref h1, .ref h3, .ref h4, .ref h5, .ref h6, .ref h7, .ref h8, .ref h9, .ref h10, vv0])), (h1, .inr (4, [.ref h2, .int z14])), (h2, .inl (gB g, 1500, .inl f15))] rfl ?_
    have p18 : 0 ≤ (Int32.toInt z14) := w16.1
    have p19 : (Int32.toInt z14) ≤ 1500 := w16.2.1
    have p20 : (1496 < (Int32.toInt z7) ∨ (Int32.toInt z14) = (Int32.toInt z7) + 4) := w16.2.2
    refine r_aload_n 34 0 C dX11_feed_34 rfl ?_
    refine r_get 35 C dX11_feed_35 (k := 0) 0 rfl rfl hiX11 (by decide) rfl (mg 1 rfl) (Or.inl rfl) rfl ?_
    refine r_iload_n 38 3 C dX11_feed_38 rfl ?_
    refine r_callVv 39 C dX11_feed_39 [] [(h1, .inr (4, [.ref h2, .int z14])), (h2, .inl (gB g, 1500, .inl f15))] [(h0, .inr (10, [.ref h1, .ref h3, .ref h4, .ref h5, .ref h6, .ref h7, .ref h8, .ref h9, .ref h10, vv0]))] (fun sz => c2_X5_addWord l g h1 h2 x2 z14 f15 ⟨p18, p19⟩ sz) gX11_feed_X5_addWord rfl ⟨rfl, rfl⟩ 1 (by decide) ⟨Nat.le_of_ble_eq_true rfl, Nat.le_of_ble_eq_true rfl⟩ 1 rfl rfl [1, 2] [0] rfl rfl (by decide) (by decide) (by decide) rfl rfl (Nat.le_of_ble_eq_true rfl) ⟨Nat.le_of_ble_eq_true rfl, Nat.le_of_ble_eq_true rfl⟩ (fun  u24 w23 => ?_)
    obtain ⟨z21, f22⟩ := u24
    refine r_ws [(h0, .inr (10, [.ref h1, .ref h3, .ref h4, .ref h5, .ref h6, .ref h7, .ref h8, .ref h9, .ref h10, vv0])), (h1, .inr (4, [.ref h2, .int z21])), (h2, .inl (gB g, 1500, .inl f22))] rfl ?_
    have p25 : 0 ≤ (Int32.toInt z21) := w23.1
    have p26 : (Int32.toInt z21) ≤ 1500 := w23.2.1
    have p27 : (1496 < (Int32.toInt z14) ∨ (Int32.toInt z21) = (Int32.toInt z14) + 4) := w23.2.2
    refine r_aload_n 42 0 C dX11_feed_42 rfl ?_
    refine r_get 43 C dX11_feed_43 (k := 0) 0 rfl rfl hiX11 (by decide) rfl (mg 1 rfl) (Or.inl rfl) rfl ?_
    refine r_iload 46 4 C dX11_feed_46 rfl ?_
    refine r_callVv 48 C dX11_feed_48 [] [(h1, .inr (4, [.ref h2, .int z21])), (h2, .inl (gB g, 1500, .inl f22))] [(h0, .inr (10, [.ref h1, .ref h3, .ref h4, .ref h5, .ref h6, .ref h7, .ref h8, .ref h9, .ref h10, vv0]))] (fun sz => c2_X5_addWord l g h1 h2 x3 z21 f22 ⟨p25, p26⟩ sz) gX11_feed_X5_addWord rfl ⟨rfl, rfl⟩ 1 (by decide) ⟨Nat.le_of_ble_eq_true rfl, Nat.le_of_ble_eq_true rfl⟩ 1 rfl rfl [1, 2] [0] rfl rfl (by decide) (by decide) (by decide) rfl rfl (Nat.le_of_ble_eq_true rfl) ⟨Nat.le_of_ble_eq_true rfl, Nat.le_of_ble_eq_true rfl⟩ (fun  u31 w30 => ?_)
    obtain ⟨z28, f29⟩ := u31
    refine r_ws [(h0, .inr (10, [.ref h1, .ref h3, .ref h4, .ref h5, .ref h6, .ref h7, .ref h8, .ref h9, .ref h10, vv0])), (h1, .inr (4, [.ref h2, .int z28])), (h2, .inl (gB g, 1500, .inl f29))] rfl ?_
    have p32 : 0 ≤ (Int32.toInt z28) := w30.1
    have p33 : (Int32.toInt z28) ≤ 1500 := w30.2.1
    have p34 : (1496 < (Int32.toInt z21) ∨ (Int32.toInt z28) = (Int32.toInt z21) + 4) := w30.2.2
    refine r_aload_n 51 0 C dX11_feed_51 rfl ?_
    refine r_get 52 C dX11_feed_52 (k := 0) 0 rfl rfl hiX11 (by decide) rfl (mg 1 rfl) (Or.inl rfl) rfl ?_
    refine r_iload 55 5 C dX11_feed_55 rfl ?_
    refine r_callVv 57 C dX11_feed_57 [] [(h1, .inr (4, [.ref h2, .int z28])), (h2, .inl (gB g, 1500, .inl f29))] [(h0, .inr (10, [.ref h1, .ref h3, .ref h4, .ref h5, .ref h6, .ref h7, .ref h8, .ref h9, .ref h10, vv0]))] (fun sz => c2_X5_addWord l g h1 h2 x4 z28 f29 ⟨p32, p33⟩ sz) gX11_feed_X5_addWord rfl ⟨rfl, rfl⟩ 1 (by decide) ⟨Nat.le_of_ble_eq_true rfl, Nat.le_of_ble_eq_true rfl⟩ 1 rfl rfl [1, 2] [0] rfl rfl (by decide) (by decide) (by decide) rfl rfl (Nat.le_of_ble_eq_true rfl) ⟨Nat.le_of_ble_eq_true rfl, Nat.le_of_ble_eq_true rfl⟩ (fun  u38 w37 => ?_)
    obtain ⟨z35, f36⟩ := u38
    refine r_ws [(h0, .inr (10, [.ref h1, .ref h3, .ref h4, .ref h5, .ref h6, .ref h7, .ref h8, .ref h9, .ref h10, vv0])), (h1, .inr (4, [.ref h2, .int z35])), (h2, .inl (gB g, 1500, .inl f36))] rfl ?_
    have p39 : 0 ≤ (Int32.toInt z35) := w37.1
    have p40 : (Int32.toInt z35) ≤ 1500 := w37.2.1
    have p41 : (1496 < (Int32.toInt z28) ∨ (Int32.toInt z35) = (Int32.toInt z28) + 4) := w37.2.2
    refine r_aload_n 60 0 C dX11_feed_60 rfl ?_
    refine r_get 61 C dX11_feed_61 (k := 0) 0 rfl rfl hiX11 (by decide) rfl (mg 1 rfl) (Or.inl rfl) rfl ?_
    refine r_callVi 64 C dX11_feed_64 [] [(h1, .inr (4, [.ref h2, .int z35]))] [(h0, .inr (10, [.ref h1, .ref h3, .ref h4, .ref h5, .ref h6, .ref h7, .ref h8, .ref h9, .ref h10, vv0])), (h2, .inl (gB g, 1500, .inl f36))] (fun sz => c0_X5_size l g h1 h2 z35 ⟨p39, p40⟩ sz) gX11_feed_X5_size rfl ⟨rfl, rfl⟩ 0 (by decide) ⟨Nat.le_of_ble_eq_true rfl, Nat.le_of_ble_eq_true rfl⟩ 1 rfl rfl [1] [0, 2] rfl rfl (by decide) (by decide) (by decide) rfl rfl (Nat.le_of_ble_eq_true rfl) ⟨Nat.le_of_ble_eq_true rfl, Nat.le_of_ble_eq_true rfl⟩ (fun r42 _ w43 => ?_)
    refine r_ws [(h0, .inr (10, [.ref h1, .ref h3, .ref h4, .ref h5, .ref h6, .ref h7, .ref h8, .ref h9, .ref h10, vv0])), (h2, .inl (gB g, 1500, .inl f36)), (h1, .inr (4, [.ref h2, .int z35]))] rfl ?_
    have p44 : z35 = r42 := (w43).symm
    subst p44
    exact r_iret 67 Rt dX11_feed_67 (z35, f36) (show -1 ≤ (Int32.toInt z35) ∧ (Int32.toInt z35) ≤ 1500 ∧ 0 ≤ (Int32.toInt z35) ∧ (Int32.toInt z35) ≤ 1500 ∧ ((1480 < (Int32.toInt x5) ∧ (Int32.toInt z35) = (Int32.toInt x5) ∧ (Int32.toInt z35) = -1) ∨ ((Int32.toInt x5) ≤ 1480 ∧ (Int32.toInt z35) = (Int32.toInt x5) + 20 ∧ (Int32.toInt z35) = (Int32.toInt z35))) from ⟨(iv_wide (c := (-1)) (d := 1500) ⟨p39, p40⟩ (by decide) (by decide)).1, (show _ ∧ _ from ⟨p39, p40⟩).2, (show _ ∧ _ from ⟨p39, p40⟩).1, (show _ ∧ _ from ⟨p39, p40⟩).2, (by ((repeat' apply And.intro) <;> first | trivial | rfl | assumption | omega | decide | exact Or.inl rfl | exact Or.inr (Or.inl rfl) | exact Or.inr (Or.inr rfl)))⟩) [0, 2, 1] (by decide) rfl (Nat.le_of_ble_eq_true rfl) (Nat.le_of_ble_eq_true rfl)
  · skip
    have k45 : ¬ ((Int32.toInt z4) ≤ 1500) := fun h_9 => c5 ((fa_le z4 1500).mpr h_9)
    refine r_iconst 16 (-1) C dX11_feed_16 (by decide) ?_
    exact r_iret 17 Rt dX11_feed_17 (x5, fn0) (show -1 ≤ (Int32.toInt (-1)) ∧ (Int32.toInt (-1)) ≤ 1500 ∧ 0 ≤ (Int32.toInt x5) ∧ (Int32.toInt x5) ≤ 1500 ∧ ((1480 < (Int32.toInt x5) ∧ (Int32.toInt x5) = (Int32.toInt x5) ∧ (-1) = -1) ∨ ((Int32.toInt x5) ≤ 1480 ∧ (Int32.toInt x5) = (Int32.toInt x5) + 20 ∧ (-1) = (Int32.toInt x5))) from ⟨(by ((repeat' apply And.intro) <;> first | trivial | rfl | assumption | omega | decide | exact Or.inl rfl | exact Or.inr (Or.inl rfl) | exact Or.inr (Or.inr rfl))), (by ((repeat' apply And.intro) <;> first | trivial | rfl | assumption | omega | decide | exact Or.inl rfl | exact Or.inr (Or.inl rfl) | exact Or.inr (Or.inr rfl))), i_x5.1, i_x5.2, (by ((repeat' apply And.intro) <;> first | trivial | rfl | assumption | omega | decide | exact Or.inl rfl | exact Or.inr (Or.inl rfl) | exact Or.inr (Or.inr rfl)))⟩) [0, 2, 1] (by decide) rfl (Nat.le_of_ble_eq_true rfl) (Nat.le_of_ble_eq_true rfl)
set_option maxHeartbeats 4000000 in
set_option maxRecDepth 100000 in
theorem c4_X5_cut (l : Launch) (g : GD) (h0 : Nat) (x0 : Int32) (h1 : Nat) (x1 : Int32) (i_x1 : (0 ≤ (Int32.toInt x1) ∧ (Int32.toInt x1) ≤ 1500)) (sz : Nat) : Met l yX5_cut wsX5_cut ({ frames := 0, cells := 0, slots := 0, locals := 0 }) (va_Pc [.ref h0, .int x0] (PW g [(h0, .inr (4, [.ref h1, .int x1]))] sz)) (va_Qv (fun (u : (Int32)) => (((Int32.toInt x0) < 0 ∧ (Int32.toInt u) = (Int32.toInt x1)) ∨ (¬ ((Int32.toInt x0) < 0) ∧ (Int32.toInt x1) < (Int32.toInt x0) ∧ (Int32.toInt u) = (Int32.toInt x1)) ∨ (¬ ((Int32.toInt x0) < 0) ∧ ¬ ((Int32.toInt x1) < (Int32.toInt x0)) ∧ (Int32.toInt u) = (Int32.toInt x0))) ∧ 0 ≤ (Int32.toInt u) ∧ (Int32.toInt u) ≤ 1500) (BW g (va_A [(h0, .inr (4, [.ref h1, .int x1]))] sz) (fun u : (Int32) => [(h0, .inr (4, [.ref h1, .int u]))])) (va_A [(h0, .inr (4, [.ref h1, .int x1]))] sz)) 0 0 (va_A [(h0, .inr (4, [.ref h1, .int x1]))] sz) := by
  refine met_v RX5 (by decide) rfl rfl (Nat.le_of_ble_eq_true rfl) [(0, .ref h0), (1, .int x0)] rfl ?_
  intro p e s m args below meth c A Q C hnm Rt
  have gx0 := fb_rng x0
  have hiX5 : ∀ w ∈ wsX50, w ∈ wsX5_cut := fun w h => List.mem_cons_of_mem _ (List.mem_append_right _ (h))
  refine r_iload_n 0 1 C dX5_cut_0 rfl ?_
  refine r_if_lt 1 17 C dX5_cut_1 (by decide) (fun c1 => ?_) (fun c1 => ?_)
  · skip
    have k2 : (Int32.toInt x0) < 0 := (fa_lt x0 0).mp c1
    exact r_vret 17 Rt dX5_cut_17 x1 (show (((Int32.toInt x0) < 0 ∧ (Int32.toInt x1) = (Int32.toInt x1)) ∨ (¬ ((Int32.toInt x0) < 0) ∧ (Int32.toInt x1) < (Int32.toInt x0) ∧ (Int32.toInt x1) = (Int32.toInt x1)) ∨ (¬ ((Int32.toInt x0) < 0) ∧ ¬ ((Int32.toInt x1) < (Int32.toInt x0)) ∧ (Int32.toInt x1) = (Int32.toInt x0))) ∧ 0 ≤ (Int32.toInt x1) ∧ (Int32.toInt x1) ≤ 1500 from by refine ⟨Or.inl ?_, ?_, ?_⟩ <;> ((repeat' apply And.intro) <;> first | trivial | rfl | assumption | omega | decide | exact Or.inl rfl | exact Or.inr (Or.inl rfl) | exact Or.inr (Or.inr rfl))) [0] (by decide) rfl (Nat.le_of_ble_eq_true rfl) (Nat.le_of_ble_eq_true rfl)
  · skip
    have k3 : ¬ ((Int32.toInt x0) < 0) := fun h_9 => c1 ((fa_lt x0 0).mpr h_9)
    refine r_iload_n 4 1 C dX5_cut_4 rfl ?_
    refine r_aload_n 5 0 C dX5_cut_5 rfl ?_
    refine r_get 6 C dX5_cut_6 (k := 1) 0 rfl rfl hiX5 (by decide) rfl (mg 1 rfl) (Or.inl rfl) rfl ?_
    refine r_icmp_gt 9 17 C dX5_cut_9 (by decide) (fun c4 => ?_) (fun c4 => ?_)
    · skip
      have k5 : (Int32.toInt x1) < (Int32.toInt x0) := (fa_lt x1 x0).mp c4
      exact r_vret 17 Rt dX5_cut_17 x1 (show (((Int32.toInt x0) < 0 ∧ (Int32.toInt x1) = (Int32.toInt x1)) ∨ (¬ ((Int32.toInt x0) < 0) ∧ (Int32.toInt x1) < (Int32.toInt x0) ∧ (Int32.toInt x1) = (Int32.toInt x1)) ∨ (¬ ((Int32.toInt x0) < 0) ∧ ¬ ((Int32.toInt x1) < (Int32.toInt x0)) ∧ (Int32.toInt x1) = (Int32.toInt x0))) ∧ 0 ≤ (Int32.toInt x1) ∧ (Int32.toInt x1) ≤ 1500 from by refine ⟨Or.inr (Or.inl ?_), ?_, ?_⟩ <;> ((repeat' apply And.intro) <;> first | trivial | rfl | assumption | omega | decide | exact Or.inl rfl | exact Or.inr (Or.inl rfl) | exact Or.inr (Or.inr rfl))) [0] (by decide) rfl (Nat.le_of_ble_eq_true rfl) (Nat.le_of_ble_eq_true rfl)
    · skip
      have k6 : ¬ ((Int32.toInt x1) < (Int32.toInt x0)) := fun h_9 => c4 ((fa_lt x1 x0).mpr h_9)
      refine r_aload_n 12 0 C dX5_cut_12 rfl ?_
      refine r_iload_n 13 1 C dX5_cut_13 rfl ?_
      refine r_put 14 C dX5_cut_14 (k := 1) 0 rfl rfl hiX5 tyX5 tyX5_ok nmX5 (by decide) rfl (mg 1 rfl) (Or.inl rfl) rfl rfl rfl rfl (Nat.le_of_ble_eq_true rfl) [(h0, .inr (4, [.ref h1, .int x0]))] rfl ?_
      exact r_vret 17 Rt dX5_cut_17 x0 (show (((Int32.toInt x0) < 0 ∧ (Int32.toInt x0) = (Int32.toInt x1)) ∨ (¬ ((Int32.toInt x0) < 0) ∧ (Int32.toInt x1) < (Int32.toInt x0) ∧ (Int32.toInt x0) = (Int32.toInt x1)) ∨ (¬ ((Int32.toInt x0) < 0) ∧ ¬ ((Int32.toInt x1) < (Int32.toInt x0)) ∧ (Int32.toInt x0) = (Int32.toInt x0))) ∧ 0 ≤ (Int32.toInt x0) ∧ (Int32.toInt x0) ≤ 1500 from by refine ⟨Or.inr (Or.inr (?_)), ?_, ?_⟩ <;> ((repeat' apply And.intro) <;> first | trivial | rfl | assumption | omega | decide | exact Or.inl rfl | exact Or.inr (Or.inl rfl) | exact Or.inr (Or.inr rfl))) [0] (by decide) rfl (Nat.le_of_ble_eq_true rfl) (Nat.le_of_ble_eq_true rfl)
set_option maxHeartbeats 4000000 in
set_option maxRecDepth 100000 in
theorem c5_X11_end (l : Launch) (g : GD) (h0 : Nat) (h1 : Nat) (x0 : Int32) (h2 : Nat) (h3 : Nat) (h4 : Nat) (h5 : Nat) (h6 : Nat) (h7 : Nat) (h8 : Nat) (h9 : Nat) (vv0 : Value) (h10 : Nat) (x1 : Int32) (i_x1 : (0 ≤ (Int32.toInt x1) ∧ (Int32.toInt x1) ≤ 1500)) (sz : Nat) : Met l yX11_end wsX11_end ({ frames := 1, cells := 0, slots := 0, locals := 21 }) (va_Pc [.ref h0, .int x0] (PW g [(h0, .inr (10, [.ref h1, .ref h2, .ref h3, .ref h4, .ref h5, .ref h6, .ref h7, .ref h8, .ref h9, vv0])), (h1, .inr (4, [.ref h10, .int x1]))] sz)) (va_Qi (fun (r : Int32) (u : (Int32)) => -1 ≤ (Int32.toInt r) ∧ (Int32.toInt r) ≤ 1500 ∧ 0 ≤ (Int32.toInt u) ∧ (Int32.toInt u) ≤ 1500 ∧ ((((Int32.toInt x0) < 0 ∨ (Int32.toInt x1) < (Int32.toInt x0)) ∧ (Int32.toInt u) = (Int32.toInt x1) ∧ (Int32.toInt r) = -1) ∨ (0 ≤ (Int32.toInt x0) ∧ (Int32.toInt x0) ≤ (Int32.toInt x1) ∧ (Int32.toInt u) = (Int32.toInt x0) ∧ (Int32.toInt r) = (Int32.toInt x0)))) (BW g (va_A [(h0, .inr (10, [.ref h1, .ref h2, .ref h3, .ref h4, .ref h5, .ref h6, .ref h7, .ref h8, .ref h9, vv0])), (h1, .inr (4, [.ref h10, .int x1]))] sz) (fun u : (Int32) => [(h0, .inr (10, [.ref h1, .ref h2, .ref h3, .ref h4, .ref h5, .ref h6, .ref h7, .ref h8, .ref h9, vv0])), (h1, .inr (4, [.ref h10, .int u]))])) (va_A [(h0, .inr (10, [.ref h1, .ref h2, .ref h3, .ref h4, .ref h5, .ref h6, .ref h7, .ref h8, .ref h9, vv0])), (h1, .inr (4, [.ref h10, .int x1]))] sz)) 0 0 (va_A [(h0, .inr (10, [.ref h1, .ref h2, .ref h3, .ref h4, .ref h5, .ref h6, .ref h7, .ref h8, .ref h9, vv0])), (h1, .inr (4, [.ref h10, .int x1]))] sz) := by
  refine met_i RX11 (by decide) rfl rfl (Nat.le_of_ble_eq_true rfl) [(0, .ref h0), (1, .int x0)] rfl ?_
  intro p e s m args below meth c A Q C hnm Rt
  have gx0 := fb_rng x0
  have hiX11 : ∀ w ∈ wsX110, w ∈ wsX11_end := fun w h => List.mem_cons_of_mem _ (List.mem_append_left _ (List.mem_append_right _ (h)))
  refine r_iload_n 0 1 C dX11_end_0 rfl ?_
  refine r_if_lt 1 15 C dX11_end_1 (by decide) (fun c1 => ?_) (fun c1 => ?_)
  · skip
    have k2 : (Int32.toInt x0) < 0 := (fa_lt x0 0).mp c1
    refine r_iconst 15 (-1) C dX11_end_15 (by decide) ?_
    exact r_iret 16 Rt dX11_end_16 x1 (show -1 ≤ (Int32.toInt (-1)) ∧ (Int32.toInt (-1)) ≤ 1500 ∧ 0 ≤ (Int32.toInt x1) ∧ (Int32.toInt x1) ≤ 1500 ∧ ((((Int32.toInt x0) < 0 ∨ (Int32.toInt x1) < (Int32.toInt x0)) ∧ (Int32.toInt x1) = (Int32.toInt x1) ∧ (-1) = -1) ∨ (0 ≤ (Int32.toInt x0) ∧ (Int32.toInt x0) ≤ (Int32.toInt x1) ∧ (Int32.toInt x1) = (Int32.toInt x0) ∧ (-1) = (Int32.toInt x0))) from ⟨(by ((repeat' apply And.intro) <;> first | trivial | rfl | assumption | omega | decide | exact Or.inl rfl | exact Or.inr (Or.inl rfl) | exact Or.inr (Or.inr rfl))), (by ((repeat' apply And.intro) <;> first | trivial | rfl | assumption | omega | decide | exact Or.inl rfl | exact Or.inr (Or.inl rfl) | exact Or.inr (Or.inr rfl))), i_x1.1, i_x1.2, (by ((repeat' apply And.intro) <;> first | trivial | rfl | assumption | omega | decide | exact Or.inl rfl | exact Or.inr (Or.inl rfl) | exact Or.inr (Or.inr rfl)))⟩) [0, 1] (by decide) rfl (Nat.le_of_ble_eq_true rfl) (Nat.le_of_ble_eq_true rfl)
  · skip
    have k3 : ¬ ((Int32.toInt x0) < 0) := fun h_9 => c1 ((fa_lt x0 0).mpr h_9)
    refine r_iload_n 4 1 C dX11_end_4 rfl ?_
    refine r_aload_n 5 0 C dX11_end_5 rfl ?_
    refine r_get 6 C dX11_end_6 (k := 0) 0 rfl rfl hiX11 (by decide) rfl (mg 1 rfl) (Or.inl rfl) rfl ?_
    refine r_callVi 9 C dX11_end_9 [.int x0] [(h1, .inr (4, [.ref h10, .int x1]))] [(h0, .inr (10, [.ref h1, .ref h2, .ref h3, .ref h4, .ref h5, .ref h6, .ref h7, .ref h8, .ref h9, vv0]))] (fun sz => c0_X5_size l g h1 h10 x1 i_x1 sz) gX11_end_X5_size rfl ⟨rfl, rfl⟩ 0 (by decide) ⟨Nat.le_of_ble_eq_true rfl, Nat.le_of_ble_eq_true rfl⟩ 1 rfl rfl [1] [0] rfl rfl (by decide) (by decide) (by decide) rfl rfl (Nat.le_of_ble_eq_true rfl) ⟨Nat.le_of_ble_eq_true rfl, Nat.le_of_ble_eq_true rfl⟩ (fun r4 _ w5 => ?_)
    refine r_ws [(h0, .inr (10, [.ref h1, .ref h2, .ref h3, .ref h4, .ref h5, .ref h6, .ref h7, .ref h8, .ref h9, vv0])), (h1, .inr (4, [.ref h10, .int x1]))] rfl ?_
    have p6 : x1 = r4 := (w5).symm
    subst p6
    refine r_icmp_le 12 17 C dX11_end_12 (by decide) (fun c7 => ?_) (fun c7 => ?_)
    · skip
      have k8 : (Int32.toInt x0) ≤ (Int32.toInt x1) := (fa_le x0 x1).mp c7
      refine r_aload_n 17 0 C dX11_end_17 rfl ?_
      refine r_get 18 C dX11_end_18 (k := 0) 0 rfl rfl hiX11 (by decide) rfl (mg 1 rfl) (Or.inl rfl) rfl ?_
      refine r_iload_n 21 1 C dX11_end_21 rfl ?_
      refine r_callVv 22 C dX11_end_22 [] [(h1, .inr (4, [.ref h10, .int x1]))] [(h0, .inr (10, [.ref h1, .ref h2, .ref h3, .ref h4, .ref h5, .ref h6, .ref h7, .ref h8, .ref h9, vv0]))] (fun sz => c4_X5_cut l g h1 x0 h10 x1 i_x1 sz) gX11_end_X5_cut rfl ⟨rfl, rfl⟩ 1 (by decide) ⟨Nat.le_of_ble_eq_true rfl, Nat.le_of_ble_eq_true rfl⟩ 1 rfl rfl [1] [0] rfl rfl (by decide) (by decide) (by decide) rfl rfl (Nat.le_of_ble_eq_true rfl) ⟨Nat.le_of_ble_eq_true rfl, Nat.le_of_ble_eq_true rfl⟩ (fun  z9 w10 => ?_)
      refine r_ws [(h0, .inr (10, [.ref h1, .ref h2, .ref h3, .ref h4, .ref h5, .ref h6, .ref h7, .ref h8, .ref h9, vv0])), (h1, .inr (4, [.ref h10, .int z9]))] rfl ?_
      have p11 : 0 ≤ (Int32.toInt z9) := w10.2.1
      have p12 : (Int32.toInt z9) ≤ 1500 := w10.2.2
      have w13 : (((Int32.toInt x0) < 0 ∧ (Int32.toInt z9) = (Int32.toInt x1)) ∨ (¬ ((Int32.toInt x0) < 0) ∧ (Int32.toInt x1) < (Int32.toInt x0) ∧ (Int32.toInt z9) = (Int32.toInt x1)) ∨ (¬ ((Int32.toInt x0) < 0) ∧ ¬ ((Int32.toInt x1) < (Int32.toInt x0)) ∧ (Int32.toInt z9) = (Int32.toInt x0))) := w10.1
      rcases w13 with ⟨k14, k15⟩ | w13
      · skip
        exact absurd trivial (by omega)
      rcases w13 with ⟨k16, k17, k18⟩ | w13
      · skip
        refine r_iload_n 25 1 C dX11_end_25 rfl ?_
        exact r_iret 26 Rt dX11_end_26 z9 (show -1 ≤ (Int32.toInt x0) ∧ (Int32.toInt x0) ≤ 1500 ∧ 0 ≤ (Int32.toInt z9) ∧ (Int32.toInt z9) ≤ 1500 ∧ ((((Int32.toInt x0) < 0 ∨ (Int32.toInt x1) < (Int32.toInt x0)) ∧ (Int32.toInt z9) = (Int32.toInt x1) ∧ (Int32.toInt x0) = -1) ∨ (0 ≤ (Int32.toInt x0) ∧ (Int32.toInt x0) ≤ (Int32.toInt x1) ∧ (Int32.toInt z9) = (Int32.toInt x0) ∧ (Int32.toInt x0) = (Int32.toInt x0))) from ⟨(by ((repeat' apply And.intro) <;> first | trivial | rfl | assumption | omega | decide | exact Or.inl rfl | exact Or.inr (Or.inl rfl) | exact Or.inr (Or.inr rfl))), (by ((repeat' apply And.intro) <;> first | trivial | rfl | assumption | omega | decide | exact Or.inl rfl | exact Or.inr (Or.inl rfl) | exact Or.inr (Or.inr rfl))), (show _ ∧ _ from ⟨p11, p12⟩).1, (show _ ∧ _ from ⟨p11, p12⟩).2, (by ((repeat' apply And.intro) <;> first | trivial | rfl | assumption | omega | decide | exact Or.inl rfl | exact Or.inr (Or.inl rfl) | exact Or.inr (Or.inr rfl)))⟩) [0, 1] (by decide) rfl (Nat.le_of_ble_eq_true rfl) (Nat.le_of_ble_eq_true rfl)
      obtain ⟨k19, k20, k21⟩ := w13
      refine r_iload_n 25 1 C dX11_end_25 rfl ?_
      exact r_iret 26 Rt dX11_end_26 z9 (show -1 ≤ (Int32.toInt x0) ∧ (Int32.toInt x0) ≤ 1500 ∧ 0 ≤ (Int32.toInt z9) ∧ (Int32.toInt z9) ≤ 1500 ∧ ((((Int32.toInt x0) < 0 ∨ (Int32.toInt x1) < (Int32.toInt x0)) ∧ (Int32.toInt z9) = (Int32.toInt x1) ∧ (Int32.toInt x0) = -1) ∨ (0 ≤ (Int32.toInt x0) ∧ (Int32.toInt x0) ≤ (Int32.toInt x1) ∧ (Int32.toInt z9) = (Int32.toInt x0) ∧ (Int32.toInt x0) = (Int32.toInt x0))) from ⟨(by ((repeat' apply And.intro) <;> first | trivial | rfl | assumption | omega | decide | exact Or.inl rfl | exact Or.inr (Or.inl rfl) | exact Or.inr (Or.inr rfl))), (by ((repeat' apply And.intro) <;> first | trivial | rfl | assumption | omega | decide | exact Or.inl rfl | exact Or.inr (Or.inl rfl) | exact Or.inr (Or.inr rfl))), (show _ ∧ _ from ⟨p11, p12⟩).1, (show _ ∧ _ from ⟨p11, p12⟩).2, (by ((repeat' apply And.intro) <;> first | trivial | rfl | assumption | omega | decide | exact Or.inl rfl | exact Or.inr (Or.inl rfl) | exact Or.inr (Or.inr rfl)))⟩) [0, 1] (by decide) rfl (Nat.le_of_ble_eq_true rfl) (Nat.le_of_ble_eq_true rfl)
    · skip
      have k22 : ¬ ((Int32.toInt x0) ≤ (Int32.toInt x1)) := fun h_9 => c7 ((fa_le x0 x1).mpr h_9)
      refine r_iconst 15 (-1) C dX11_end_15 (by decide) ?_
      exact r_iret 16 Rt dX11_end_16 x1 (show -1 ≤ (Int32.toInt (-1)) ∧ (Int32.toInt (-1)) ≤ 1500 ∧ 0 ≤ (Int32.toInt x1) ∧ (Int32.toInt x1) ≤ 1500 ∧ ((((Int32.toInt x0) < 0 ∨ (Int32.toInt x1) < (Int32.toInt x0)) ∧ (Int32.toInt x1) = (Int32.toInt x1) ∧ (-1) = -1) ∨ (0 ≤ (Int32.toInt x0) ∧ (Int32.toInt x0) ≤ (Int32.toInt x1) ∧ (Int32.toInt x1) = (Int32.toInt x0) ∧ (-1) = (Int32.toInt x0))) from ⟨(by ((repeat' apply And.intro) <;> first | trivial | rfl | assumption | omega | decide | exact Or.inl rfl | exact Or.inr (Or.inl rfl) | exact Or.inr (Or.inr rfl))), (by ((repeat' apply And.intro) <;> first | trivial | rfl | assumption | omega | decide | exact Or.inl rfl | exact Or.inr (Or.inl rfl) | exact Or.inr (Or.inr rfl))), i_x1.1, i_x1.2, (by ((repeat' apply And.intro) <;> first | trivial | rfl | assumption | omega | decide | exact Or.inl rfl | exact Or.inr (Or.inl rfl) | exact Or.inr (Or.inr rfl)))⟩) [0, 1] (by decide) rfl (Nat.le_of_ble_eq_true rfl) (Nat.le_of_ble_eq_true rfl)
set_option maxHeartbeats 4000000 in
set_option maxRecDepth 100000 in
theorem c6_X8_size (l : Launch) (g : GD) (h0 : Nat) (h1 : Nat) (h2 : Nat) (h3 : Nat) (x0 : Int32) (x1 : Int32) (x2 : Int32) (sz : Nat) : Met l yX8_size wsX8_size ({ frames := 0, cells := 0, slots := 0, locals := 0 }) (va_Pc [.ref h0] (PW g [(h0, .inr (7, [.ref h1, .ref h2, .ref h3, .int x0, .int x1, .int x2]))] sz)) (va_Qi (fun (r : Int32) (_ : Unit) => r = x0) (BW g (va_A [(h0, .inr (7, [.ref h1, .ref h2, .ref h3, .int x0, .int x1, .int x2]))] sz) (fun _ : Unit => [(h0, .inr (7, [.ref h1, .ref h2, .ref h3, .int x0, .int x1, .int x2]))])) (va_A [(h0, .inr (7, [.ref h1, .ref h2, .ref h3, .int x0, .int x1, .int x2]))] sz)) 0 0 (va_A [(h0, .inr (7, [.ref h1, .ref h2, .ref h3, .int x0, .int x1, .int x2]))] sz) := by
  refine met_i RX8 (by decide) rfl rfl (Nat.le_of_ble_eq_true rfl) [(0, .ref h0)] rfl ?_
  intro p e s m args below meth c A Q C hnm Rt
  have hiX8 : ∀ w ∈ wsX80, w ∈ wsX8_size := fun w h => List.mem_cons_of_mem _ (List.mem_append_right _ (h))
  refine r_aload_n 0 0 C dX8_size_0 rfl ?_
  refine r_get 1 C dX8_size_1 (k := 3) 0 rfl rfl hiX8 (by decide) rfl (mg 1 rfl) (Or.inl rfl) rfl ?_
  exact r_iret 4 Rt dX8_size_4 () (show x0 = x0 from (by ((repeat' apply And.intro) <;> first | trivial | rfl | assumption | omega | decide | exact Or.inl rfl | exact Or.inr (Or.inl rfl) | exact Or.inr (Or.inr rfl)))) [0] (by decide) rfl (Nat.le_of_ble_eq_true rfl) (Nat.le_of_ble_eq_true rfl)
set_option maxHeartbeats 4000000 in
set_option maxRecDepth 100000 in
theorem c7_X11_font (l : Launch) (g : GD) (h0 : Nat) (h1 : Nat) (h2 : Nat) (h3 : Nat) (h4 : Nat) (x0 : Int32) (h5 : Nat) (h6 : Nat) (h7 : Nat) (h8 : Nat) (h9 : Nat) (h10 : Nat) (h11 : Nat) (h12 : Nat) (vv0 : Value) (h13 : Nat) (x1 : Int32) (x2 : Int32) (x3 : Int32) (h14 : Nat) (h15 : Nat) (x4 : Int32) (x5 : Int32) (x6 : Int32) (h16 : Nat) (h17 : Nat) (x7 : Int32) (x8 : Int32) (x9 : Int32) (h18 : Nat) (h19 : Nat) (x10 : Int32) (x11 : Int32) (x12 : Int32) (sz : Nat) : Met l yX11_font wsX11_font ({ frames := 1, cells := 0, slots := 0, locals := 20 }) (va_Pc [.ref h0, .int x0] (PW g [(h0, .inr (10, [.ref h5, .ref h6, .ref h1, .ref h7, .ref h8, .ref h9, .ref h10, .ref h11, .ref h12, vv0])), (h1, .inr (3, [.ref h13, .ref h2, .ref h3, .ref h4, .int x1, .int x2, .int x3])), (h2, .inr (7, [.ref h13, .ref h14, .ref h15, .int x4, .int x5, .int x6])), (h3, .inr (7, [.ref h13, .ref h16, .ref h17, .int x7, .int x8, .int x9])), (h4, .inr (7, [.ref h13, .ref h18, .ref h19, .int x10, .int x11, .int x12]))] sz)) (va_Qi (fun (r : Int32) (_ : Unit) => True) (BW g (va_A [(h0, .inr (10, [.ref h5, .ref h6, .ref h1, .ref h7, .ref h8, .ref h9, .ref h10, .ref h11, .ref h12, vv0])), (h1, .inr (3, [.ref h13, .ref h2, .ref h3, .ref h4, .int x1, .int x2, .int x3])), (h2, .inr (7, [.ref h13, .ref h14, .ref h15, .int x4, .int x5, .int x6])), (h3, .inr (7, [.ref h13, .ref h16, .ref h17, .int x7, .int x8, .int x9])), (h4, .inr (7, [.ref h13, .ref h18, .ref h19, .int x10, .int x11, .int x12]))] sz) (fun _ : Unit => [(h0, .inr (10, [.ref h5, .ref h6, .ref h1, .ref h7, .ref h8, .ref h9, .ref h10, .ref h11, .ref h12, vv0])), (h1, .inr (3, [.ref h13, .ref h2, .ref h3, .ref h4, .int x1, .int x2, .int x3])), (h2, .inr (7, [.ref h13, .ref h14, .ref h15, .int x4, .int x5, .int x6])), (h3, .inr (7, [.ref h13, .ref h16, .ref h17, .int x7, .int x8, .int x9])), (h4, .inr (7, [.ref h13, .ref h18, .ref h19, .int x10, .int x11, .int x12]))])) (va_A [(h0, .inr (10, [.ref h5, .ref h6, .ref h1, .ref h7, .ref h8, .ref h9, .ref h10, .ref h11, .ref h12, vv0])), (h1, .inr (3, [.ref h13, .ref h2, .ref h3, .ref h4, .int x1, .int x2, .int x3])), (h2, .inr (7, [.ref h13, .ref h14, .ref h15, .int x4, .int x5, .int x6])), (h3, .inr (7, [.ref h13, .ref h16, .ref h17, .int x7, .int x8, .int x9])), (h4, .inr (7, [.ref h13, .ref h18, .ref h19, .int x10, .int x11, .int x12]))] sz)) 0 0 (va_A [(h0, .inr (10, [.ref h5, .ref h6, .ref h1, .ref h7, .ref h8, .ref h9, .ref h10, .ref h11, .ref h12, vv0])), (h1, .inr (3, [.ref h13, .ref h2, .ref h3, .ref h4, .int x1, .int x2, .int x3])), (h2, .inr (7, [.ref h13, .ref h14, .ref h15, .int x4, .int x5, .int x6])), (h3, .inr (7, [.ref h13, .ref h16, .ref h17, .int x7, .int x8, .int x9])), (h4, .inr (7, [.ref h13, .ref h18, .ref h19, .int x10, .int x11, .int x12]))] sz) := by
  refine met_i RX11 (by decide) rfl rfl (Nat.le_of_ble_eq_true rfl) [(0, .ref h0), (1, .int x0)] rfl ?_
  intro p e s m args below meth c A Q C hnm Rt
  have gx0 := fb_rng x0
  have gx1 := fb_rng x1
  have hiX11 : ∀ w ∈ wsX110, w ∈ wsX11_font := fun w h => List.mem_cons_of_mem _ (List.mem_append_left _ (List.mem_append_left _ (List.mem_append_right _ (h))))
  have hiX3 : ∀ w ∈ wsX30, w ∈ wsX11_font := fun w h => List.mem_cons_of_mem _ (List.mem_append_left _ (List.mem_append_right _ (h)))
  refine r_aload_n 0 0 C dX11_font_0 rfl ?_
  refine r_get 1 C dX11_font_1 (k := 2) 0 rfl rfl hiX11 (by decide) rfl (mg 1 rfl) (Or.inl rfl) rfl ?_
  refine r_getN 4 C dX11_font_4 (k := 4) 1 rfl rfl hiX3 (by decide) rfl (mg 5 rfl) rfl rfl ?_
  refine r_iconst 7 (-1) C dX11_font_7 (by decide) ?_
  refine r_icmp_ne 8 13 C dX11_font_8 (by decide) (fun c1 => ?_) (fun c1 => ?_)
  · skip
    have k2 : ¬ ((Int32.toInt x1) = (-1)) := fun h_9 => c1 ((fa_eq x1 (-1)).mpr h_9)
    refine r_iload_n 13 1 C dX11_font_13 rfl ?_
    by_cases c3 : x0 = 0
    · skip
      have k4 : (Int32.toInt x0) = 0 := (fa_eq x0 0).mp c3
      refine r_tableIn 14 52 0 C dX11_font_14 c3 (by decide) (by decide) rfl (by decide) ?_
      refine r_aload_n 52 0 C dX11_font_52 rfl ?_
      refine r_get 53 C dX11_font_53 (k := 2) 0 rfl rfl hiX11 (by decide) rfl (mg 1 rfl) (Or.inl rfl) rfl ?_
      refine r_getN 56 C dX11_font_56 (k := 4) 1 rfl rfl hiX3 (by decide) rfl (mg 5 rfl) rfl rfl ?_
      exact r_iret 59 Rt dX11_font_59 () trivial [0, 1, 2, 3, 4] (by decide) rfl (Nat.le_of_ble_eq_true rfl) (Nat.le_of_ble_eq_true rfl)
    · skip
      have k5 : ¬ ((Int32.toInt x0) = 0) := fun h_9 => c3 ((fa_eq x0 0).mpr h_9)
      by_cases c6 : x0 = 1
      · skip
        have k7 : (Int32.toInt x0) = 1 := (fa_eq x0 1).mp c6
        refine r_tableIn 14 60 1 C dX11_font_14 c6 (by decide) (by decide) rfl (by decide) ?_
        refine r_aload_n 60 0 C dX11_font_60 rfl ?_
        refine r_get 61 C dX11_font_61 (k := 2) 0 rfl rfl hiX11 (by decide) rfl (mg 1 rfl) (Or.inl rfl) rfl ?_
        refine r_getN 64 C dX11_font_64 (k := 1) 1 rfl rfl hiX3 (by decide) rfl (mg 6 rfl) rfl rfl ?_
        refine r_callVi 67 C dX11_font_67 [] [(h2, .inr (7, [.ref h13, .ref h14, .ref h15, .int x4, .int x5, .int x6]))] [(h0, .inr (10, [.ref h5, .ref h6, .ref h1, .ref h7, .ref h8, .ref h9, .ref h10, .ref h11, .ref h12, vv0])), (h1, .inr (3, [.ref h13, .ref h2, .ref h3, .ref h4, .int x1, .int x2, .int x3])), (h3, .inr (7, [.ref h13, .ref h16, .ref h17, .int x7, .int x8, .int x9])), (h4, .inr (7, [.ref h13, .ref h18, .ref h19, .int x10, .int x11, .int x12]))] (fun sz => c6_X8_size l g h2 h13 h14 h15 x4 x5 x6  sz) gX11_font_X8_size rfl ⟨rfl, rfl⟩ 0 (by decide) ⟨Nat.le_of_ble_eq_true rfl, Nat.le_of_ble_eq_true rfl⟩ 2 rfl rfl [2] [0, 1, 3, 4] rfl rfl (by decide) (by decide) (by decide) rfl rfl (Nat.le_of_ble_eq_true rfl) ⟨Nat.le_of_ble_eq_true rfl, Nat.le_of_ble_eq_true rfl⟩ (fun r8 _ w9 => ?_)
        refine r_ws [(h0, .inr (10, [.ref h5, .ref h6, .ref h1, .ref h7, .ref h8, .ref h9, .ref h10, .ref h11, .ref h12, vv0])), (h1, .inr (3, [.ref h13, .ref h2, .ref h3, .ref h4, .int x1, .int x2, .int x3])), (h3, .inr (7, [.ref h13, .ref h16, .ref h17, .int x7, .int x8, .int x9])), (h4, .inr (7, [.ref h13, .ref h18, .ref h19, .int x10, .int x11, .int x12])), (h2, .inr (7, [.ref h13, .ref h14, .ref h15, .int x4, .int x5, .int x6]))] rfl ?_
        have p10 : x4 = r8 := (w9).symm
        subst p10
        exact r_iret 70 Rt dX11_font_70 () trivial [0, 1, 4, 2, 3] (by decide) rfl (Nat.le_of_ble_eq_true rfl) (Nat.le_of_ble_eq_true rfl)
      · skip
        have k11 : ¬ ((Int32.toInt x0) = 1) := fun h_9 => c6 ((fa_eq x0 1).mpr h_9)
        by_cases c12 : x0 = 2
        · skip
          have k13 : (Int32.toInt x0) = 2 := (fa_eq x0 2).mp c12
          refine r_tableIn 14 71 2 C dX11_font_14 c12 (by decide) (by decide) rfl (by decide) ?_
          refine r_aload_n 71 0 C dX11_font_71 rfl ?_
          refine r_get 72 C dX11_font_72 (k := 2) 0 rfl rfl hiX11 (by decide) rfl (mg 1 rfl) (Or.inl rfl) rfl ?_
          refine r_getN 75 C dX11_font_75 (k := 2) 1 rfl rfl hiX3 (by decide) rfl (mg 0 rfl) rfl rfl ?_
          refine r_callVi 78 C dX11_font_78 [] [(h3, .inr (7, [.ref h13, .ref h16, .ref h17, .int x7, .int x8, .int x9]))] [(h0, .inr (10, [.ref h5, .ref h6, .ref h1, .ref h7, .ref h8, .ref h9, .ref h10, .ref h11, .ref h12, vv0])), (h1, .inr (3, [.ref h13, .ref h2, .ref h3, .ref h4, .int x1, .int x2, .int x3])), (h2, .inr (7, [.ref h13, .ref h14, .ref h15, .int x4, .int x5, .int x6])), (h4, .inr (7, [.ref h13, .ref h18, .ref h19, .int x10, .int x11, .int x12]))] (fun sz => c6_X8_size l g h3 h13 h16 h17 x7 x8 x9  sz) gX11_font_X8_size rfl ⟨rfl, rfl⟩ 0 (by decide) ⟨Nat.le_of_ble_eq_true rfl, Nat.le_of_ble_eq_true rfl⟩ 3 rfl rfl [3] [0, 1, 2, 4] rfl rfl (by decide) (by decide) (by decide) rfl rfl (Nat.le_of_ble_eq_true rfl) ⟨Nat.le_of_ble_eq_true rfl, Nat.le_of_ble_eq_true rfl⟩ (fun r14 _ w15 => ?_)
          refine r_ws [(h0, .inr (10, [.ref h5, .ref h6, .ref h1, .ref h7, .ref h8, .ref h9, .ref h10, .ref h11, .ref h12, vv0])), (h1, .inr (3, [.ref h13, .ref h2, .ref h3, .ref h4, .int x1, .int x2, .int x3])), (h2, .inr (7, [.ref h13, .ref h14, .ref h15, .int x4, .int x5, .int x6])), (h4, .inr (7, [.ref h13, .ref h18, .ref h19, .int x10, .int x11, .int x12])), (h3, .inr (7, [.ref h13, .ref h16, .ref h17, .int x7, .int x8, .int x9]))] rfl ?_
          have p16 : x7 = r14 := (w15).symm
          subst p16
          exact r_iret 81 Rt dX11_font_81 () trivial [0, 1, 2, 4, 3] (by decide) rfl (Nat.le_of_ble_eq_true rfl) (Nat.le_of_ble_eq_true rfl)
        · skip
          have k17 : ¬ ((Int32.toInt x0) = 2) := fun h_9 => c12 ((fa_eq x0 2).mpr h_9)
          by_cases c18 : x0 = 3
          · skip
            have k19 : (Int32.toInt x0) = 3 := (fa_eq x0 3).mp c18
            refine r_tableIn 14 82 3 C dX11_font_14 c18 (by decide) (by decide) rfl (by decide) ?_
            refine r_aload_n 82 0 C dX11_font_82 rfl ?_
            refine r_get 83 C dX11_font_83 (k := 2) 0 rfl rfl hiX11 (by decide) rfl (mg 1 rfl) (Or.inl rfl) rfl ?_
            refine r_getN 86 C dX11_font_86 (k := 3) 1 rfl rfl hiX3 (by decide) rfl (mg 1 rfl) rfl rfl ?_
            refine r_callVi 89 C dX11_font_89 [] [(h4, .inr (7, [.ref h13, .ref h18, .ref h19, .int x10, .int x11, .int x12]))] [(h0, .inr (10, [.ref h5, .ref h6, .ref h1, .ref h7, .ref h8, .ref h9, .ref h10, .ref h11, .ref h12, vv0])), (h1, .inr (3, [.ref h13, .ref h2, .ref h3, .ref h4, .int x1, .int x2, .int x3])), (h2, .inr (7, [.ref h13, .ref h14, .ref h15, .int x4, .int x5, .int x6])), (h3, .inr (7, [.ref h13, .ref h16, .ref h17, .int x7, .int x8, .int x9]))] (fun sz => c6_X8_size l g h4 h13 h18 h19 x10 x11 x12  sz) gX11_font_X8_size rfl ⟨rfl, rfl⟩ 0 (by decide) ⟨Nat.le_of_ble_eq_true rfl, Nat.le_of_ble_eq_true rfl⟩ 4 rfl rfl [4] [0, 1, 2, 3] rfl rfl (by decide) (by decide) (by decide) rfl rfl (Nat.le_of_ble_eq_true rfl) ⟨Nat.le_of_ble_eq_true rfl, Nat.le_of_ble_eq_true rfl⟩ (fun r20 _ w21 => ?_)
            refine r_ws [(h0, .inr (10, [.ref h5, .ref h6, .ref h1, .ref h7, .ref h8, .ref h9, .ref h10, .ref h11, .ref h12, vv0])), (h1, .inr (3, [.ref h13, .ref h2, .ref h3, .ref h4, .int x1, .int x2, .int x3])), (h2, .inr (7, [.ref h13, .ref h14, .ref h15, .int x4, .int x5, .int x6])), (h3, .inr (7, [.ref h13, .ref h16, .ref h17, .int x7, .int x8, .int x9])), (h4, .inr (7, [.ref h13, .ref h18, .ref h19, .int x10, .int x11, .int x12]))] rfl ?_
            have p22 : x10 = r20 := (w21).symm
            subst p22
            exact r_iret 92 Rt dX11_font_92 () trivial [0, 1, 2, 3, 4] (by decide) rfl (Nat.le_of_ble_eq_true rfl) (Nat.le_of_ble_eq_true rfl)
          · skip
            have k23 : ¬ ((Int32.toInt x0) = 3) := fun h_9 => c18 ((fa_eq x0 3).mpr h_9)
            by_cases c24 : x0 = 4
            · skip
              have k25 : (Int32.toInt x0) = 4 := (fa_eq x0 4).mp c24
              refine r_tableIn 14 93 4 C dX11_font_14 c24 (by decide) (by decide) rfl (by decide) ?_
              refine r_aload_n 93 0 C dX11_font_93 rfl ?_
              refine r_get 94 C dX11_font_94 (k := 2) 0 rfl rfl hiX11 (by decide) rfl (mg 1 rfl) (Or.inl rfl) rfl ?_
              refine r_getN 97 C dX11_font_97 (k := 5) 1 rfl rfl hiX3 (by decide) rfl (mg 2 rfl) rfl rfl ?_
              exact r_iret 100 Rt dX11_font_100 () trivial [0, 1, 2, 3, 4] (by decide) rfl (Nat.le_of_ble_eq_true rfl) (Nat.le_of_ble_eq_true rfl)
            · skip
              have k26 : ¬ ((Int32.toInt x0) = 4) := fun h_9 => c24 ((fa_eq x0 4).mpr h_9)
              by_cases c27 : x0 = 5
              · skip
                have k28 : (Int32.toInt x0) = 5 := (fa_eq x0 5).mp c27
                refine r_tableIn 14 101 5 C dX11_font_14 c27 (by decide) (by decide) rfl (by decide) ?_
                refine r_aload_n 101 0 C dX11_font_101 rfl ?_
                refine r_get 102 C dX11_font_102 (k := 2) 0 rfl rfl hiX11 (by decide) rfl (mg 1 rfl) (Or.inl rfl) rfl ?_
                refine r_getN 105 C dX11_font_105 (k := 6) 1 rfl rfl hiX3 (by decide) rfl (mg 3 rfl) rfl rfl ?_
                exact r_iret 108 Rt dX11_font_108 () trivial [0, 1, 2, 3, 4] (by decide) rfl (Nat.le_of_ble_eq_true rfl) (Nat.le_of_ble_eq_true rfl)
              · skip
                have k29 : ¬ ((Int32.toInt x0) = 5) := fun h_9 => c27 ((fa_eq x0 5).mpr h_9)
                refine r_tableOut 14 109 C dX11_font_14 (by omega) (by decide) ?_
                refine r_iconst 109 (-1) C dX11_font_109 (by decide) ?_
                exact r_iret 110 Rt dX11_font_110 () trivial [0, 1, 2, 3, 4] (by decide) rfl (Nat.le_of_ble_eq_true rfl) (Nat.le_of_ble_eq_true rfl)
  · skip
    have k30 : (Int32.toInt x1) = (-1) := (fa_eq x1 (-1)).mp c1
    refine r_iconst 11 (-1) C dX11_font_11 (by decide) ?_
    exact r_iret 12 Rt dX11_font_12 () trivial [0, 1, 2, 3, 4] (by decide) rfl (Nat.le_of_ble_eq_true rfl) (Nat.le_of_ble_eq_true rfl)
set_option maxHeartbeats 4000000 in
set_option maxRecDepth 100000 in
theorem c8_X6_kindOf (l : Launch) (g : GD) (h0 : Nat) (h1 : Nat) (x0 : Int32) (h2 : Nat) (x1 : Int32) (x2 : Int32) (y0 : Int64) (y1 : Int64) (x3 : Int32) (fn0 : Nat → Int32) (i_x1 : (0 ≤ (Int32.toInt x1) ∧ (Int32.toInt x1) ≤ 400)) (i_x2 : (0 ≤ (Int32.toInt x2) ∧ (Int32.toInt x2) ≤ 400)) (i_x3 : (0 ≤ (Int32.toInt x3) ∧ (Int32.toInt x3) ≤ 1)) (sz : Nat) : Met l yX6_kindOf wsX6_kindOf ({ frames := 0, cells := 0, slots := 0, locals := 0 }) (va_Pc [.ref h0, .int x0] (PW g [(h0, .inr (5, [.ref h1, .ref h2, .int x1, .int x2, .long y0, .long y1, .int x3])), (h1, .inl (gB g, 400, .inl fn0))] sz)) (va_Qi (fun (r : Int32) (_ : Unit) => (((Int32.toInt x0) < 0 ∧ r = (-1)) ∨ (¬ ((Int32.toInt x0) < 0) ∧ (Int32.toInt x1) ≤ (Int32.toInt x0) ∧ r = (-1)) ∨ (¬ ((Int32.toInt x0) < 0) ∧ ¬ ((Int32.toInt x1) ≤ (Int32.toInt x0))))) (BW g (va_A [(h0, .inr (5, [.ref h1, .ref h2, .int x1, .int x2, .long y0, .long y1, .int x3])), (h1, .inl (gB g, 400, .inl fn0))] sz) (fun _ : Unit => [(h0, .inr (5, [.ref h1, .ref h2, .int x1, .int x2, .long y0, .long y1, .int x3])), (h1, .inl (gB g, 400, .inl fn0))])) (va_A [(h0, .inr (5, [.ref h1, .ref h2, .int x1, .int x2, .long y0, .long y1, .int x3])), (h1, .inl (gB g, 400, .inl fn0))] sz)) 0 0 (va_A [(h0, .inr (5, [.ref h1, .ref h2, .int x1, .int x2, .long y0, .long y1, .int x3])), (h1, .inl (gB g, 400, .inl fn0))] sz) := by
  refine met_i RX6 (by decide) rfl rfl (Nat.le_of_ble_eq_true rfl) [(0, .ref h0), (1, .int x0)] rfl ?_
  intro p e s m args below meth c A Q C hnm Rt
  have gx0 := fb_rng x0
  have hiX6 : ∀ w ∈ wsX60, w ∈ wsX6_kindOf := fun w h => List.mem_cons_of_mem _ (List.mem_append_right _ (h))
  refine r_iload_n 0 1 C dX6_kindOf_0 rfl ?_
  refine r_if_lt 1 21 C dX6_kindOf_1 (by decide) (fun c1 => ?_) (fun c1 => ?_)
  · skip
    have k2 : (Int32.toInt x0) < 0 := (fa_lt x0 0).mp c1
    refine r_iconst 21 (-1) C dX6_kindOf_21 (by decide) ?_
    exact r_iret 22 Rt dX6_kindOf_22 () (show (((Int32.toInt x0) < 0 ∧ (-1) = (-1)) ∨ (¬ ((Int32.toInt x0) < 0) ∧ (Int32.toInt x1) ≤ (Int32.toInt x0) ∧ (-1) = (-1)) ∨ (¬ ((Int32.toInt x0) < 0) ∧ ¬ ((Int32.toInt x1) ≤ (Int32.toInt x0)))) from by refine Or.inl ?_ <;> ((repeat' apply And.intro) <;> first | trivial | rfl | assumption | omega | decide | exact Or.inl rfl | exact Or.inr (Or.inl rfl) | exact Or.inr (Or.inr rfl))) [0, 1] (by decide) rfl (Nat.le_of_ble_eq_true rfl) (Nat.le_of_ble_eq_true rfl)
  · skip
    have k3 : ¬ ((Int32.toInt x0) < 0) := fun h_9 => c1 ((fa_lt x0 0).mpr h_9)
    refine r_iload_n 4 1 C dX6_kindOf_4 rfl ?_
    refine r_aload_n 5 0 C dX6_kindOf_5 rfl ?_
    refine r_get 6 C dX6_kindOf_6 (k := 2) 0 rfl rfl hiX6 (by decide) rfl (mg 1 rfl) (Or.inl rfl) rfl ?_
    refine r_icmp_ge 9 21 C dX6_kindOf_9 (by decide) (fun c4 => ?_) (fun c4 => ?_)
    · skip
      have k5 : (Int32.toInt x1) ≤ (Int32.toInt x0) := (fa_le x1 x0).mp c4
      refine r_iconst 21 (-1) C dX6_kindOf_21 (by decide) ?_
      exact r_iret 22 Rt dX6_kindOf_22 () (show (((Int32.toInt x0) < 0 ∧ (-1) = (-1)) ∨ (¬ ((Int32.toInt x0) < 0) ∧ (Int32.toInt x1) ≤ (Int32.toInt x0) ∧ (-1) = (-1)) ∨ (¬ ((Int32.toInt x0) < 0) ∧ ¬ ((Int32.toInt x1) ≤ (Int32.toInt x0)))) from by refine Or.inr (Or.inl ?_) <;> ((repeat' apply And.intro) <;> first | trivial | rfl | assumption | omega | decide | exact Or.inl rfl | exact Or.inr (Or.inl rfl) | exact Or.inr (Or.inr rfl))) [0, 1] (by decide) rfl (Nat.le_of_ble_eq_true rfl) (Nat.le_of_ble_eq_true rfl)
    · skip
      have k6 : ¬ ((Int32.toInt x1) ≤ (Int32.toInt x0)) := fun h_9 => c4 ((fa_le x1 x0).mpr h_9)
      refine r_aload_n 12 0 C dX6_kindOf_12 rfl ?_
      refine r_get 13 C dX6_kindOf_13 (k := 0) 0 rfl rfl hiX6 (by decide) rfl (mg 2 rfl) (Or.inl rfl) rfl ?_
      refine r_iload_n 16 1 C dX6_kindOf_16 rfl ?_
      obtain ⟨z7, ez7⟩ : ∃ z_9, fn0 (Int32.toNatClampNeg x0) = z_9 := ⟨_, rfl⟩
      refine r_bald 17 z7 C dX6_kindOf_17 1 rfl (vinI (by omega) (by omega)) ez7 ?_
      have gz7 := fb_rng z7
      refine r_goto 18 22 C dX6_kindOf_18 (by decide) ?_
      exact r_iret 22 Rt dX6_kindOf_22 () (show (((Int32.toInt x0) < 0 ∧ z7 = (-1)) ∨ (¬ ((Int32.toInt x0) < 0) ∧ (Int32.toInt x1) ≤ (Int32.toInt x0) ∧ z7 = (-1)) ∨ (¬ ((Int32.toInt x0) < 0) ∧ ¬ ((Int32.toInt x1) ≤ (Int32.toInt x0)))) from by refine Or.inr (Or.inr (?_)) <;> ((repeat' apply And.intro) <;> first | trivial | rfl | assumption | omega | decide | exact Or.inl rfl | exact Or.inr (Or.inl rfl) | exact Or.inr (Or.inr rfl))) [0, 1] (by decide) rfl (Nat.le_of_ble_eq_true rfl) (Nat.le_of_ble_eq_true rfl)
set_option maxHeartbeats 4000000 in
set_option maxRecDepth 100000 in
theorem c9_X11_part (l : Launch) (g : GD) (h0 : Nat) (h1 : Nat) (h2 : Nat) (x0 : Int32) (h3 : Nat) (h4 : Nat) (h5 : Nat) (h6 : Nat) (h7 : Nat) (h8 : Nat) (h9 : Nat) (h10 : Nat) (vv0 : Value) (h11 : Nat) (x1 : Int32) (x2 : Int32) (y0 : Int64) (y1 : Int64) (x3 : Int32) (fn0 : Nat → Int32) (i_x1 : (0 ≤ (Int32.toInt x1) ∧ (Int32.toInt x1) ≤ 400)) (i_x2 : (0 ≤ (Int32.toInt x2) ∧ (Int32.toInt x2) ≤ 400)) (i_x3 : (0 ≤ (Int32.toInt x3) ∧ (Int32.toInt x3) ≤ 1)) (sz : Nat) : Met l yX11_part wsX11_part ({ frames := 1, cells := 0, slots := 0, locals := 21 }) (va_Pc [.ref h0, .int x0] (PW g [(h0, .inr (10, [.ref h3, .ref h4, .ref h5, .ref h6, .ref h7, .ref h8, .ref h1, .ref h9, .ref h10, vv0])), (h1, .inr (5, [.ref h2, .ref h11, .int x1, .int x2, .long y0, .long y1, .int x3])), (h2, .inl (gB g, 400, .inl fn0))] sz)) (va_Qi (fun (r : Int32) (_ : Unit) => True) (BW g (va_A [(h0, .inr (10, [.ref h3, .ref h4, .ref h5, .ref h6, .ref h7, .ref h8, .ref h1, .ref h9, .ref h10, vv0])), (h1, .inr (5, [.ref h2, .ref h11, .int x1, .int x2, .long y0, .long y1, .int x3])), (h2, .inl (gB g, 400, .inl fn0))] sz) (fun _ : Unit => [(h0, .inr (10, [.ref h3, .ref h4, .ref h5, .ref h6, .ref h7, .ref h8, .ref h1, .ref h9, .ref h10, vv0])), (h1, .inr (5, [.ref h2, .ref h11, .int x1, .int x2, .long y0, .long y1, .int x3])), (h2, .inl (gB g, 400, .inl fn0))])) (va_A [(h0, .inr (10, [.ref h3, .ref h4, .ref h5, .ref h6, .ref h7, .ref h8, .ref h1, .ref h9, .ref h10, vv0])), (h1, .inr (5, [.ref h2, .ref h11, .int x1, .int x2, .long y0, .long y1, .int x3])), (h2, .inl (gB g, 400, .inl fn0))] sz)) 0 0 (va_A [(h0, .inr (10, [.ref h3, .ref h4, .ref h5, .ref h6, .ref h7, .ref h8, .ref h1, .ref h9, .ref h10, vv0])), (h1, .inr (5, [.ref h2, .ref h11, .int x1, .int x2, .long y0, .long y1, .int x3])), (h2, .inl (gB g, 400, .inl fn0))] sz) := by
  refine met_i RX11 (by decide) rfl rfl (Nat.le_of_ble_eq_true rfl) [(0, .ref h0), (1, .int x0)] rfl ?_
  intro p e s m args below meth c A Q C hnm Rt
  have gx0 := fb_rng x0
  have hiX11 : ∀ w ∈ wsX110, w ∈ wsX11_part := fun w h => List.mem_cons_of_mem _ (List.mem_append_left _ (List.mem_append_right _ (h)))
  refine r_aload_n 0 0 C dX11_part_0 rfl ?_
  refine r_get 1 C dX11_part_1 (k := 6) 0 rfl rfl hiX11 (by decide) rfl (mg 1 rfl) (Or.inl rfl) rfl ?_
  refine r_iload_n 4 1 C dX11_part_4 rfl ?_
  refine r_callVi 5 C dX11_part_5 [] [(h1, .inr (5, [.ref h2, .ref h11, .int x1, .int x2, .long y0, .long y1, .int x3])), (h2, .inl (gB g, 400, .inl fn0))] [(h0, .inr (10, [.ref h3, .ref h4, .ref h5, .ref h6, .ref h7, .ref h8, .ref h1, .ref h9, .ref h10, vv0]))] (fun sz => c8_X6_kindOf l g h1 h2 x0 h11 x1 x2 y0 y1 x3 fn0 i_x1 i_x2 i_x3 sz) gX11_part_X6_kindOf rfl ⟨rfl, rfl⟩ 1 (by decide) ⟨Nat.le_of_ble_eq_true rfl, Nat.le_of_ble_eq_true rfl⟩ 1 rfl rfl [1, 2] [0] rfl rfl (by decide) (by decide) (by decide) rfl rfl (Nat.le_of_ble_eq_true rfl) ⟨Nat.le_of_ble_eq_true rfl, Nat.le_of_ble_eq_true rfl⟩ (fun r1 _ w2 => ?_)
  refine r_ws [(h0, .inr (10, [.ref h3, .ref h4, .ref h5, .ref h6, .ref h7, .ref h8, .ref h1, .ref h9, .ref h10, vv0])), (h1, .inr (5, [.ref h2, .ref h11, .int x1, .int x2, .long y0, .long y1, .int x3])), (h2, .inl (gB g, 400, .inl fn0))] rfl ?_
  have w3 : (((Int32.toInt x0) < 0 ∧ r1 = (-1)) ∨ (¬ ((Int32.toInt x0) < 0) ∧ (Int32.toInt x1) ≤ (Int32.toInt x0) ∧ r1 = (-1)) ∨ (¬ ((Int32.toInt x0) < 0) ∧ ¬ ((Int32.toInt x1) ≤ (Int32.toInt x0)))) := w2
  rcases w3 with ⟨k4, k5⟩ | w3
  · skip
    have k5 := k5.symm
    subst k5
    exact r_iret 8 Rt dX11_part_8 () trivial [0, 1, 2] (by decide) rfl (Nat.le_of_ble_eq_true rfl) (Nat.le_of_ble_eq_true rfl)
  rcases w3 with ⟨k6, k7, k8⟩ | w3
  · skip
    have k8 := k8.symm
    subst k8
    exact r_iret 8 Rt dX11_part_8 () trivial [0, 1, 2] (by decide) rfl (Nat.le_of_ble_eq_true rfl) (Nat.le_of_ble_eq_true rfl)
  obtain ⟨k9, k10⟩ := w3
  exact r_iret 8 Rt dX11_part_8 () trivial [0, 1, 2] (by decide) rfl (Nat.le_of_ble_eq_true rfl) (Nat.le_of_ble_eq_true rfl)
set_option maxHeartbeats 4000000 in
set_option maxRecDepth 100000 in
theorem c10_X6_pointOf (l : Launch) (g : GD) (h0 : Nat) (h1 : Nat) (h2 : Nat) (x0 : Int32) (x1 : Int32) (x2 : Int32) (x3 : Int32) (x4 : Int32) (y0 : Int64) (y1 : Int64) (x5 : Int32) (fn0 : Nat → Int32) (fm0 : Nat → Int64) (i_x3 : (0 ≤ (Int32.toInt x3) ∧ (Int32.toInt x3) ≤ 400)) (i_x4 : (0 ≤ (Int32.toInt x4) ∧ (Int32.toInt x4) ≤ 400)) (i_x5 : (0 ≤ (Int32.toInt x5) ∧ (Int32.toInt x5) ≤ 1)) (sz : Nat) : Met l yX6_pointOf wsX6_pointOf ({ frames := 1, cells := 0, slots := 0, locals := 21 }) (va_Pc [.ref h0, .int x0, .int x1, .int x2] (PW g [(h0, .inr (5, [.ref h1, .ref h2, .int x3, .int x4, .long y0, .long y1, .int x5])), (h1, .inl (gB g, 400, .inl fn0)), (h2, .inl (gJ g, 2400, .inr (.inl fm0)))] sz)) (va_Ql (fun (r : Int64) (_ : Unit) => True) (BW g (va_A [(h0, .inr (5, [.ref h1, .ref h2, .int x3, .int x4, .long y0, .long y1, .int x5])), (h1, .inl (gB g, 400, .inl fn0)), (h2, .inl (gJ g, 2400, .inr (.inl fm0)))] sz) (fun _ : Unit => [(h0, .inr (5, [.ref h1, .ref h2, .int x3, .int x4, .long y0, .long y1, .int x5])), (h1, .inl (gB g, 400, .inl fn0)), (h2, .inl (gJ g, 2400, .inr (.inl fm0)))])) (va_A [(h0, .inr (5, [.ref h1, .ref h2, .int x3, .int x4, .long y0, .long y1, .int x5])), (h1, .inl (gB g, 400, .inl fn0)), (h2, .inl (gJ g, 2400, .inr (.inl fm0)))] sz)) 0 0 (va_A [(h0, .inr (5, [.ref h1, .ref h2, .int x3, .int x4, .long y0, .long y1, .int x5])), (h1, .inl (gB g, 400, .inl fn0)), (h2, .inl (gJ g, 2400, .inr (.inl fm0)))] sz) := by
  refine met_l RX6 (by decide) rfl rfl (Nat.le_of_ble_eq_true rfl) [(0, .ref h0), (1, .int x0), (2, .int x1), (3, .int x2)] rfl ?_
  intro p e s m args below meth c A Q C hnm Rt
  have gx0 := fb_rng x0
  have gx1 := fb_rng x1
  have gx2 := fb_rng x2
  have hiX6 : ∀ w ∈ wsX60, w ∈ wsX6_pointOf := fun w h => List.mem_cons_of_mem _ (List.mem_append_right _ (h))
  refine r_aload_n 0 0 C dX6_pointOf_0 rfl ?_
  refine r_iload_n 1 1 C dX6_pointOf_1 rfl ?_
  refine r_callVi 2 C dX6_pointOf_2 [] [(h0, .inr (5, [.ref h1, .ref h2, .int x3, .int x4, .long y0, .long y1, .int x5])), (h1, .inl (gB g, 400, .inl fn0))] [(h2, .inl (gJ g, 2400, .inr (.inl fm0)))] (fun sz => c8_X6_kindOf l g h0 h1 x0 h2 x3 x4 y0 y1 x5 fn0 i_x3 i_x4 i_x5 sz) gX6_pointOf_X6_kindOf rfl ⟨rfl, rfl⟩ 1 (by decide) ⟨Nat.le_of_ble_eq_true rfl, Nat.le_of_ble_eq_true rfl⟩ 0 rfl rfl [0, 1] [2] rfl rfl (by decide) (by decide) (by decide) rfl rfl (Nat.le_of_ble_eq_true rfl) ⟨Nat.le_of_ble_eq_true rfl, Nat.le_of_ble_eq_true rfl⟩ (fun r1 _ w2 => ?_)
  refine r_ws [(h2, .inl (gJ g, 2400, .inr (.inl fm0))), (h0, .inr (5, [.ref h1, .ref h2, .int x3, .int x4, .long y0, .long y1, .int x5])), (h1, .inl (gB g, 400, .inl fn0))] rfl ?_
  have w3 : (((Int32.toInt x0) < 0 ∧ r1 = (-1)) ∨ (¬ ((Int32.toInt x0) < 0) ∧ (Int32.toInt x3) ≤ (Int32.toInt x0) ∧ r1 = (-1)) ∨ (¬ ((Int32.toInt x0) < 0) ∧ ¬ ((Int32.toInt x3) ≤ (Int32.toInt x0)))) := w2
  rcases w3 with ⟨k4, k5⟩ | w3
  · skip
    have k5 := k5.symm
    subst k5
    refine r_istore 5 C dX6_pointOf_5 [(4, .int (-1)), (0, .ref h0), (1, .int x0), (2, .int x1), (3, .int x2)] (by decide) rfl ?_
    refine r_iload 7 0 C dX6_pointOf_7 rfl ?_
    refine r_iconst 9 (-1) C dX6_pointOf_9 (by decide) ?_
    refine r_icmp_eq_t 10 28 C dX6_pointOf_10 (by decide) (by decide) ?_
    refine r_lconst 28 0 C dX6_pointOf_28 (by decide) ?_
    exact r_lret 29 Rt dX6_pointOf_29 () trivial [1, 2, 0] (by decide) rfl (Nat.le_of_ble_eq_true rfl) (Nat.le_of_ble_eq_true rfl)
  rcases w3 with ⟨k6, k7, k8⟩ | w3
  · skip
    have k8 := k8.symm
    subst k8
    refine r_istore 5 C dX6_pointOf_5 [(4, .int (-1)), (0, .ref h0), (1, .int x0), (2, .int x1), (3, .int x2)] (by decide) rfl ?_
    refine r_iload 7 0 C dX6_pointOf_7 rfl ?_
    refine r_iconst 9 (-1) C dX6_pointOf_9 (by decide) ?_
    refine r_icmp_eq_t 10 28 C dX6_pointOf_10 (by decide) (by decide) ?_
    refine r_lconst 28 0 C dX6_pointOf_28 (by decide) ?_
    exact r_lret 29 Rt dX6_pointOf_29 () trivial [1, 2, 0] (by decide) rfl (Nat.le_of_ble_eq_true rfl) (Nat.le_of_ble_eq_true rfl)
  obtain ⟨k9, k10⟩ := w3
  refine r_istore 5 C dX6_pointOf_5 [(4, .int r1), (0, .ref h0), (1, .int x0), (2, .int x1), (3, .int x2)] (by decide) rfl ?_
  refine r_iload 7 0 C dX6_pointOf_7 rfl ?_
  refine r_iconst 9 (-1) C dX6_pointOf_9 (by decide) ?_
  refine r_icmp_eq 10 28 C dX6_pointOf_10 (by decide) (fun c11 => ?_) (fun c11 => ?_)
  · skip
    have k12 : (Int32.toInt r1) = (-1) := (fa_eq r1 (-1)).mp c11
    refine r_lconst 28 0 C dX6_pointOf_28 (by decide) ?_
    exact r_lret 29 Rt dX6_pointOf_29 () trivial [1, 2, 0] (by decide) rfl (Nat.le_of_ble_eq_true rfl) (Nat.le_of_ble_eq_true rfl)
  · skip
    have k13 : ¬ ((Int32.toInt r1) = (-1)) := fun h_9 => c11 ((fa_eq r1 (-1)).mpr h_9)
    refine r_iload 13 0 C dX6_pointOf_13 rfl ?_
    refine r_iconst 15 3 C dX6_pointOf_15 (by decide) ?_
    refine r_icmp_eq 16 28 C dX6_pointOf_16 (by decide) (fun c14 => ?_) (fun c14 => ?_)
    · skip
      have k15 : (Int32.toInt r1) = 3 := (fa_eq r1 3).mp c14
      refine r_lconst 28 0 C dX6_pointOf_28 (by decide) ?_
      exact r_lret 29 Rt dX6_pointOf_29 () trivial [1, 2, 0] (by decide) rfl (Nat.le_of_ble_eq_true rfl) (Nat.le_of_ble_eq_true rfl)
    · skip
      have k16 : ¬ ((Int32.toInt r1) = 3) := fun h_9 => c14 ((fa_eq r1 3).mpr h_9)
      refine r_iload_n 19 4 C dX6_pointOf_19 rfl ?_
      refine r_if_lt 20 28 C dX6_pointOf_20 (by decide) (fun c17 => ?_) (fun c17 => ?_)
      · skip
        have k18 : (Int32.toInt x2) < 0 := (fa_lt x2 0).mp c17
        refine r_lconst 28 0 C dX6_pointOf_28 (by decide) ?_
        exact r_lret 29 Rt dX6_pointOf_29 () trivial [1, 2, 0] (by decide) rfl (Nat.le_of_ble_eq_true rfl) (Nat.le_of_ble_eq_true rfl)
      · skip
        have k19 : ¬ ((Int32.toInt x2) < 0) := fun h_9 => c17 ((fa_lt x2 0).mpr h_9)
        refine r_iload_n 23 4 C dX6_pointOf_23 rfl ?_
        refine r_iconst 24 1 C dX6_pointOf_24 (by decide) ?_
        refine r_icmp_le 25 30 C dX6_pointOf_25 (by decide) (fun c20 => ?_) (fun c20 => ?_)
        · skip
          have k21 : (Int32.toInt x2) ≤ 1 := (fa_le x2 1).mp c20
          refine r_iload_n 30 3 C dX6_pointOf_30 rfl ?_
          refine r_if_lt 31 49 C dX6_pointOf_31 (by decide) (fun c22 => ?_) (fun c22 => ?_)
          · skip
            have k23 : (Int32.toInt x1) < 0 := (fa_lt x1 0).mp c22
            refine r_lconst 49 0 C dX6_pointOf_49 (by decide) ?_
            exact r_lret 50 Rt dX6_pointOf_50 () trivial [1, 2, 0] (by decide) rfl (Nat.le_of_ble_eq_true rfl) (Nat.le_of_ble_eq_true rfl)
          · skip
            have k24 : ¬ ((Int32.toInt x1) < 0) := fun h_9 => c22 ((fa_lt x1 0).mpr h_9)
            refine r_iload_n 34 3 C dX6_pointOf_34 rfl ?_
            refine r_iload 35 0 C dX6_pointOf_35 rfl ?_
            refine r_iconst 37 2 C dX6_pointOf_37 (by decide) ?_
            refine r_icmp_ne 38 45 C dX6_pointOf_38 (by decide) (fun c25 => ?_) (fun c25 => ?_)
            · skip
              have k26 : ¬ ((Int32.toInt r1) = 2) := fun h_9 => c25 ((fa_eq r1 2).mpr h_9)
              refine r_iconst 45 0 C dX6_pointOf_45 (by decide) ?_
              refine r_icmp_le 46 51 C dX6_pointOf_46 (by decide) (fun c27 => ?_) (fun c27 => ?_)
              · skip
                have k28 : (Int32.toInt x1) ≤ 0 := (fa_le x1 0).mp c27
                refine r_aload_n 51 1 C dX6_pointOf_51 rfl ?_
                refine r_get 52 C dX6_pointOf_52 (k := 1) 1 rfl rfl hiX6 (by decide) rfl (mg 1 rfl) (Or.inl rfl) rfl ?_
                refine r_iload_n 55 2 C dX6_pointOf_55 rfl ?_
                refine r_bipush 56 6 C dX6_pointOf_56 (by decide) ?_
                obtain ⟨z29, ez29⟩ : ∃ z_9, x0 * 6 = z_9 := ⟨_, rfl⟩
                have tz29 : (Int32.toInt z29) = (Int32.toInt x0) * 6 := by rw [← ez29]; exact fb_mulI (by show -2147483648 ≤ (Int32.toInt x0) * 6; omega) (by show (Int32.toInt x0) * 6 < 2147483648; omega)
                refine r_imul 58 z29 C dX6_pointOf_58 ez29 ?_
                refine r_iload_n 59 3 C dX6_pointOf_59 rfl ?_
                refine r_iconst 60 2 C dX6_pointOf_60 (by decide) ?_
                obtain ⟨z30, ez30⟩ : ∃ z_9, x1 * 2 = z_9 := ⟨_, rfl⟩
                have tz30 : (Int32.toInt z30) = (Int32.toInt x1) * 2 := by rw [← ez30]; exact fb_mulI (by show -2147483648 ≤ (Int32.toInt x1) * 2; omega) (by show (Int32.toInt x1) * 2 < 2147483648; omega)
                refine r_imul 61 z30 C dX6_pointOf_61 ez30 ?_
                obtain ⟨z31, ez31⟩ : ∃ z_9, z29 + z30 = z_9 := ⟨_, rfl⟩
                have tz31 : (Int32.toInt z31) = (Int32.toInt z29) + (Int32.toInt z30) := by rw [← ez31]; exact fb_addI (by show -2147483648 ≤ (Int32.toInt z29) + (Int32.toInt z30); omega) (by show (Int32.toInt z29) + (Int32.toInt z30) < 2147483648; omega)
                refine r_iadd 62 z31 C dX6_pointOf_62 ez31 ?_
                refine r_iload_n 63 4 C dX6_pointOf_63 rfl ?_
                obtain ⟨z32, ez32⟩ : ∃ z_9, z31 + x2 = z_9 := ⟨_, rfl⟩
                have tz32 : (Int32.toInt z32) = (Int32.toInt z31) + (Int32.toInt x2) := by rw [← ez32]; exact fb_addI (by show -2147483648 ≤ (Int32.toInt z31) + (Int32.toInt x2); omega) (by show (Int32.toInt z31) + (Int32.toInt x2) < 2147483648; omega)
                refine r_iadd 64 z32 C dX6_pointOf_64 ez32 ?_
                obtain ⟨z33, ez33⟩ : ∃ z_9, fm0 (Int32.toNatClampNeg z32) = z_9 := ⟨_, rfl⟩
                refine r_lald 65 z33 C dX6_pointOf_65 0 rfl (vinI (by omega) (by omega)) ez33 ?_
                have gz33 := fb_rngL z33
                exact r_lret 66 Rt dX6_pointOf_66 () trivial [1, 2, 0] (by decide) rfl (Nat.le_of_ble_eq_true rfl) (Nat.le_of_ble_eq_true rfl)
              · skip
                have k34 : ¬ ((Int32.toInt x1) ≤ 0) := fun h_9 => c27 ((fa_le x1 0).mpr h_9)
                refine r_lconst 49 0 C dX6_pointOf_49 (by decide) ?_
                exact r_lret 50 Rt dX6_pointOf_50 () trivial [1, 2, 0] (by decide) rfl (Nat.le_of_ble_eq_true rfl) (Nat.le_of_ble_eq_true rfl)
            · skip
              have k35 : (Int32.toInt r1) = 2 := (fa_eq r1 2).mp c25
              refine r_iconst 41 2 C dX6_pointOf_41 (by decide) ?_
              refine r_goto 42 46 C dX6_pointOf_42 (by decide) ?_
              refine r_icmp_le 46 51 C dX6_pointOf_46 (by decide) (fun c36 => ?_) (fun c36 => ?_)
              · skip
                have k37 : (Int32.toInt x1) ≤ 2 := (fa_le x1 2).mp c36
                refine r_aload_n 51 1 C dX6_pointOf_51 rfl ?_
                refine r_get 52 C dX6_pointOf_52 (k := 1) 1 rfl rfl hiX6 (by decide) rfl (mg 1 rfl) (Or.inl rfl) rfl ?_
                refine r_iload_n 55 2 C dX6_pointOf_55 rfl ?_
                refine r_bipush 56 6 C dX6_pointOf_56 (by decide) ?_
                obtain ⟨z38, ez38⟩ : ∃ z_9, x0 * 6 = z_9 := ⟨_, rfl⟩
                have tz38 : (Int32.toInt z38) = (Int32.toInt x0) * 6 := by rw [← ez38]; exact fb_mulI (by show -2147483648 ≤ (Int32.toInt x0) * 6; omega) (by show (Int32.toInt x0) * 6 < 2147483648; omega)
                refine r_imul 58 z38 C dX6_pointOf_58 ez38 ?_
                refine r_iload_n 59 3 C dX6_pointOf_59 rfl ?_
                refine r_iconst 60 2 C dX6_pointOf_60 (by decide) ?_
                obtain ⟨z39, ez39⟩ : ∃ z_9, x1 * 2 = z_9 := ⟨_, rfl⟩
                have tz39 : (Int32.toInt z39) = (Int32.toInt x1) * 2 := by rw [← ez39]; exact fb_mulI (by show -2147483648 ≤ (Int32.toInt x1) * 2; omega) (by show (Int32.toInt x1) * 2 < 2147483648; omega)
                refine r_imul 61 z39 C dX6_pointOf_61 ez39 ?_
                obtain ⟨z40, ez40⟩ : ∃ z_9, z38 + z39 = z_9 := ⟨_, rfl⟩
                have tz40 : (Int32.toInt z40) = (Int32.toInt z38) + (Int32.toInt z39) := by rw [← ez40]; exact fb_addI (by show -2147483648 ≤ (Int32.toInt z38) + (Int32.toInt z39); omega) (by show (Int32.toInt z38) + (Int32.toInt z39) < 2147483648; omega)
                refine r_iadd 62 z40 C dX6_pointOf_62 ez40 ?_
                refine r_iload_n 63 4 C dX6_pointOf_63 rfl ?_
                obtain ⟨z41, ez41⟩ : ∃ z_9, z40 + x2 = z_9 := ⟨_, rfl⟩
                have tz41 : (Int32.toInt z41) = (Int32.toInt z40) + (Int32.toInt x2) := by rw [← ez41]; exact fb_addI (by show -2147483648 ≤ (Int32.toInt z40) + (Int32.toInt x2); omega) (by show (Int32.toInt z40) + (Int32.toInt x2) < 2147483648; omega)
                refine r_iadd 64 z41 C dX6_pointOf_64 ez41 ?_
                obtain ⟨z42, ez42⟩ : ∃ z_9, fm0 (Int32.toNatClampNeg z41) = z_9 := ⟨_, rfl⟩
                refine r_lald 65 z42 C dX6_pointOf_65 0 rfl (vinI (by omega) (by omega)) ez42 ?_
                have gz42 := fb_rngL z42
                exact r_lret 66 Rt dX6_pointOf_66 () trivial [1, 2, 0] (by decide) rfl (Nat.le_of_ble_eq_true rfl) (Nat.le_of_ble_eq_true rfl)
              · skip
                have k43 : ¬ ((Int32.toInt x1) ≤ 2) := fun h_9 => c36 ((fa_le x1 2).mpr h_9)
                refine r_lconst 49 0 C dX6_pointOf_49 (by decide) ?_
                exact r_lret 50 Rt dX6_pointOf_50 () trivial [1, 2, 0] (by decide) rfl (Nat.le_of_ble_eq_true rfl) (Nat.le_of_ble_eq_true rfl)
        · skip
          have k44 : ¬ ((Int32.toInt x2) ≤ 1) := fun h_9 => c20 ((fa_le x2 1).mpr h_9)
          refine r_lconst 28 0 C dX6_pointOf_28 (by decide) ?_
          exact r_lret 29 Rt dX6_pointOf_29 () trivial [1, 2, 0] (by decide) rfl (Nat.le_of_ble_eq_true rfl) (Nat.le_of_ble_eq_true rfl)
set_option maxHeartbeats 4000000 in
set_option maxRecDepth 100000 in
theorem c11_X11_at (l : Launch) (g : GD) (h0 : Nat) (h1 : Nat) (h2 : Nat) (h3 : Nat) (x0 : Int32) (x1 : Int32) (x2 : Int32) (h4 : Nat) (h5 : Nat) (h6 : Nat) (h7 : Nat) (h8 : Nat) (h9 : Nat) (h10 : Nat) (h11 : Nat) (vv0 : Value) (x3 : Int32) (x4 : Int32) (y0 : Int64) (y1 : Int64) (x5 : Int32) (fn0 : Nat → Int32) (fm0 : Nat → Int64) (i_x3 : (0 ≤ (Int32.toInt x3) ∧ (Int32.toInt x3) ≤ 400)) (i_x4 : (0 ≤ (Int32.toInt x4) ∧ (Int32.toInt x4) ≤ 400)) (i_x5 : (0 ≤ (Int32.toInt x5) ∧ (Int32.toInt x5) ≤ 1)) (sz : Nat) : Met l yX11_at wsX11_at ({ frames := 2, cells := 0, slots := 0, locals := 45 }) (va_Pc [.ref h0, .int x0, .int x1, .int x2] (PW g [(h0, .inr (10, [.ref h4, .ref h5, .ref h6, .ref h7, .ref h8, .ref h9, .ref h1, .ref h10, .ref h11, vv0])), (h1, .inr (5, [.ref h2, .ref h3, .int x3, .int x4, .long y0, .long y1, .int x5])), (h2, .inl (gB g, 400, .inl fn0)), (h3, .inl (gJ g, 2400, .inr (.inl fm0)))] sz)) (va_Ql (fun (r : Int64) (_ : Unit) => True) (BW g (va_A [(h0, .inr (10, [.ref h4, .ref h5, .ref h6, .ref h7, .ref h8, .ref h9, .ref h1, .ref h10, .ref h11, vv0])), (h1, .inr (5, [.ref h2, .ref h3, .int x3, .int x4, .long y0, .long y1, .int x5])), (h2, .inl (gB g, 400, .inl fn0)), (h3, .inl (gJ g, 2400, .inr (.inl fm0)))] sz) (fun _ : Unit => [(h0, .inr (10, [.ref h4, .ref h5, .ref h6, .ref h7, .ref h8, .ref h9, .ref h1, .ref h10, .ref h11, vv0])), (h1, .inr (5, [.ref h2, .ref h3, .int x3, .int x4, .long y0, .long y1, .int x5])), (h2, .inl (gB g, 400, .inl fn0)), (h3, .inl (gJ g, 2400, .inr (.inl fm0)))])) (va_A [(h0, .inr (10, [.ref h4, .ref h5, .ref h6, .ref h7, .ref h8, .ref h9, .ref h1, .ref h10, .ref h11, vv0])), (h1, .inr (5, [.ref h2, .ref h3, .int x3, .int x4, .long y0, .long y1, .int x5])), (h2, .inl (gB g, 400, .inl fn0)), (h3, .inl (gJ g, 2400, .inr (.inl fm0)))] sz)) 0 0 (va_A [(h0, .inr (10, [.ref h4, .ref h5, .ref h6, .ref h7, .ref h8, .ref h9, .ref h1, .ref h10, .ref h11, vv0])), (h1, .inr (5, [.ref h2, .ref h3, .int x3, .int x4, .long y0, .long y1, .int x5])), (h2, .inl (gB g, 400, .inl fn0)), (h3, .inl (gJ g, 2400, .inr (.inl fm0)))] sz) := by
  refine met_l RX11 (by decide) rfl rfl (Nat.le_of_ble_eq_true rfl) [(0, .ref h0), (1, .int x0), (2, .int x1), (3, .int x2)] rfl ?_
  intro p e s m args below meth c A Q C hnm Rt
  have hiX11 : ∀ w ∈ wsX110, w ∈ wsX11_at := fun w h => List.mem_cons_of_mem _ (List.mem_append_left _ (List.mem_append_right _ (h)))
  refine r_aload_n 0 0 C dX11_at_0 rfl ?_
  refine r_get 1 C dX11_at_1 (k := 6) 0 rfl rfl hiX11 (by decide) rfl (mg 1 rfl) (Or.inl rfl) rfl ?_
  refine r_iload_n 4 1 C dX11_at_4 rfl ?_
  refine r_iload_n 5 2 C dX11_at_5 rfl ?_
  refine r_iload_n 6 3 C dX11_at_6 rfl ?_
  refine r_callVl 7 C dX11_at_7 [] [(h1, .inr (5, [.ref h2, .ref h3, .int x3, .int x4, .long y0, .long y1, .int x5])), (h2, .inl (gB g, 400, .inl fn0)), (h3, .inl (gJ g, 2400, .inr (.inl fm0)))] [(h0, .inr (10, [.ref h4, .ref h5, .ref h6, .ref h7, .ref h8, .ref h9, .ref h1, .ref h10, .ref h11, vv0]))] (fun sz => c10_X6_pointOf l g h1 h2 h3 x0 x1 x2 x3 x4 y0 y1 x5 fn0 fm0 i_x3 i_x4 i_x5 sz) gX11_at_X6_pointOf rfl ⟨rfl, rfl⟩ 3 (by decide) ⟨Nat.le_of_ble_eq_true rfl, Nat.le_of_ble_eq_true rfl⟩ 1 rfl rfl [1, 2, 3] [0] rfl rfl (by decide) (by decide) (by decide) rfl rfl (Nat.le_of_ble_eq_true rfl) ⟨Nat.le_of_ble_eq_true rfl, Nat.le_of_ble_eq_true rfl⟩ (fun r1 _ w2 => ?_)
  refine r_ws [(h0, .inr (10, [.ref h4, .ref h5, .ref h6, .ref h7, .ref h8, .ref h9, .ref h1, .ref h10, .ref h11, vv0])), (h1, .inr (5, [.ref h2, .ref h3, .int x3, .int x4, .long y0, .long y1, .int x5])), (h2, .inl (gB g, 400, .inl fn0)), (h3, .inl (gJ g, 2400, .inr (.inl fm0)))] rfl ?_
  have gr1 := fb_rngL r1
  exact r_lret 10 Rt dX11_at_10 () trivial [0, 1, 2, 3] (by decide) rfl (Nat.le_of_ble_eq_true rfl) (Nat.le_of_ble_eq_true rfl)
set_option maxHeartbeats 4000000 in
set_option maxRecDepth 100000 in
theorem c12_X11_isKeyAndNumber (l : Launch) (g : GD) (x0 : Int32) (x1 : Int32) (sz : Nat) : Met l yX11_isKeyAndNumber wsX11_isKeyAndNumber ({ frames := 0, cells := 0, slots := 0, locals := 0 }) (va_Pc [.int x0, .int x1] (PW g [] sz)) (va_Qi (fun (r : Int32) (_ : Unit) => (((Int32.toInt x0) < 0 ∧ r = 0) ∨ (¬ ((Int32.toInt x0) < 0) ∧ 65535 < (Int32.toInt x0) ∧ r = 0) ∨ (¬ ((Int32.toInt x0) < 0) ∧ ¬ (65535 < (Int32.toInt x0)) ∧ (Int32.toInt x1) < 0 ∧ r = 0) ∨ (¬ ((Int32.toInt x0) < 0) ∧ ¬ (65535 < (Int32.toInt x0)) ∧ ¬ ((Int32.toInt x1) < 0) ∧ 8 < (Int32.toInt x1) ∧ r = 0) ∨ (¬ ((Int32.toInt x0) < 0) ∧ ¬ (65535 < (Int32.toInt x0)) ∧ ¬ ((Int32.toInt x1) < 0) ∧ ¬ (8 < (Int32.toInt x1)) ∧ r = 1))) (BW g (va_A [] sz) (fun _ : Unit => [])) (va_A [] sz)) 0 0 (va_A [] sz) := by
  refine met_z RX11 (by decide) rfl rfl (Nat.le_of_ble_eq_true rfl) [(0, .int x0), (1, .int x1)] rfl ?_
  intro p e s m args below meth c A Q C hnm Rt
  have gx0 := fb_rng x0
  have gx1 := fb_rng x1
  refine r_iload_n 0 0 C dX11_isKeyAndNumber_0 rfl ?_
  refine r_if_lt 1 24 C dX11_isKeyAndNumber_1 (by decide) (fun c1 => ?_) (fun c1 => ?_)
  · skip
    have k2 : (Int32.toInt x0) < 0 := (fa_lt x0 0).mp c1
    refine r_iconst 24 0 C dX11_isKeyAndNumber_24 (by decide) ?_
    exact r_zret 25 Rt dX11_isKeyAndNumber_25 (by decide) () (show (((Int32.toInt x0) < 0 ∧ 0 = 0) ∨ (¬ ((Int32.toInt x0) < 0) ∧ 65535 < (Int32.toInt x0) ∧ 0 = 0) ∨ (¬ ((Int32.toInt x0) < 0) ∧ ¬ (65535 < (Int32.toInt x0)) ∧ (Int32.toInt x1) < 0 ∧ 0 = 0) ∨ (¬ ((Int32.toInt x0) < 0) ∧ ¬ (65535 < (Int32.toInt x0)) ∧ ¬ ((Int32.toInt x1) < 0) ∧ 8 < (Int32.toInt x1) ∧ 0 = 0) ∨ (¬ ((Int32.toInt x0) < 0) ∧ ¬ (65535 < (Int32.toInt x0)) ∧ ¬ ((Int32.toInt x1) < 0) ∧ ¬ (8 < (Int32.toInt x1)) ∧ 0 = 1)) from by refine Or.inl ?_ <;> ((repeat' apply And.intro) <;> first | trivial | rfl | assumption | omega | decide | exact Or.inl rfl | exact Or.inr (Or.inl rfl) | exact Or.inr (Or.inr rfl))) [] (by decide) rfl (Nat.le_of_ble_eq_true rfl) (Nat.le_of_ble_eq_true rfl)
  · skip
    have k3 : ¬ ((Int32.toInt x0) < 0) := fun h_9 => c1 ((fa_lt x0 0).mpr h_9)
    refine r_iload_n 4 0 C dX11_isKeyAndNumber_4 rfl ?_
    refine r_ldc 5 65535 C dX11_isKeyAndNumber_5 (mg 1 rfl) ?_
    refine r_icmp_gt 7 24 C dX11_isKeyAndNumber_7 (by decide) (fun c4 => ?_) (fun c4 => ?_)
    · skip
      have k5 : 65535 < (Int32.toInt x0) := (fa_lt 65535 x0).mp c4
      refine r_iconst 24 0 C dX11_isKeyAndNumber_24 (by decide) ?_
      exact r_zret 25 Rt dX11_isKeyAndNumber_25 (by decide) () (show (((Int32.toInt x0) < 0 ∧ 0 = 0) ∨ (¬ ((Int32.toInt x0) < 0) ∧ 65535 < (Int32.toInt x0) ∧ 0 = 0) ∨ (¬ ((Int32.toInt x0) < 0) ∧ ¬ (65535 < (Int32.toInt x0)) ∧ (Int32.toInt x1) < 0 ∧ 0 = 0) ∨ (¬ ((Int32.toInt x0) < 0) ∧ ¬ (65535 < (Int32.toInt x0)) ∧ ¬ ((Int32.toInt x1) < 0) ∧ 8 < (Int32.toInt x1) ∧ 0 = 0) ∨ (¬ ((Int32.toInt x0) < 0) ∧ ¬ (65535 < (Int32.toInt x0)) ∧ ¬ ((Int32.toInt x1) < 0) ∧ ¬ (8 < (Int32.toInt x1)) ∧ 0 = 1)) from by refine Or.inr (Or.inl ?_) <;> ((repeat' apply And.intro) <;> first | trivial | rfl | assumption | omega | decide | exact Or.inl rfl | exact Or.inr (Or.inl rfl) | exact Or.inr (Or.inr rfl))) [] (by decide) rfl (Nat.le_of_ble_eq_true rfl) (Nat.le_of_ble_eq_true rfl)
    · skip
      have k6 : ¬ (65535 < (Int32.toInt x0)) := fun h_9 => c4 ((fa_lt 65535 x0).mpr h_9)
      refine r_iload_n 10 1 C dX11_isKeyAndNumber_10 rfl ?_
      refine r_if_lt 11 24 C dX11_isKeyAndNumber_11 (by decide) (fun c7 => ?_) (fun c7 => ?_)
      · skip
        have k8 : (Int32.toInt x1) < 0 := (fa_lt x1 0).mp c7
        refine r_iconst 24 0 C dX11_isKeyAndNumber_24 (by decide) ?_
        exact r_zret 25 Rt dX11_isKeyAndNumber_25 (by decide) () (show (((Int32.toInt x0) < 0 ∧ 0 = 0) ∨ (¬ ((Int32.toInt x0) < 0) ∧ 65535 < (Int32.toInt x0) ∧ 0 = 0) ∨ (¬ ((Int32.toInt x0) < 0) ∧ ¬ (65535 < (Int32.toInt x0)) ∧ (Int32.toInt x1) < 0 ∧ 0 = 0) ∨ (¬ ((Int32.toInt x0) < 0) ∧ ¬ (65535 < (Int32.toInt x0)) ∧ ¬ ((Int32.toInt x1) < 0) ∧ 8 < (Int32.toInt x1) ∧ 0 = 0) ∨ (¬ ((Int32.toInt x0) < 0) ∧ ¬ (65535 < (Int32.toInt x0)) ∧ ¬ ((Int32.toInt x1) < 0) ∧ ¬ (8 < (Int32.toInt x1)) ∧ 0 = 1)) from by refine Or.inr (Or.inr (Or.inl ?_)) <;> ((repeat' apply And.intro) <;> first | trivial | rfl | assumption | omega | decide | exact Or.inl rfl | exact Or.inr (Or.inl rfl) | exact Or.inr (Or.inr rfl))) [] (by decide) rfl (Nat.le_of_ble_eq_true rfl) (Nat.le_of_ble_eq_true rfl)
      · skip
        have k9 : ¬ ((Int32.toInt x1) < 0) := fun h_9 => c7 ((fa_lt x1 0).mpr h_9)
        refine r_iload_n 14 1 C dX11_isKeyAndNumber_14 rfl ?_
        refine r_bipush 15 8 C dX11_isKeyAndNumber_15 (by decide) ?_
        refine r_icmp_gt 17 24 C dX11_isKeyAndNumber_17 (by decide) (fun c10 => ?_) (fun c10 => ?_)
        · skip
          have k11 : 8 < (Int32.toInt x1) := (fa_lt 8 x1).mp c10
          refine r_iconst 24 0 C dX11_isKeyAndNumber_24 (by decide) ?_
          exact r_zret 25 Rt dX11_isKeyAndNumber_25 (by decide) () (show (((Int32.toInt x0) < 0 ∧ 0 = 0) ∨ (¬ ((Int32.toInt x0) < 0) ∧ 65535 < (Int32.toInt x0) ∧ 0 = 0) ∨ (¬ ((Int32.toInt x0) < 0) ∧ ¬ (65535 < (Int32.toInt x0)) ∧ (Int32.toInt x1) < 0 ∧ 0 = 0) ∨ (¬ ((Int32.toInt x0) < 0) ∧ ¬ (65535 < (Int32.toInt x0)) ∧ ¬ ((Int32.toInt x1) < 0) ∧ 8 < (Int32.toInt x1) ∧ 0 = 0) ∨ (¬ ((Int32.toInt x0) < 0) ∧ ¬ (65535 < (Int32.toInt x0)) ∧ ¬ ((Int32.toInt x1) < 0) ∧ ¬ (8 < (Int32.toInt x1)) ∧ 0 = 1)) from by refine Or.inr (Or.inr (Or.inr (Or.inl ?_))) <;> ((repeat' apply And.intro) <;> first | trivial | rfl | assumption | omega | decide | exact Or.inl rfl | exact Or.inr (Or.inl rfl) | exact Or.inr (Or.inr rfl))) [] (by decide) rfl (Nat.le_of_ble_eq_true rfl) (Nat.le_of_ble_eq_true rfl)
        · skip
          have k12 : ¬ (8 < (Int32.toInt x1)) := fun h_9 => c10 ((fa_lt 8 x1).mpr h_9)
          refine r_iconst 20 1 C dX11_isKeyAndNumber_20 (by decide) ?_
          refine r_goto 21 25 C dX11_isKeyAndNumber_21 (by decide) ?_
          exact r_zret 25 Rt dX11_isKeyAndNumber_25 (by decide) () (show (((Int32.toInt x0) < 0 ∧ 1 = 0) ∨ (¬ ((Int32.toInt x0) < 0) ∧ 65535 < (Int32.toInt x0) ∧ 1 = 0) ∨ (¬ ((Int32.toInt x0) < 0) ∧ ¬ (65535 < (Int32.toInt x0)) ∧ (Int32.toInt x1) < 0 ∧ 1 = 0) ∨ (¬ ((Int32.toInt x0) < 0) ∧ ¬ (65535 < (Int32.toInt x0)) ∧ ¬ ((Int32.toInt x1) < 0) ∧ 8 < (Int32.toInt x1) ∧ 1 = 0) ∨ (¬ ((Int32.toInt x0) < 0) ∧ ¬ (65535 < (Int32.toInt x0)) ∧ ¬ ((Int32.toInt x1) < 0) ∧ ¬ (8 < (Int32.toInt x1)) ∧ 1 = 1)) from by refine Or.inr (Or.inr (Or.inr (Or.inr (?_)))) <;> ((repeat' apply And.intro) <;> first | trivial | rfl | assumption | omega | decide | exact Or.inl rfl | exact Or.inr (Or.inl rfl) | exact Or.inr (Or.inr rfl))) [] (by decide) rfl (Nat.le_of_ble_eq_true rfl) (Nat.le_of_ble_eq_true rfl)
set_option maxHeartbeats 4000000 in
set_option maxRecDepth 100000 in
theorem c13_X5_cut (l : Launch) (g : GD) (h0 : Nat) (x0 : Int32) (h1 : Nat) (x1 : Int32) (i_x1 : (0 ≤ (Int32.toInt x1) ∧ (Int32.toInt x1) ≤ 1508)) (sz : Nat) : Met l yX5_cut wsX5_cut ({ frames := 0, cells := 0, slots := 0, locals := 0 }) (va_Pc [.ref h0, .int x0] (PW g [(h0, .inr (4, [.ref h1, .int x1]))] sz)) (va_Qv (fun (u : (Int32)) => (((Int32.toInt x0) < 0 ∧ (Int32.toInt u) = (Int32.toInt x1)) ∨ (¬ ((Int32.toInt x0) < 0) ∧ (Int32.toInt x1) < (Int32.toInt x0) ∧ (Int32.toInt u) = (Int32.toInt x1)) ∨ (¬ ((Int32.toInt x0) < 0) ∧ ¬ ((Int32.toInt x1) < (Int32.toInt x0)) ∧ (Int32.toInt u) = (Int32.toInt x0))) ∧ 0 ≤ (Int32.toInt u) ∧ (Int32.toInt u) ≤ 1508) (BW g (va_A [(h0, .inr (4, [.ref h1, .int x1]))] sz) (fun u : (Int32) => [(h0, .inr (4, [.ref h1, .int u]))])) (va_A [(h0, .inr (4, [.ref h1, .int x1]))] sz)) 0 0 (va_A [(h0, .inr (4, [.ref h1, .int x1]))] sz) := by
  refine met_v RX5 (by decide) rfl rfl (Nat.le_of_ble_eq_true rfl) [(0, .ref h0), (1, .int x0)] rfl ?_
  intro p e s m args below meth c A Q C hnm Rt
  have gx0 := fb_rng x0
  have hiX5 : ∀ w ∈ wsX50, w ∈ wsX5_cut := fun w h => List.mem_cons_of_mem _ (List.mem_append_right _ (h))
  refine r_iload_n 0 1 C dX5_cut_0 rfl ?_
  refine r_if_lt 1 17 C dX5_cut_1 (by decide) (fun c1 => ?_) (fun c1 => ?_)
  · skip
    have k2 : (Int32.toInt x0) < 0 := (fa_lt x0 0).mp c1
    exact r_vret 17 Rt dX5_cut_17 x1 (show (((Int32.toInt x0) < 0 ∧ (Int32.toInt x1) = (Int32.toInt x1)) ∨ (¬ ((Int32.toInt x0) < 0) ∧ (Int32.toInt x1) < (Int32.toInt x0) ∧ (Int32.toInt x1) = (Int32.toInt x1)) ∨ (¬ ((Int32.toInt x0) < 0) ∧ ¬ ((Int32.toInt x1) < (Int32.toInt x0)) ∧ (Int32.toInt x1) = (Int32.toInt x0))) ∧ 0 ≤ (Int32.toInt x1) ∧ (Int32.toInt x1) ≤ 1508 from by refine ⟨Or.inl ?_, ?_, ?_⟩ <;> ((repeat' apply And.intro) <;> first | trivial | rfl | assumption | omega | decide | exact Or.inl rfl | exact Or.inr (Or.inl rfl) | exact Or.inr (Or.inr rfl))) [0] (by decide) rfl (Nat.le_of_ble_eq_true rfl) (Nat.le_of_ble_eq_true rfl)
  · skip
    have k3 : ¬ ((Int32.toInt x0) < 0) := fun h_9 => c1 ((fa_lt x0 0).mpr h_9)
    refine r_iload_n 4 1 C dX5_cut_4 rfl ?_
    refine r_aload_n 5 0 C dX5_cut_5 rfl ?_
    refine r_get 6 C dX5_cut_6 (k := 1) 0 rfl rfl hiX5 (by decide) rfl (mg 1 rfl) (Or.inl rfl) rfl ?_
    refine r_icmp_gt 9 17 C dX5_cut_9 (by decide) (fun c4 => ?_) (fun c4 => ?_)
    · skip
      have k5 : (Int32.toInt x1) < (Int32.toInt x0) := (fa_lt x1 x0).mp c4
      exact r_vret 17 Rt dX5_cut_17 x1 (show (((Int32.toInt x0) < 0 ∧ (Int32.toInt x1) = (Int32.toInt x1)) ∨ (¬ ((Int32.toInt x0) < 0) ∧ (Int32.toInt x1) < (Int32.toInt x0) ∧ (Int32.toInt x1) = (Int32.toInt x1)) ∨ (¬ ((Int32.toInt x0) < 0) ∧ ¬ ((Int32.toInt x1) < (Int32.toInt x0)) ∧ (Int32.toInt x1) = (Int32.toInt x0))) ∧ 0 ≤ (Int32.toInt x1) ∧ (Int32.toInt x1) ≤ 1508 from by refine ⟨Or.inr (Or.inl ?_), ?_, ?_⟩ <;> ((repeat' apply And.intro) <;> first | trivial | rfl | assumption | omega | decide | exact Or.inl rfl | exact Or.inr (Or.inl rfl) | exact Or.inr (Or.inr rfl))) [0] (by decide) rfl (Nat.le_of_ble_eq_true rfl) (Nat.le_of_ble_eq_true rfl)
    · skip
      have k6 : ¬ ((Int32.toInt x1) < (Int32.toInt x0)) := fun h_9 => c4 ((fa_lt x1 x0).mpr h_9)
      refine r_aload_n 12 0 C dX5_cut_12 rfl ?_
      refine r_iload_n 13 1 C dX5_cut_13 rfl ?_
      refine r_put 14 C dX5_cut_14 (k := 1) 0 rfl rfl hiX5 tyX5 tyX5_ok nmX5 (by decide) rfl (mg 1 rfl) (Or.inl rfl) rfl rfl rfl rfl (Nat.le_of_ble_eq_true rfl) [(h0, .inr (4, [.ref h1, .int x0]))] rfl ?_
      exact r_vret 17 Rt dX5_cut_17 x0 (show (((Int32.toInt x0) < 0 ∧ (Int32.toInt x0) = (Int32.toInt x1)) ∨ (¬ ((Int32.toInt x0) < 0) ∧ (Int32.toInt x1) < (Int32.toInt x0) ∧ (Int32.toInt x0) = (Int32.toInt x1)) ∨ (¬ ((Int32.toInt x0) < 0) ∧ ¬ ((Int32.toInt x1) < (Int32.toInt x0)) ∧ (Int32.toInt x0) = (Int32.toInt x0))) ∧ 0 ≤ (Int32.toInt x0) ∧ (Int32.toInt x0) ≤ 1508 from by refine ⟨Or.inr (Or.inr (?_)), ?_, ?_⟩ <;> ((repeat' apply And.intro) <;> first | trivial | rfl | assumption | omega | decide | exact Or.inl rfl | exact Or.inr (Or.inl rfl) | exact Or.inr (Or.inr rfl))) [0] (by decide) rfl (Nat.le_of_ble_eq_true rfl) (Nat.le_of_ble_eq_true rfl)
set_option maxHeartbeats 4000000 in
set_option maxRecDepth 100000 in
theorem c14_X5_get (l : Launch) (g : GD) (h0 : Nat) (h1 : Nat) (y0 : Int64) (x0 : Int32) (fn0 : Nat → Int32) (i_x0 : (0 ≤ (Int32.toInt x0) ∧ (Int32.toInt x0) ≤ 1500)) (sz : Nat) : Met l yX5_get wsX5_get ({ frames := 0, cells := 0, slots := 0, locals := 0 }) (va_Pc [.ref h0, .long y0] (PW g [(h0, .inr (4, [.ref h1, .int x0])), (h1, .inl (gB g, 1500, .inl fn0))] sz)) (va_Qi (fun (r : Int32) (_ : Unit) => -1 ≤ (Int32.toInt r) ∧ (Int32.toInt r) ≤ 255) (BW g (va_A [(h0, .inr (4, [.ref h1, .int x0])), (h1, .inl (gB g, 1500, .inl fn0))] sz) (fun _ : Unit => [(h0, .inr (4, [.ref h1, .int x0])), (h1, .inl (gB g, 1500, .inl fn0))])) (va_A [(h0, .inr (4, [.ref h1, .int x0])), (h1, .inl (gB g, 1500, .inl fn0))] sz)) 0 0 (va_A [(h0, .inr (4, [.ref h1, .int x0])), (h1, .inl (gB g, 1500, .inl fn0))] sz) := by
  refine met_i RX5 (by decide) rfl rfl (Nat.le_of_ble_eq_true rfl) [(0, .ref h0), (1, .long y0)] rfl ?_
  intro p e s m args below meth c A Q C hnm Rt
  have gy0 := fb_rngL y0
  have hiX5 : ∀ w ∈ wsX50, w ∈ wsX5_get := fun w h => List.mem_cons_of_mem _ (List.mem_append_right _ (h))
  refine r_lload_n 0 1 C dX5_get_0 rfl ?_
  refine r_lconst 1 0 C dX5_get_1 (by decide) ?_
  obtain ⟨z1, ez1⟩ : ∃ z_9, lg_cmp y0 0 = z_9 := ⟨_, rfl⟩
  have l1z1 : (Int32.toInt z1) < 0 ↔ (Int64.toInt y0) < 0 := by rw [← ez1]; exact lgI1 y0 0
  have l2z1 : 0 < (Int32.toInt z1) ↔ 0 < (Int64.toInt y0) := by rw [← ez1]; exact lgI2 y0 0
  refine r_lcmp 2 z1 C dX5_get_2 ez1 ?_
  refine r_if_lt 3 30 C dX5_get_3 (by decide) (fun c2 => ?_) (fun c2 => ?_)
  · skip
    have k3 : (Int32.toInt z1) < 0 := (fa_lt z1 0).mp c2
    refine r_iconst 30 (-1) C dX5_get_30 (by decide) ?_
    exact r_iret 31 Rt dX5_get_31 () (show -1 ≤ (Int32.toInt (-1)) ∧ (Int32.toInt (-1)) ≤ 255 from ⟨(by ((repeat' apply And.intro) <;> first | trivial | rfl | assumption | omega | decide | exact Or.inl rfl | exact Or.inr (Or.inl rfl) | exact Or.inr (Or.inr rfl))), (by ((repeat' apply And.intro) <;> first | trivial | rfl | assumption | omega | decide | exact Or.inl rfl | exact Or.inr (Or.inl rfl) | exact Or.inr (Or.inr rfl)))⟩) [0, 1] (by decide) rfl (Nat.le_of_ble_eq_true rfl) (Nat.le_of_ble_eq_true rfl)
  · skip
    have k4 : ¬ ((Int32.toInt z1) < 0) := fun h_9 => c2 ((fa_lt z1 0).mpr h_9)
    refine r_lload_n 6 1 C dX5_get_6 rfl ?_
    refine r_aload_n 7 0 C dX5_get_7 rfl ?_
    refine r_get 8 C dX5_get_8 (k := 1) 0 rfl rfl hiX5 (by decide) rfl (mg 1 rfl) (Or.inl rfl) rfl ?_
    obtain ⟨z5, ez5⟩ : ∃ z_9, Int32.toInt64 x0 = z_9 := ⟨_, rfl⟩
    have tz5 : (Int64.toInt z5) = (Int32.toInt x0) := by rw [← ez5]; exact Int32.toInt_toInt64 _
    refine r_i2l 11 z5 C dX5_get_11 ez5 ?_
    obtain ⟨z6, ez6⟩ : ∃ z_9, lg_cmp y0 z5 = z_9 := ⟨_, rfl⟩
    have l1z6 : (Int32.toInt z6) < 0 ↔ (Int64.toInt y0) < (Int64.toInt z5) := by rw [← ez6]; exact lgI1 y0 z5
    have l2z6 : 0 < (Int32.toInt z6) ↔ (Int64.toInt z5) < (Int64.toInt y0) := by rw [← ez6]; exact lgI2 y0 z5
    refine r_lcmp 12 z6 C dX5_get_12 ez6 ?_
    refine r_if_ge 13 30 C dX5_get_13 (by decide) (fun c7 => ?_) (fun c7 => ?_)
    · skip
      have k8 : 0 ≤ (Int32.toInt z6) := (fa_le 0 z6).mp c7
      refine r_iconst 30 (-1) C dX5_get_30 (by decide) ?_
      exact r_iret 31 Rt dX5_get_31 () (show -1 ≤ (Int32.toInt (-1)) ∧ (Int32.toInt (-1)) ≤ 255 from ⟨(by ((repeat' apply And.intro) <;> first | trivial | rfl | assumption | omega | decide | exact Or.inl rfl | exact Or.inr (Or.inl rfl) | exact Or.inr (Or.inr rfl))), (by ((repeat' apply And.intro) <;> first | trivial | rfl | assumption | omega | decide | exact Or.inl rfl | exact Or.inr (Or.inl rfl) | exact Or.inr (Or.inr rfl)))⟩) [0, 1] (by decide) rfl (Nat.le_of_ble_eq_true rfl) (Nat.le_of_ble_eq_true rfl)
    · skip
      have k9 : ¬ (0 ≤ (Int32.toInt z6)) := fun h_9 => c7 ((fa_le 0 z6).mpr h_9)
      refine r_aload_n 16 0 C dX5_get_16 rfl ?_
      refine r_get 17 C dX5_get_17 (k := 0) 0 rfl rfl hiX5 (by decide) rfl (mg 2 rfl) (Or.inl rfl) rfl ?_
      refine r_lload_n 20 1 C dX5_get_20 rfl ?_
      obtain ⟨z10, ez10⟩ : ∃ z_9, Int64.toInt32 y0 = z_9 := ⟨_, rfl⟩
      have tz10 : (Int32.toInt z10) = (Int64.toInt y0) := by rw [← ez10]; exact l2i_in (by omega) (by omega)
      refine r_l2i 21 z10 C dX5_get_21 ez10 ?_
      obtain ⟨z11, ez11⟩ : ∃ z_9, fn0 (Int32.toNatClampNeg z10) = z_9 := ⟨_, rfl⟩
      refine r_bald 22 z11 C dX5_get_22 1 rfl (vinI (by omega) (by omega)) ez11 ?_
      have gz11 := fb_rng z11
      refine r_sipush 23 255 C dX5_get_23 (by decide) ?_
      obtain ⟨z12, ez12⟩ : ∃ z_9, z11 &&& 255 = z_9 := ⟨_, rfl⟩
      have tz12 : 0 ≤ (Int32.toInt z12) ∧ (Int32.toInt z12) ≤ 255 := by rw [← ez12]; exact and_255 z11
      refine r_iand 26 z12 C dX5_get_26 ez12 ?_
      refine r_goto 27 31 C dX5_get_27 (by decide) ?_
      exact r_iret 31 Rt dX5_get_31 () (show -1 ≤ (Int32.toInt z12) ∧ (Int32.toInt z12) ≤ 255 from ⟨(iv_wide (c := (-1)) (d := 255) tz12 (by decide) (by decide)).1, (iv_wide (c := (-1)) (d := 255) tz12 (by decide) (by decide)).2⟩) [0, 1] (by decide) rfl (Nat.le_of_ble_eq_true rfl) (Nat.le_of_ble_eq_true rfl)
set_option maxHeartbeats 4000000 in
set_option maxRecDepth 100000 in
theorem c15_X5_add (l : Launch) (g : GD) (h0 : Nat) (h1 : Nat) (x0 : Int32) (x1 : Int32) (fn0 : Nat → Int32) (i_x1 : (0 ≤ (Int32.toInt x1) ∧ (Int32.toInt x1) ≤ 1508)) (sz : Nat) : Met l yX5_add wsX5_add ({ frames := 0, cells := 0, slots := 0, locals := 0 }) (va_Pc [.ref h0, .int x0] (PW g [(h0, .inr (4, [.ref h1, .int x1])), (h1, .inl (gB g, 1508, .inl fn0))] sz)) (va_Qv (fun (u : (Int32) × (Nat → Int32)) => ((1508 ≤ (Int32.toInt x1) ∧ (Int32.toInt (u.1)) = (Int32.toInt x1)) ∨ (¬ (1508 ≤ (Int32.toInt x1)) ∧ (Int32.toInt (u.1)) = (Int32.toInt x1) + 1)) ∧ 0 ≤ (Int32.toInt (u.1)) ∧ (Int32.toInt (u.1)) ≤ 1508) (BW g (va_A [(h0, .inr (4, [.ref h1, .int x1])), (h1, .inl (gB g, 1508, .inl fn0))] sz) (fun u : (Int32) × (Nat → Int32) => [(h0, .inr (4, [.ref h1, .int u.1])), (h1, .inl (gB g, 1508, .inl u.2))])) (va_A [(h0, .inr (4, [.ref h1, .int x1])), (h1, .inl (gB g, 1508, .inl fn0))] sz)) 0 0 (va_A [(h0, .inr (4, [.ref h1, .int x1])), (h1, .inl (gB g, 1508, .inl fn0))] sz) := by
  refine met_v RX5 (by decide) rfl rfl (Nat.le_of_ble_eq_true rfl) [(0, .ref h0), (1, .int x0)] rfl ?_
  intro p e s m args below meth c A Q C hnm Rt
  have hiX5 : ∀ w ∈ wsX50, w ∈ wsX5_add := fun w h => List.mem_cons_of_mem _ (List.mem_append_right _ (h))
  refine r_aload_n 0 0 C dX5_add_0 rfl ?_
  refine r_get 1 C dX5_add_1 (k := 1) 0 rfl rfl hiX5 (by decide) rfl (mg 1 rfl) (Or.inl rfl) rfl ?_
  refine r_aload_n 4 0 C dX5_add_4 rfl ?_
  refine r_get 5 C dX5_add_5 (k := 0) 0 rfl rfl hiX5 (by decide) rfl (mg 2 rfl) (Or.inl rfl) rfl ?_
  refine r_balen 8 1508 C dX5_add_8 1 rfl (by decide) ?_
  refine r_icmp_ge 9 33 C dX5_add_9 (by decide) (fun c1 => ?_) (fun c1 => ?_)
  · skip
    have k2 : 1508 ≤ (Int32.toInt x1) := (fa_le 1508 x1).mp c1
    exact r_vret 33 Rt dX5_add_33 (x1, fn0) (show ((1508 ≤ (Int32.toInt x1) ∧ (Int32.toInt x1) = (Int32.toInt x1)) ∨ (¬ (1508 ≤ (Int32.toInt x1)) ∧ (Int32.toInt x1) = (Int32.toInt x1) + 1)) ∧ 0 ≤ (Int32.toInt x1) ∧ (Int32.toInt x1) ≤ 1508 from by refine ⟨Or.inl ?_, ?_, ?_⟩ <;> ((repeat' apply And.intro) <;> first | trivial | rfl | assumption | omega | decide | exact Or.inl rfl | exact Or.inr (Or.inl rfl) | exact Or.inr (Or.inr rfl))) [0, 1] (by decide) rfl (Nat.le_of_ble_eq_true rfl) (Nat.le_of_ble_eq_true rfl)
  · skip
    have k3 : ¬ (1508 ≤ (Int32.toInt x1)) := fun h_9 => c1 ((fa_le 1508 x1).mpr h_9)
    refine r_aload_n 12 0 C dX5_add_12 rfl ?_
    refine r_get 13 C dX5_add_13 (k := 0) 0 rfl rfl hiX5 (by decide) rfl (mg 2 rfl) (Or.inl rfl) rfl ?_
    refine r_aload_n 16 0 C dX5_add_16 rfl ?_
    refine r_get 17 C dX5_add_17 (k := 1) 0 rfl rfl hiX5 (by decide) rfl (mg 1 rfl) (Or.inl rfl) rfl ?_
    refine r_iload_n 20 1 C dX5_add_20 rfl ?_
    obtain ⟨z4, ez4⟩ : ∃ z_9, (Int32.toInt8 x0).toInt32 = z_9 := ⟨_, rfl⟩
    have gz4 := fb_rng z4
    refine r_i2b 21 z4 C dX5_add_21 ez4 ?_
    obtain ⟨f5, ef5⟩ : ∃ f_9, upd fn0 (Int32.toNatClampNeg x1) (vp_nar .byte z4) = f_9 := ⟨_, rfl⟩
    refine r_bast 22 C dX5_add_22 1 rfl (vinI (by omega) (by omega)) f5 ef5 [(h0, .inr (4, [.ref h1, .int x1])), (h1, .inl (gB g, 1508, .inl f5))] rfl ?_
    refine r_aload_n 23 0 C dX5_add_23 rfl ?_
    refine r_dup 24 C dX5_add_24 rfl ?_
    refine r_get 25 C dX5_add_25 (k := 1) 0 rfl rfl hiX5 (by decide) rfl (mg 1 rfl) (Or.inl rfl) rfl ?_
    refine r_iconst 28 1 C dX5_add_28 (by decide) ?_
    obtain ⟨z6, ez6⟩ : ∃ z_9, x1 + 1 = z_9 := ⟨_, rfl⟩
    have tz6 : (Int32.toInt z6) = (Int32.toInt x1) + 1 := by rw [← ez6]; exact fb_addIv (a := 0) (b := 1508) (c := 1) (d := 1) i_x1 ⟨by decide, by decide⟩ (by decide) (by decide)
    refine r_iadd 29 z6 C dX5_add_29 ez6 ?_
    refine r_put 30 C dX5_add_30 (k := 1) 0 rfl rfl hiX5 tyX5 tyX5_ok nmX5 (by decide) rfl (mg 1 rfl) (Or.inl rfl) rfl rfl rfl rfl (Nat.le_of_ble_eq_true rfl) [(h0, .inr (4, [.ref h1, .int z6])), (h1, .inl (gB g, 1508, .inl f5))] rfl ?_
    exact r_vret 33 Rt dX5_add_33 (z6, f5) (show ((1508 ≤ (Int32.toInt x1) ∧ (Int32.toInt z6) = (Int32.toInt x1)) ∨ (¬ (1508 ≤ (Int32.toInt x1)) ∧ (Int32.toInt z6) = (Int32.toInt x1) + 1)) ∧ 0 ≤ (Int32.toInt z6) ∧ (Int32.toInt z6) ≤ 1508 from by refine ⟨Or.inr (?_), ?_, ?_⟩ <;> ((repeat' apply And.intro) <;> first | trivial | rfl | assumption | omega | decide | exact Or.inl rfl | exact Or.inr (Or.inl rfl) | exact Or.inr (Or.inr rfl))) [0, 1] (by decide) rfl (Nat.le_of_ble_eq_true rfl) (Nat.le_of_ble_eq_true rfl)
set_option maxHeartbeats 4000000 in
set_option maxRecDepth 100000 in
theorem c16_X5_addAll (l : Launch) (g : GD) (h0 : Nat) (h1 : Nat) (h2 : Nat) (h3 : Nat) (x0 : Int32) (x1 : Int32) (x2 : Int32) (fn0 : Nat → Int32) (fn1 : Nat → Int32) (i_x1 : (0 ≤ (Int32.toInt x1) ∧ (Int32.toInt x1) ≤ 1508)) (i_x2 : (0 ≤ (Int32.toInt x2) ∧ (Int32.toInt x2) ≤ 1500)) (sz : Nat) : Met l yX5_addAll wsX5_addAll ({ frames := 1, cells := 0, slots := 0, locals := 22 }) (va_Pc [.ref h0, .ref h1, .int x0] (PW g [(h0, .inr (4, [.ref h2, .int x1])), (h1, .inr (4, [.ref h3, .int x2])), (h2, .inl (gB g, 1508, .inl fn0)), (h3, .inl (gB g, 1500, .inl fn1))] sz)) (va_Qv (fun (u : (Int32) × (Nat → Int32)) => 0 ≤ (Int32.toInt (u.1)) ∧ (Int32.toInt (u.1)) ≤ 1508 ∧ (((Int32.toInt x0) ≤ 0 ∧ (((Int32.toInt x2) ≤ 0 ∧ (Int32.toInt (u.1)) = (Int32.toInt x1)) ∨ (0 < (Int32.toInt x2) ∧ (Int32.toInt x1) + (Int32.toInt x2) ≤ 1508 ∧ (Int32.toInt (u.1)) = (Int32.toInt x1) + (Int32.toInt x2)) ∨ 1508 < (Int32.toInt x1) + (Int32.toInt x2))) ∨ (0 ≤ (Int32.toInt x0) ∧ (((Int32.toInt x2) ≤ (Int32.toInt x0) ∧ (Int32.toInt (u.1)) = (Int32.toInt x1)) ∨ ((Int32.toInt x0) < (Int32.toInt x2) ∧ (Int32.toInt x1) + (Int32.toInt x2) - (Int32.toInt x0) ≤ 1508 ∧ (Int32.toInt (u.1)) = (Int32.toInt x1) + (Int32.toInt x2) - (Int32.toInt x0)) ∨ 1508 < (Int32.toInt x1) + (Int32.toInt x2) - (Int32.toInt x0))))) (BW g (va_A [(h0, .inr (4, [.ref h2, .int x1])), (h1, .inr (4, [.ref h3, .int x2])), (h2, .inl (gB g, 1508, .inl fn0)), (h3, .inl (gB g, 1500, .inl fn1))] sz) (fun u : (Int32) × (Nat → Int32) => [(h0, .inr (4, [.ref h2, .int u.1])), (h1, .inr (4, [.ref h3, .int x2])), (h2, .inl (gB g, 1508, .inl u.2)), (h3, .inl (gB g, 1500, .inl fn1))])) (va_A [(h0, .inr (4, [.ref h2, .int x1])), (h1, .inr (4, [.ref h3, .int x2])), (h2, .inl (gB g, 1508, .inl fn0)), (h3, .inl (gB g, 1500, .inl fn1))] sz)) 0 0 (va_A [(h0, .inr (4, [.ref h2, .int x1])), (h1, .inr (4, [.ref h3, .int x2])), (h2, .inl (gB g, 1508, .inl fn0)), (h3, .inl (gB g, 1500, .inl fn1))] sz) := by
  refine met_v RX5 (by decide) rfl rfl (Nat.le_of_ble_eq_true rfl) [(0, .ref h0), (1, .ref h1), (2, .int x0)] rfl ?_
  intro p e s m args below meth c A Q C hnm Rt
  have gx0 := fb_rng x0
  have hiX5 : ∀ w ∈ wsX50, w ∈ wsX5_addAll := fun w h => List.mem_cons_of_mem _ (List.mem_append_right _ (h))
  refine r_iload_n 0 2 C dX5_addAll_0 rfl ?_
  refine r_iconst 1 0 C dX5_addAll_1 (by decide) ?_
  obtain ⟨z1, ez1⟩ : ∃ z_9, (if x0 < 0 then 0 else x0) = z_9 := ⟨_, rfl⟩
  have tz1 : ((Int32.toInt x0) < 0 ∧ (Int32.toInt z1) = 0) ∨ (¬ ((Int32.toInt x0) < 0) ∧ (Int32.toInt z1) = (Int32.toInt x0)) := by rw [← ez1]; exact mx_or x0 0 0 x0
  refine r_mmax 2 z1 C dX5_addAll_2 (mg 1 rfl) (mg 2 rfl) (mg 3 rfl) (mg 4 rfl) (Nat.le_of_ble_eq_true rfl) (Nat.le_of_ble_eq_true rfl) (Nat.le_of_ble_eq_true rfl) (Nat.le_of_ble_eq_true rfl) ez1 ?_
  refine r_istore_n 5 C dX5_addAll_5 [(3, .int z1), (0, .ref h0), (1, .ref h1), (2, .int x0)] (by decide) rfl ?_
  have lp6 : ∀ (n5 : Nat) (z2 : Int32) (z3 : Int32) (f4 : Nat → Int32), (0 ≤ (Int32.toInt z2) ∧ (Int32.toInt z2) ≤ 2147483647) → (0 ≤ (Int32.toInt z3) ∧ (Int32.toInt z3) ≤ 1508) → (((Int32.toInt x0) ≤ 0 ∧ ((Int32.toInt z3) = (Int32.toInt x1) + (Int32.toInt z2) ∨ ((Int32.toInt z3) = 1508 ∧ 1508 ≤ (Int32.toInt x1) + (Int32.toInt z2))) ∧ ((Int32.toInt z2) ≤ (Int32.toInt x2) ∨ (Int32.toInt z2) = 0)) ∨ (0 ≤ (Int32.toInt x0) ∧ ((Int32.toInt z3) = (Int32.toInt x1) + (Int32.toInt z2) - (Int32.toInt x0) ∨ ((Int32.toInt z3) = 1508 ∧ 1508 ≤ (Int32.toInt x1) + (Int32.toInt z2) - (Int32.toInt x0))) ∧ (Int32.toInt x0) ≤ (Int32.toInt z2) ∧ ((Int32.toInt z2) ≤ (Int32.toInt x2) ∨ (Int32.toInt z2) = (Int32.toInt x0)))) → Int.toNat (2147483647 - (Int32.toInt z2)) < n5 → WW p l e ({ frames := 1, cells := 0, slots := 0, locals := 22 } : Room) s m args below meth c A Q g 4 0 0 [(h0, .inr (4, [.ref h2, .int z3])), (h1, .inr (4, [.ref h3, .int x2])), (h2, .inl (gB g, 1508, .inl f4)), (h3, .inl (gB g, 1500, .inl fn1))] 6 [(3, .int z2), (0, .ref h0), (1, .ref h1), (2, .int x0)] [] := by
    intro n5
    induction n5 with
    | zero => intro z2 z3 f4 i9 i10 j11 hm8; exact absurd hm8 (Nat.not_lt_zero _)
    | succ n5 ih7 =>
      intro z2 z3 f4 i9 i10 j11 hm8
      obtain ⟨i9a, i9b⟩ := i9
      obtain ⟨i10a, i10b⟩ := i10
      refine r_iload_n 6 0 C dX5_addAll_6 rfl ?_
      refine r_aload_n 7 2 C dX5_addAll_7 rfl ?_
      refine r_get 8 C dX5_addAll_8 (k := 1) 1 rfl rfl hiX5 (by decide) rfl (mg 5 rfl) (Or.inl rfl) rfl ?_
      refine r_icmp_ge 11 30 C dX5_addAll_11 (by decide) (fun c12 => ?_) (fun c12 => ?_)
      · skip
        have k13 : (Int32.toInt x2) ≤ (Int32.toInt z2) := (fa_le x2 z2).mp c12
        exact r_vret 30 Rt dX5_addAll_30 (z3, f4) (show 0 ≤ (Int32.toInt z3) ∧ (Int32.toInt z3) ≤ 1508 ∧ (((Int32.toInt x0) ≤ 0 ∧ (((Int32.toInt x2) ≤ 0 ∧ (Int32.toInt z3) = (Int32.toInt x1)) ∨ (0 < (Int32.toInt x2) ∧ (Int32.toInt x1) + (Int32.toInt x2) ≤ 1508 ∧ (Int32.toInt z3) = (Int32.toInt x1) + (Int32.toInt x2)) ∨ 1508 < (Int32.toInt x1) + (Int32.toInt x2))) ∨ (0 ≤ (Int32.toInt x0) ∧ (((Int32.toInt x2) ≤ (Int32.toInt x0) ∧ (Int32.toInt z3) = (Int32.toInt x1)) ∨ ((Int32.toInt x0) < (Int32.toInt x2) ∧ (Int32.toInt x1) + (Int32.toInt x2) - (Int32.toInt x0) ≤ 1508 ∧ (Int32.toInt z3) = (Int32.toInt x1) + (Int32.toInt x2) - (Int32.toInt x0)) ∨ 1508 < (Int32.toInt x1) + (Int32.toInt x2) - (Int32.toInt x0)))) from ⟨(show _ ∧ _ from ⟨i10a, i10b⟩).1, (show _ ∧ _ from ⟨i10a, i10b⟩).2, (by ((repeat' apply And.intro) <;> first | trivial | rfl | assumption | omega | decide | exact Or.inl rfl | exact Or.inr (Or.inl rfl) | exact Or.inr (Or.inr rfl)))⟩) [0, 1, 2, 3] (by decide) rfl (Nat.le_of_ble_eq_true rfl) (Nat.le_of_ble_eq_true rfl)
      · skip
        have k14 : ¬ ((Int32.toInt x2) ≤ (Int32.toInt z2)) := fun h_9 => c12 ((fa_le x2 z2).mpr h_9)
        refine r_aload_n 14 1 C dX5_addAll_14 rfl ?_
        refine r_aload_n 15 2 C dX5_addAll_15 rfl ?_
        refine r_iload_n 16 0 C dX5_addAll_16 rfl ?_
        obtain ⟨z15, ez15⟩ : ∃ z_9, Int32.toInt64 z2 = z_9 := ⟨_, rfl⟩
        have tz15 : (Int64.toInt z15) = (Int32.toInt z2) := by rw [← ez15]; exact Int32.toInt_toInt64 _
        refine r_i2l 17 z15 C dX5_addAll_17 ez15 ?_
        refine r_callVi 18 C dX5_addAll_18 [.ref h0] [(h1, .inr (4, [.ref h3, .int x2])), (h3, .inl (gB g, 1500, .inl fn1))] [(h0, .inr (4, [.ref h2, .int z3])), (h2, .inl (gB g, 1508, .inl f4))] (fun sz => c14_X5_get l g h1 h3 z15 x2 fn1 i_x2 sz) gX5_addAll_X5_get rfl ⟨rfl, rfl⟩ 1 (by decide) ⟨Nat.le_of_ble_eq_true rfl, Nat.le_of_ble_eq_true rfl⟩ 1 rfl rfl [1, 3] [0, 2] rfl rfl (by decide) (by decide) (by decide) rfl rfl (Nat.le_of_ble_eq_true rfl) ⟨Nat.le_of_ble_eq_true rfl, Nat.le_of_ble_eq_true rfl⟩ (fun r16 _ w17 => ?_)
        refine r_ws [(h0, .inr (4, [.ref h2, .int z3])), (h2, .inl (gB g, 1508, .inl f4)), (h1, .inr (4, [.ref h3, .int x2])), (h3, .inl (gB g, 1500, .inl fn1))] rfl ?_
        have p18 : -1 ≤ (Int32.toInt r16) := w17.1
        have p19 : (Int32.toInt r16) ≤ 255 := w17.2
        refine r_callVv 21 C dX5_addAll_21 [] [(h0, .inr (4, [.ref h2, .int z3])), (h2, .inl (gB g, 1508, .inl f4))] [(h1, .inr (4, [.ref h3, .int x2])), (h3, .inl (gB g, 1500, .inl fn1))] (fun sz => c15_X5_add l g h0 h2 r16 z3 f4 ⟨i10a, i10b⟩ sz) gX5_addAll_X5_add rfl ⟨rfl, rfl⟩ 1 (by decide) ⟨Nat.le_of_ble_eq_true rfl, Nat.le_of_ble_eq_true rfl⟩ 0 rfl rfl [0, 1] [2, 3] rfl rfl (by decide) (by decide) (by decide) rfl rfl (Nat.le_of_ble_eq_true rfl) ⟨Nat.le_of_ble_eq_true rfl, Nat.le_of_ble_eq_true rfl⟩ (fun  u23 w22 => ?_)
        obtain ⟨z20, f21⟩ := u23
        refine r_ws [(h1, .inr (4, [.ref h3, .int x2])), (h3, .inl (gB g, 1500, .inl fn1)), (h0, .inr (4, [.ref h2, .int z20])), (h2, .inl (gB g, 1508, .inl f21))] rfl ?_
        have p24 : 0 ≤ (Int32.toInt z20) := w22.2.1
        have p25 : (Int32.toInt z20) ≤ 1508 := w22.2.2
        have w26 : ((1508 ≤ (Int32.toInt z3) ∧ (Int32.toInt z20) = (Int32.toInt z3)) ∨ (¬ (1508 ≤ (Int32.toInt z3)) ∧ (Int32.toInt z20) = (Int32.toInt z3) + 1)) := w22.1
        rcases w26 with ⟨k27, k28⟩ | w26
        · skip
          obtain ⟨z29, ez29⟩ : ∃ z_9, z2 + Int32.ofInt 1 = z_9 := ⟨_, rfl⟩
          have tz29 : (Int32.toInt z29) = (Int32.toInt z2) + 1 := by rw [← ez29]; exact fb_addI (by show -2147483648 ≤ (Int32.toInt z2) + 1; omega) (by show (Int32.toInt z2) + 1 < 2147483648; omega)
          refine r_iinc 24 0 z29 C dX5_addAll_24 rfl ez29 [(3, .int z29), (0, .ref h0), (1, .ref h1), (2, .int x0)] (by decide) rfl ?_
          refine r_goto 27 6 C dX5_addAll_27 (by decide) ?_
          refine r_pick [(h0, .inr (4, [.ref h2, .int z20])), (h1, .inr (4, [.ref h3, .int x2])), (h2, .inl (gB g, 1508, .inl f21)), (h3, .inl (gB g, 1500, .inl fn1))] [2, 0, 3, 1] (by decide) rfl ?_
          exact ih7 z29 z20 f21 ⟨by omega, by omega⟩ ⟨p24, p25⟩ (by show ((Int32.toInt x0) ≤ 0 ∧ ((Int32.toInt z20) = (Int32.toInt x1) + (Int32.toInt z29) ∨ ((Int32.toInt z20) = 1508 ∧ 1508 ≤ (Int32.toInt x1) + (Int32.toInt z29))) ∧ ((Int32.toInt z29) ≤ (Int32.toInt x2) ∨ (Int32.toInt z29) = 0)) ∨ (0 ≤ (Int32.toInt x0) ∧ ((Int32.toInt z20) = (Int32.toInt x1) + (Int32.toInt z29) - (Int32.toInt x0) ∨ ((Int32.toInt z20) = 1508 ∧ 1508 ≤ (Int32.toInt x1) + (Int32.toInt z29) - (Int32.toInt x0))) ∧ (Int32.toInt x0) ≤ (Int32.toInt z29) ∧ ((Int32.toInt z29) ≤ (Int32.toInt x2) ∨ (Int32.toInt z29) = (Int32.toInt x0))); omega) (by omega)
        obtain ⟨k30, k31⟩ := w26
        obtain ⟨z32, ez32⟩ : ∃ z_9, z2 + Int32.ofInt 1 = z_9 := ⟨_, rfl⟩
        have tz32 : (Int32.toInt z32) = (Int32.toInt z2) + 1 := by rw [← ez32]; exact fb_addI (by show -2147483648 ≤ (Int32.toInt z2) + 1; omega) (by show (Int32.toInt z2) + 1 < 2147483648; omega)
        refine r_iinc 24 0 z32 C dX5_addAll_24 rfl ez32 [(3, .int z32), (0, .ref h0), (1, .ref h1), (2, .int x0)] (by decide) rfl ?_
        refine r_goto 27 6 C dX5_addAll_27 (by decide) ?_
        refine r_pick [(h0, .inr (4, [.ref h2, .int z20])), (h1, .inr (4, [.ref h3, .int x2])), (h2, .inl (gB g, 1508, .inl f21)), (h3, .inl (gB g, 1500, .inl fn1))] [2, 0, 3, 1] (by decide) rfl ?_
        exact ih7 z32 z20 f21 ⟨by omega, by omega⟩ ⟨p24, p25⟩ (by show ((Int32.toInt x0) ≤ 0 ∧ ((Int32.toInt z20) = (Int32.toInt x1) + (Int32.toInt z32) ∨ ((Int32.toInt z20) = 1508 ∧ 1508 ≤ (Int32.toInt x1) + (Int32.toInt z32))) ∧ ((Int32.toInt z32) ≤ (Int32.toInt x2) ∨ (Int32.toInt z32) = 0)) ∨ (0 ≤ (Int32.toInt x0) ∧ ((Int32.toInt z20) = (Int32.toInt x1) + (Int32.toInt z32) - (Int32.toInt x0) ∨ ((Int32.toInt z20) = 1508 ∧ 1508 ≤ (Int32.toInt x1) + (Int32.toInt z32) - (Int32.toInt x0))) ∧ (Int32.toInt x0) ≤ (Int32.toInt z32) ∧ ((Int32.toInt z32) ≤ (Int32.toInt x2) ∨ (Int32.toInt z32) = (Int32.toInt x0))); omega) (by omega)
  exact lp6 _ z1 x1 fn0 ⟨by omega, by omega⟩ i_x1 (by show ((Int32.toInt x0) ≤ 0 ∧ ((Int32.toInt x1) = (Int32.toInt x1) + (Int32.toInt z1) ∨ ((Int32.toInt x1) = 1508 ∧ 1508 ≤ (Int32.toInt x1) + (Int32.toInt z1))) ∧ ((Int32.toInt z1) ≤ (Int32.toInt x2) ∨ (Int32.toInt z1) = 0)) ∨ (0 ≤ (Int32.toInt x0) ∧ ((Int32.toInt x1) = (Int32.toInt x1) + (Int32.toInt z1) - (Int32.toInt x0) ∨ ((Int32.toInt x1) = 1508 ∧ 1508 ≤ (Int32.toInt x1) + (Int32.toInt z1) - (Int32.toInt x0))) ∧ (Int32.toInt x0) ≤ (Int32.toInt z1) ∧ ((Int32.toInt z1) ≤ (Int32.toInt x2) ∨ (Int32.toInt z1) = (Int32.toInt x0))); omega) (Nat.lt_succ_self _)
set_option maxHeartbeats 4000000 in
set_option maxRecDepth 100000 in
theorem c17_X5_nextKey (l : Launch) (g : GD) (x0 : Int32) (x1 : Int32) (sz : Nat) : Met l yX5_nextKey wsX5_nextKey ({ frames := 0, cells := 0, slots := 0, locals := 0 }) (va_Pc [.int x0, .int x1] (PW g [] sz)) (va_Qi (fun (r : Int32) (_ : Unit) => 0 ≤ (Int32.toInt r) ∧ (Int32.toInt r) ≤ 65535) (BW g (va_A [] sz) (fun _ : Unit => [])) (va_A [] sz)) 0 0 (va_A [] sz) := by
  refine met_i RX5 (by decide) rfl rfl (Nat.le_of_ble_eq_true rfl) [(0, .int x0), (1, .int x1)] rfl ?_
  intro p e s m args below meth c A Q C hnm Rt
  refine r_iload_n 0 0 C dX5_nextKey_0 rfl ?_
  refine r_iload_n 1 1 C dX5_nextKey_1 rfl ?_
  obtain ⟨z1, ez1⟩ : ∃ z_9, x0 + x1 = z_9 := ⟨_, rfl⟩
  have gz1 := fb_rng z1
  refine r_iadd 2 z1 C dX5_nextKey_2 ez1 ?_
  refine r_ldc 3 52845 C dX5_nextKey_3 (mg 1 rfl) ?_
  obtain ⟨z2, ez2⟩ : ∃ z_9, z1 * 52845 = z_9 := ⟨_, rfl⟩
  have gz2 := fb_rng z2
  refine r_imul 5 z2 C dX5_nextKey_5 ez2 ?_
  refine r_sipush 6 22719 C dX5_nextKey_6 (by decide) ?_
  obtain ⟨z3, ez3⟩ : ∃ z_9, z2 + 22719 = z_9 := ⟨_, rfl⟩
  have gz3 := fb_rng z3
  refine r_iadd 9 z3 C dX5_nextKey_9 ez3 ?_
  refine r_ldc 10 65535 C dX5_nextKey_10 (mg 2 rfl) ?_
  obtain ⟨z4, ez4⟩ : ∃ z_9, z3 &&& 65535 = z_9 := ⟨_, rfl⟩
  have tz4 : 0 ≤ (Int32.toInt z4) ∧ (Int32.toInt z4) ≤ 65535 := by rw [← ez4]; exact and_65535 z3
  refine r_iand 12 z4 C dX5_nextKey_12 ez4 ?_
  exact r_iret 13 Rt dX5_nextKey_13 () (show 0 ≤ (Int32.toInt z4) ∧ (Int32.toInt z4) ≤ 65535 from ⟨tz4.1, tz4.2⟩) [] (by decide) rfl (Nat.le_of_ble_eq_true rfl) (Nat.le_of_ble_eq_true rfl)
set_option maxHeartbeats 4000000 in
set_option maxRecDepth 100000 in
theorem c18_X5_encipher (l : Launch) (g : GD) (h0 : Nat) (h1 : Nat) (x0 : Int32) (x1 : Int32) (fn0 : Nat → Int32) (i_x1 : (0 ≤ (Int32.toInt x1) ∧ (Int32.toInt x1) ≤ 1508)) (sz : Nat) : Met l yX5_encipher wsX5_encipher ({ frames := 1, cells := 0, slots := 0, locals := 21 }) (va_Pc [.ref h0, .int x0] (PW g [(h0, .inr (4, [.ref h1, .int x1])), (h1, .inl (gB g, 1508, .inl fn0))] sz)) (va_Qv (fun (u : (Nat → Int32)) => True) (BW g (va_A [(h0, .inr (4, [.ref h1, .int x1])), (h1, .inl (gB g, 1508, .inl fn0))] sz) (fun u : (Nat → Int32) => [(h0, .inr (4, [.ref h1, .int x1])), (h1, .inl (gB g, 1508, .inl u))])) (va_A [(h0, .inr (4, [.ref h1, .int x1])), (h1, .inl (gB g, 1508, .inl fn0))] sz)) 0 0 (va_A [(h0, .inr (4, [.ref h1, .int x1])), (h1, .inl (gB g, 1508, .inl fn0))] sz) := by
  refine met_v RX5 (by decide) rfl rfl (Nat.le_of_ble_eq_true rfl) [(0, .ref h0), (1, .int x0)] rfl ?_
  intro p e s m args below meth c A Q C hnm Rt
  have hiX5 : ∀ w ∈ wsX50, w ∈ wsX5_encipher := fun w h => List.mem_cons_of_mem _ (List.mem_append_right _ (h))
  refine r_iload_n 0 1 C dX5_encipher_0 rfl ?_
  refine r_istore_n 1 C dX5_encipher_1 [(2, .int x0), (0, .ref h0), (1, .int x0)] (by decide) rfl ?_
  refine r_iconst 2 0 C dX5_encipher_2 (by decide) ?_
  refine r_istore_n 3 C dX5_encipher_3 [(3, .int 0), (2, .int x0), (0, .ref h0), (1, .int x0)] (by decide) rfl ?_
  have lp5 : ∀ (n4 : Nat) (z1 : Int32) (z2 : Int32) (f3 : Nat → Int32), (0 ≤ (Int32.toInt z1) ∧ (Int32.toInt z1) ≤ 1508) → Int.toNat (1508 - (Int32.toInt z1)) < n4 → WW p l e ({ frames := 1, cells := 0, slots := 0, locals := 21 } : Room) s m args below meth c A Q g 5 0 0 [(h0, .inr (4, [.ref h1, .int x1])), (h1, .inl (gB g, 1508, .inl f3))] 4 [(3, .int z1), (2, .int z2), (0, .ref h0), (1, .int x0)] [] := by
    intro n4
    induction n4 with
    | zero => intro z1 z2 f3 i8 hm7; exact absurd hm7 (Nat.not_lt_zero _)
    | succ n4 ih6 =>
      intro z1 z2 f3 i8 hm7
      obtain ⟨i8a, i8b⟩ := i8
      have gz2 := fb_rng z2
      refine r_iload_n 4 0 C dX5_encipher_4 rfl ?_
      refine r_aload_n 5 2 C dX5_encipher_5 rfl ?_
      refine r_get 6 C dX5_encipher_6 (k := 1) 0 rfl rfl hiX5 (by decide) rfl (mg 1 rfl) (Or.inl rfl) rfl ?_
      refine r_icmp_ge 9 51 C dX5_encipher_9 (by decide) (fun c9 => ?_) (fun c9 => ?_)
      · skip
        have k10 : (Int32.toInt x1) ≤ (Int32.toInt z1) := (fa_le x1 z1).mp c9
        exact r_vret 51 Rt dX5_encipher_51 f3 trivial [0, 1] (by decide) rfl (Nat.le_of_ble_eq_true rfl) (Nat.le_of_ble_eq_true rfl)
      · skip
        have k11 : ¬ ((Int32.toInt x1) ≤ (Int32.toInt z1)) := fun h_9 => c9 ((fa_le x1 z1).mpr h_9)
        refine r_aload_n 12 2 C dX5_encipher_12 rfl ?_
        refine r_get 13 C dX5_encipher_13 (k := 0) 0 rfl rfl hiX5 (by decide) rfl (mg 2 rfl) (Or.inl rfl) rfl ?_
        refine r_iload_n 16 0 C dX5_encipher_16 rfl ?_
        obtain ⟨z12, ez12⟩ : ∃ z_9, f3 (Int32.toNatClampNeg z1) = z_9 := ⟨_, rfl⟩
        refine r_bald 17 z12 C dX5_encipher_17 1 rfl (vinI (by omega) (by omega)) ez12 ?_
        have gz12 := fb_rng z12
        refine r_sipush 18 255 C dX5_encipher_18 (by decide) ?_
        obtain ⟨z13, ez13⟩ : ∃ z_9, z12 &&& 255 = z_9 := ⟨_, rfl⟩
        have tz13 : 0 ≤ (Int32.toInt z13) ∧ (Int32.toInt z13) ≤ 255 := by rw [← ez13]; exact and_255 z12
        refine r_iand 21 z13 C dX5_encipher_21 ez13 ?_
        refine r_iload_n 22 1 C dX5_encipher_22 rfl ?_
        refine r_bipush 23 8 C dX5_encipher_23 (by decide) ?_
        obtain ⟨z14, ez14⟩ : ∃ z_9, z2 >>> (8 &&& 31) = z_9 := ⟨_, rfl⟩
        have tz14 : (Int32.toInt z14) = (Int32.toInt z2) / 256 := by rw [← ez14]; exact shr_8 z2
        refine r_ishr 25 z14 C dX5_encipher_25 ez14 ?_
        obtain ⟨z15, ez15⟩ : ∃ z_9, z13 ^^^ z14 = z_9 := ⟨_, rfl⟩
        have gz15 := fb_rng z15
        refine r_ixor 26 z15 C dX5_encipher_26 ez15 ?_
        refine r_istore 27 C dX5_encipher_27 [(4, .int z15), (3, .int z1), (2, .int z2), (0, .ref h0), (1, .int x0)] (by decide) rfl ?_
        refine r_aload_n 29 3 C dX5_encipher_29 rfl ?_
        refine r_get 30 C dX5_encipher_30 (k := 0) 0 rfl rfl hiX5 (by decide) rfl (mg 2 rfl) (Or.inl rfl) rfl ?_
        refine r_iload_n 33 1 C dX5_encipher_33 rfl ?_
        refine r_iload 34 0 C dX5_encipher_34 rfl ?_
        obtain ⟨z16, ez16⟩ : ∃ z_9, (Int32.toInt8 z15).toInt32 = z_9 := ⟨_, rfl⟩
        have gz16 := fb_rng z16
        refine r_i2b 36 z16 C dX5_encipher_36 ez16 ?_
        obtain ⟨f17, ef17⟩ : ∃ f_9, upd f3 (Int32.toNatClampNeg z1) (vp_nar .byte z16) = f_9 := ⟨_, rfl⟩
        refine r_bast 37 C dX5_encipher_37 1 rfl (vinI (by omega) (by omega)) f17 ef17 [(h0, .inr (4, [.ref h1, .int x1])), (h1, .inl (gB g, 1508, .inl f17))] rfl ?_
        refine r_iload 38 0 C dX5_encipher_38 rfl ?_
        refine r_iload_n 40 2 C dX5_encipher_40 rfl ?_
        refine r_callSi 41 C dX5_encipher_41 [] [] [(h0, .inr (4, [.ref h1, .int x1])), (h1, .inl (gB g, 1508, .inl f17))] (fun sz => c17_X5_nextKey l g z15 z2  sz) gX5_encipher_X5_nextKey rfl ⟨rfl, rfl⟩ 2 (by decide) ⟨Nat.le_of_ble_eq_true rfl, Nat.le_of_ble_eq_true rfl⟩ [] [0, 1] rfl rfl (by decide) (by decide) (by decide) rfl rfl (Nat.le_of_ble_eq_true rfl) ⟨Nat.le_of_ble_eq_true rfl, Nat.le_of_ble_eq_true rfl⟩ (fun r18 _ w19 => ?_)
        refine r_ws [(h0, .inr (4, [.ref h1, .int x1])), (h1, .inl (gB g, 1508, .inl f17))] rfl ?_
        have p20 : 0 ≤ (Int32.toInt r18) := w19.1
        have p21 : (Int32.toInt r18) ≤ 65535 := w19.2
        refine r_istore_n 44 C dX5_encipher_44 [(2, .int r18), (4, .int z15), (3, .int z1), (0, .ref h0), (1, .int x0)] (by decide) rfl ?_
        obtain ⟨z22, ez22⟩ : ∃ z_9, z1 + Int32.ofInt 1 = z_9 := ⟨_, rfl⟩
        have tz22 : (Int32.toInt z22) = (Int32.toInt z1) + 1 := by rw [← ez22]; exact fb_addIv (a := 0) (b := 1508) (c := 1) (d := 1) ⟨i8a, i8b⟩ ⟨by decide, by decide⟩ (by decide) (by decide)
        refine r_iinc 45 2 z22 C dX5_encipher_45 rfl ez22 [(3, .int z22), (2, .int r18), (4, .int z15), (0, .ref h0), (1, .int x0)] (by decide) rfl ?_
        refine r_goto 48 4 C dX5_encipher_48 (by decide) ?_
        refine r_lv [(3, .int z22), (2, .int r18), (0, .ref h0), (1, .int x0)] [0, 1, 3, 4] rfl ?_
        exact ih6 z22 r18 f17 ⟨by omega, by omega⟩ (by omega)
  exact lp5 _ 0 x0 fn0 (by decide) (Nat.lt_succ_self _)
set_option maxHeartbeats 4000000 in
set_option maxRecDepth 100000 in
theorem c19_X5_size (l : Launch) (g : GD) (h0 : Nat) (h1 : Nat) (x0 : Int32) (i_x0 : (0 ≤ (Int32.toInt x0) ∧ (Int32.toInt x0) ≤ 1508)) (sz : Nat) : Met l yX5_size wsX5_size ({ frames := 0, cells := 0, slots := 0, locals := 0 }) (va_Pc [.ref h0] (PW g [(h0, .inr (4, [.ref h1, .int x0]))] sz)) (va_Qi (fun (r : Int32) (_ : Unit) => r = x0) (BW g (va_A [(h0, .inr (4, [.ref h1, .int x0]))] sz) (fun _ : Unit => [(h0, .inr (4, [.ref h1, .int x0]))])) (va_A [(h0, .inr (4, [.ref h1, .int x0]))] sz)) 0 0 (va_A [(h0, .inr (4, [.ref h1, .int x0]))] sz) := by
  refine met_i RX5 (by decide) rfl rfl (Nat.le_of_ble_eq_true rfl) [(0, .ref h0)] rfl ?_
  intro p e s m args below meth c A Q C hnm Rt
  have hiX5 : ∀ w ∈ wsX50, w ∈ wsX5_size := fun w h => List.mem_cons_of_mem _ (List.mem_append_right _ (h))
  refine r_aload_n 0 0 C dX5_size_0 rfl ?_
  refine r_get 1 C dX5_size_1 (k := 1) 0 rfl rfl hiX5 (by decide) rfl (mg 1 rfl) (Or.inl rfl) rfl ?_
  exact r_iret 4 Rt dX5_size_4 () (show x0 = x0 from (by ((repeat' apply And.intro) <;> first | trivial | rfl | assumption | omega | decide | exact Or.inl rfl | exact Or.inr (Or.inl rfl) | exact Or.inr (Or.inr rfl)))) [0] (by decide) rfl (Nat.le_of_ble_eq_true rfl) (Nat.le_of_ble_eq_true rfl)
set_option maxHeartbeats 4000000 in
set_option maxRecDepth 100000 in
theorem c20_X11_cipher (l : Launch) (g : GD) (h0 : Nat) (h1 : Nat) (h2 : Nat) (h3 : Nat) (h4 : Nat) (x0 : Int32) (x1 : Int32) (h5 : Nat) (h6 : Nat) (h7 : Nat) (h8 : Nat) (h9 : Nat) (h10 : Nat) (h11 : Nat) (vv0 : Value) (x2 : Int32) (x3 : Int32) (fn0 : Nat → Int32) (fn1 : Nat → Int32) (i_x2 : (0 ≤ (Int32.toInt x2) ∧ (Int32.toInt x2) ≤ 1500)) (i_x3 : (0 ≤ (Int32.toInt x3) ∧ (Int32.toInt x3) ≤ 1508)) (sz : Nat) : Met l yX11_cipher wsX11_cipher ({ frames := 2, cells := 0, slots := 0, locals := 45 }) (va_Pc [.ref h0, .int x0, .int x1] (PW g [(h0, .inr (10, [.ref h1, .ref h2, .ref h5, .ref h6, .ref h7, .ref h8, .ref h9, .ref h10, .ref h11, vv0])), (h1, .inr (4, [.ref h3, .int x2])), (h2, .inr (4, [.ref h4, .int x3])), (h3, .inl (gB g, 1500, .inl fn0)), (h4, .inl (gB g, 1508, .inl fn1))] sz)) (va_Qi (fun (r : Int32) (u : (Int32) × (Int32) × (Nat → Int32)) => -1 ≤ (Int32.toInt r) ∧ (Int32.toInt r) ≤ 1508 ∧ 0 ≤ (Int32.toInt (u.1)) ∧ (Int32.toInt (u.1)) ≤ 1500 ∧ 0 ≤ (Int32.toInt (u.2.1)) ∧ (Int32.toInt (u.2.1)) ≤ 1508 ∧ ((0 ≤ (Int32.toInt x0) ∧ (Int32.toInt x0) ≤ 65535 ∧ 0 ≤ (Int32.toInt x1) ∧ (Int32.toInt x1) ≤ 8 ∧ (Int32.toInt (u.2.1)) = (Int32.toInt x2) + (Int32.toInt x1) ∧ (Int32.toInt (u.1)) = 0 ∧ (Int32.toInt r) = (Int32.toInt (u.2.1))) ∨ (((Int32.toInt x0) < 0 ∨ 65535 < (Int32.toInt x0) ∨ (Int32.toInt x1) < 0 ∨ 8 < (Int32.toInt x1)) ∧ (Int32.toInt (u.2.1)) = (Int32.toInt x3) ∧ (Int32.toInt (u.1)) = (Int32.toInt x2) ∧ (Int32.toInt r) = -1))) (BW g (va_A [(h0, .inr (10, [.ref h1, .ref h2, .ref h5, .ref h6, .ref h7, .ref h8, .ref h9, .ref h10, .ref h11, vv0])), (h1, .inr (4, [.ref h3, .int x2])), (h2, .inr (4, [.ref h4, .int x3])), (h3, .inl (gB g, 1500, .inl fn0)), (h4, .inl (gB g, 1508, .inl fn1))] sz) (fun u : (Int32) × (Int32) × (Nat → Int32) => [(h0, .inr (10, [.ref h1, .ref h2, .ref h5, .ref h6, .ref h7, .ref h8, .ref h9, .ref h10, .ref h11, vv0])), (h1, .inr (4, [.ref h3, .int u.1])), (h2, .inr (4, [.ref h4, .int u.2.1])), (h3, .inl (gB g, 1500, .inl fn0)), (h4, .inl (gB g, 1508, .inl u.2.2))])) (va_A [(h0, .inr (10, [.ref h1, .ref h2, .ref h5, .ref h6, .ref h7, .ref h8, .ref h9, .ref h10, .ref h11, vv0])), (h1, .inr (4, [.ref h3, .int x2])), (h2, .inr (4, [.ref h4, .int x3])), (h3, .inl (gB g, 1500, .inl fn0)), (h4, .inl (gB g, 1508, .inl fn1))] sz)) 0 0 (va_A [(h0, .inr (10, [.ref h1, .ref h2, .ref h5, .ref h6, .ref h7, .ref h8, .ref h9, .ref h10, .ref h11, vv0])), (h1, .inr (4, [.ref h3, .int x2])), (h2, .inr (4, [.ref h4, .int x3])), (h3, .inl (gB g, 1500, .inl fn0)), (h4, .inl (gB g, 1508, .inl fn1))] sz) := by
  refine met_i RX11 (by decide) rfl rfl (Nat.le_of_ble_eq_true rfl) [(0, .ref h0), (1, .int x0), (2, .int x1)] rfl ?_
  intro p e s m args below meth c A Q C hnm Rt
  have gx0 := fb_rng x0
  have gx1 := fb_rng x1
  have hiX11 : ∀ w ∈ wsX110, w ∈ wsX11_cipher := fun w h => List.mem_cons_of_mem _ (List.mem_append_left _ (List.mem_append_right _ (h)))
  refine r_iload_n 0 1 C dX11_cipher_0 rfl ?_
  refine r_iload_n 1 2 C dX11_cipher_1 rfl ?_
  refine r_callSi 2 C dX11_cipher_2 [] [] [(h0, .inr (10, [.ref h1, .ref h2, .ref h5, .ref h6, .ref h7, .ref h8, .ref h9, .ref h10, .ref h11, vv0])), (h1, .inr (4, [.ref h3, .int x2])), (h2, .inr (4, [.ref h4, .int x3])), (h3, .inl (gB g, 1500, .inl fn0)), (h4, .inl (gB g, 1508, .inl fn1))] (fun sz => c12_X11_isKeyAndNumber l g x0 x1  sz) gX11_cipher_X11_isKeyAndNumber rfl ⟨rfl, rfl⟩ 2 (by decide) ⟨Nat.le_of_ble_eq_true rfl, Nat.le_of_ble_eq_true rfl⟩ [] [0, 1, 2, 3, 4] rfl rfl (by decide) (by decide) (by decide) rfl rfl (Nat.le_of_ble_eq_true rfl) ⟨Nat.le_of_ble_eq_true rfl, Nat.le_of_ble_eq_true rfl⟩ (fun r1 _ w2 => ?_)
  refine r_ws [(h0, .inr (10, [.ref h1, .ref h2, .ref h5, .ref h6, .ref h7, .ref h8, .ref h9, .ref h10, .ref h11, vv0])), (h1, .inr (4, [.ref h3, .int x2])), (h2, .inr (4, [.ref h4, .int x3])), (h3, .inl (gB g, 1500, .inl fn0)), (h4, .inl (gB g, 1508, .inl fn1))] rfl ?_
  have w3 : (((Int32.toInt x0) < 0 ∧ r1 = 0) ∨ (¬ ((Int32.toInt x0) < 0) ∧ 65535 < (Int32.toInt x0) ∧ r1 = 0) ∨ (¬ ((Int32.toInt x0) < 0) ∧ ¬ (65535 < (Int32.toInt x0)) ∧ (Int32.toInt x1) < 0 ∧ r1 = 0) ∨ (¬ ((Int32.toInt x0) < 0) ∧ ¬ (65535 < (Int32.toInt x0)) ∧ ¬ ((Int32.toInt x1) < 0) ∧ 8 < (Int32.toInt x1) ∧ r1 = 0) ∨ (¬ ((Int32.toInt x0) < 0) ∧ ¬ (65535 < (Int32.toInt x0)) ∧ ¬ ((Int32.toInt x1) < 0) ∧ ¬ (8 < (Int32.toInt x1)) ∧ r1 = 1)) := w2
  rcases w3 with ⟨k4, k5⟩ | w3
  · skip
    have k5 := k5.symm
    subst k5
    refine r_if_ne_f 5 10 C dX11_cipher_5 (by decide) (by decide) ?_
    refine r_iconst 8 (-1) C dX11_cipher_8 (by decide) ?_
    exact r_iret 9 Rt dX11_cipher_9 (x2, x3, fn1) (show -1 ≤ (Int32.toInt (-1)) ∧ (Int32.toInt (-1)) ≤ 1508 ∧ 0 ≤ (Int32.toInt x2) ∧ (Int32.toInt x2) ≤ 1500 ∧ 0 ≤ (Int32.toInt x3) ∧ (Int32.toInt x3) ≤ 1508 ∧ ((0 ≤ (Int32.toInt x0) ∧ (Int32.toInt x0) ≤ 65535 ∧ 0 ≤ (Int32.toInt x1) ∧ (Int32.toInt x1) ≤ 8 ∧ (Int32.toInt x3) = (Int32.toInt x2) + (Int32.toInt x1) ∧ (Int32.toInt x2) = 0 ∧ (-1) = (Int32.toInt x3)) ∨ (((Int32.toInt x0) < 0 ∨ 65535 < (Int32.toInt x0) ∨ (Int32.toInt x1) < 0 ∨ 8 < (Int32.toInt x1)) ∧ (Int32.toInt x3) = (Int32.toInt x3) ∧ (Int32.toInt x2) = (Int32.toInt x2) ∧ (-1) = -1)) from ⟨(by ((repeat' apply And.intro) <;> first | trivial | rfl | assumption | omega | decide | exact Or.inl rfl | exact Or.inr (Or.inl rfl) | exact Or.inr (Or.inr rfl))), (by ((repeat' apply And.intro) <;> first | trivial | rfl | assumption | omega | decide | exact Or.inl rfl | exact Or.inr (Or.inl rfl) | exact Or.inr (Or.inr rfl))), i_x2.1, i_x2.2, i_x3.1, i_x3.2, (by ((repeat' apply And.intro) <;> first | trivial | rfl | assumption | omega | decide | exact Or.inl rfl | exact Or.inr (Or.inl rfl) | exact Or.inr (Or.inr rfl)))⟩) [0, 1, 2, 3, 4] (by decide) rfl (Nat.le_of_ble_eq_true rfl) (Nat.le_of_ble_eq_true rfl)
  rcases w3 with ⟨k6, k7, k8⟩ | w3
  · skip
    have k8 := k8.symm
    subst k8
    refine r_if_ne_f 5 10 C dX11_cipher_5 (by decide) (by decide) ?_
    refine r_iconst 8 (-1) C dX11_cipher_8 (by decide) ?_
    exact r_iret 9 Rt dX11_cipher_9 (x2, x3, fn1) (show -1 ≤ (Int32.toInt (-1)) ∧ (Int32.toInt (-1)) ≤ 1508 ∧ 0 ≤ (Int32.toInt x2) ∧ (Int32.toInt x2) ≤ 1500 ∧ 0 ≤ (Int32.toInt x3) ∧ (Int32.toInt x3) ≤ 1508 ∧ ((0 ≤ (Int32.toInt x0) ∧ (Int32.toInt x0) ≤ 65535 ∧ 0 ≤ (Int32.toInt x1) ∧ (Int32.toInt x1) ≤ 8 ∧ (Int32.toInt x3) = (Int32.toInt x2) + (Int32.toInt x1) ∧ (Int32.toInt x2) = 0 ∧ (-1) = (Int32.toInt x3)) ∨ (((Int32.toInt x0) < 0 ∨ 65535 < (Int32.toInt x0) ∨ (Int32.toInt x1) < 0 ∨ 8 < (Int32.toInt x1)) ∧ (Int32.toInt x3) = (Int32.toInt x3) ∧ (Int32.toInt x2) = (Int32.toInt x2) ∧ (-1) = -1)) from ⟨(by ((repeat' apply And.intro) <;> first | trivial | rfl | assumption | omega | decide | exact Or.inl rfl | exact Or.inr (Or.inl rfl) | exact Or.inr (Or.inr rfl))), (by ((repeat' apply And.intro) <;> first | trivial | rfl | assumption | omega | decide | exact Or.inl rfl | exact Or.inr (Or.inl rfl) | exact Or.inr (Or.inr rfl))), i_x2.1, i_x2.2, i_x3.1, i_x3.2, (by ((repeat' apply And.intro) <;> first | trivial | rfl | assumption | omega | decide | exact Or.inl rfl | exact Or.inr (Or.inl rfl) | exact Or.inr (Or.inr rfl)))⟩) [0, 1, 2, 3, 4] (by decide) rfl (Nat.le_of_ble_eq_true rfl) (Nat.le_of_ble_eq_true rfl)
  rcases w3 with ⟨k9, k10, k11, k12⟩ | w3
  · skip
    have k12 := k12.symm
    subst k12
    refine r_if_ne_f 5 10 C dX11_cipher_5 (by decide) (by decide) ?_
    refine r_iconst 8 (-1) C dX11_cipher_8 (by decide) ?_
    exact r_iret 9 Rt dX11_cipher_9 (x2, x3, fn1) (show -1 ≤ (Int32.toInt (-1)) ∧ (Int32.toInt (-1)) ≤ 1508 ∧ 0 ≤ (Int32.toInt x2) ∧ (Int32.toInt x2) ≤ 1500 ∧ 0 ≤ (Int32.toInt x3) ∧ (Int32.toInt x3) ≤ 1508 ∧ ((0 ≤ (Int32.toInt x0) ∧ (Int32.toInt x0) ≤ 65535 ∧ 0 ≤ (Int32.toInt x1) ∧ (Int32.toInt x1) ≤ 8 ∧ (Int32.toInt x3) = (Int32.toInt x2) + (Int32.toInt x1) ∧ (Int32.toInt x2) = 0 ∧ (-1) = (Int32.toInt x3)) ∨ (((Int32.toInt x0) < 0 ∨ 65535 < (Int32.toInt x0) ∨ (Int32.toInt x1) < 0 ∨ 8 < (Int32.toInt x1)) ∧ (Int32.toInt x3) = (Int32.toInt x3) ∧ (Int32.toInt x2) = (Int32.toInt x2) ∧ (-1) = -1)) from ⟨(by ((repeat' apply And.intro) <;> first | trivial | rfl | assumption | omega | decide | exact Or.inl rfl | exact Or.inr (Or.inl rfl) | exact Or.inr (Or.inr rfl))), (by ((repeat' apply And.intro) <;> first | trivial | rfl | assumption | omega | decide | exact Or.inl rfl | exact Or.inr (Or.inl rfl) | exact Or.inr (Or.inr rfl))), i_x2.1, i_x2.2, i_x3.1, i_x3.2, (by ((repeat' apply And.intro) <;> first | trivial | rfl | assumption | omega | decide | exact Or.inl rfl | exact Or.inr (Or.inl rfl) | exact Or.inr (Or.inr rfl)))⟩) [0, 1, 2, 3, 4] (by decide) rfl (Nat.le_of_ble_eq_true rfl) (Nat.le_of_ble_eq_true rfl)
  rcases w3 with ⟨k13, k14, k15, k16, k17⟩ | w3
  · skip
    have k17 := k17.symm
    subst k17
    refine r_if_ne_f 5 10 C dX11_cipher_5 (by decide) (by decide) ?_
    refine r_iconst 8 (-1) C dX11_cipher_8 (by decide) ?_
    exact r_iret 9 Rt dX11_cipher_9 (x2, x3, fn1) (show -1 ≤ (Int32.toInt (-1)) ∧ (Int32.toInt (-1)) ≤ 1508 ∧ 0 ≤ (Int32.toInt x2) ∧ (Int32.toInt x2) ≤ 1500 ∧ 0 ≤ (Int32.toInt x3) ∧ (Int32.toInt x3) ≤ 1508 ∧ ((0 ≤ (Int32.toInt x0) ∧ (Int32.toInt x0) ≤ 65535 ∧ 0 ≤ (Int32.toInt x1) ∧ (Int32.toInt x1) ≤ 8 ∧ (Int32.toInt x3) = (Int32.toInt x2) + (Int32.toInt x1) ∧ (Int32.toInt x2) = 0 ∧ (-1) = (Int32.toInt x3)) ∨ (((Int32.toInt x0) < 0 ∨ 65535 < (Int32.toInt x0) ∨ (Int32.toInt x1) < 0 ∨ 8 < (Int32.toInt x1)) ∧ (Int32.toInt x3) = (Int32.toInt x3) ∧ (Int32.toInt x2) = (Int32.toInt x2) ∧ (-1) = -1)) from ⟨(by ((repeat' apply And.intro) <;> first | trivial | rfl | assumption | omega | decide | exact Or.inl rfl | exact Or.inr (Or.inl rfl) | exact Or.inr (Or.inr rfl))), (by ((repeat' apply And.intro) <;> first | trivial | rfl | assumption | omega | decide | exact Or.inl rfl | exact Or.inr (Or.inl rfl) | exact Or.inr (Or.inr rfl))), i_x2.1, i_x2.2, i_x3.1, i_x3.2, (by ((repeat' apply And.intro) <;> first | trivial | rfl | assumption | omega | decide | exact Or.inl rfl | exact Or.inr (Or.inl rfl) | exact Or.inr (Or.inr rfl)))⟩) [0, 1, 2, 3, 4] (by decide) rfl (Nat.le_of_ble_eq_true rfl) (Nat.le_of_ble_eq_true rfl)
  obtain ⟨k18, k19, k20, k21, k22⟩ := w3
  have k22 := k22.symm
  subst k22
  refine r_if_ne_t 5 10 C dX11_cipher_5 (by decide) (by decide) ?_
  refine r_aload_n 10 0 C dX11_cipher_10 rfl ?_
  refine r_get 11 C dX11_cipher_11 (k := 1) 0 rfl rfl hiX11 (by decide) rfl (mg 1 rfl) (Or.inl rfl) rfl ?_
  refine r_iconst 14 0 C dX11_cipher_14 (by decide) ?_
  refine r_callVv 15 C dX11_cipher_15 [] [(h2, .inr (4, [.ref h4, .int x3]))] [(h0, .inr (10, [.ref h1, .ref h2, .ref h5, .ref h6, .ref h7, .ref h8, .ref h9, .ref h10, .ref h11, vv0])), (h1, .inr (4, [.ref h3, .int x2])), (h3, .inl (gB g, 1500, .inl fn0)), (h4, .inl (gB g, 1508, .inl fn1))] (fun sz => c13_X5_cut l g h2 0 h4 x3 i_x3 sz) gX11_cipher_X5_cut rfl ⟨rfl, rfl⟩ 1 (by decide) ⟨Nat.le_of_ble_eq_true rfl, Nat.le_of_ble_eq_true rfl⟩ 2 rfl rfl [2] [0, 1, 3, 4] rfl rfl (by decide) (by decide) (by decide) rfl rfl (Nat.le_of_ble_eq_true rfl) ⟨Nat.le_of_ble_eq_true rfl, Nat.le_of_ble_eq_true rfl⟩ (fun  z23 w24 => ?_)
  refine r_ws [(h0, .inr (10, [.ref h1, .ref h2, .ref h5, .ref h6, .ref h7, .ref h8, .ref h9, .ref h10, .ref h11, vv0])), (h1, .inr (4, [.ref h3, .int x2])), (h3, .inl (gB g, 1500, .inl fn0)), (h4, .inl (gB g, 1508, .inl fn1)), (h2, .inr (4, [.ref h4, .int z23]))] rfl ?_
  have p25 : 0 ≤ (Int32.toInt z23) := w24.2.1
  have p26 : (Int32.toInt z23) ≤ 1508 := w24.2.2
  have w27 : (((0 : Int) < 0 ∧ (Int32.toInt z23) = (Int32.toInt x3)) ∨ (¬ ((0 : Int) < 0) ∧ (Int32.toInt x3) < (0 : Int) ∧ (Int32.toInt z23) = (Int32.toInt x3)) ∨ (¬ ((0 : Int) < 0) ∧ ¬ ((Int32.toInt x3) < (0 : Int)) ∧ (Int32.toInt z23) = (0 : Int))) := w24.1
  rcases w27 with ⟨k28, k29⟩ | w27
  · skip
    exact absurd trivial (by omega)
  rcases w27 with ⟨k30, k31, k32⟩ | w27
  · skip
    exact absurd trivial (by omega)
  obtain ⟨k33, k34, k35⟩ := w27
  refine r_iconst 18 0 C dX11_cipher_18 (by decide) ?_
  refine r_istore_n 19 C dX11_cipher_19 [(3, .int 0), (0, .ref h0), (1, .int x0), (2, .int x1)] (by decide) rfl ?_
  have lp40 : ∀ (n39 : Nat) (z36 : Int32) (f37 : Nat → Int32) (z38 : Int32), (0 ≤ (Int32.toInt z36) ∧ (Int32.toInt z36) ≤ 8) → (0 ≤ (Int32.toInt z38) ∧ (Int32.toInt z38) ≤ 1508) → ((Int32.toInt z38) = (Int32.toInt z36) ∧ (Int32.toInt z36) ≤ (Int32.toInt x1)) → Int.toNat (8 - (Int32.toInt z36)) < n39 → WW p l e ({ frames := 2, cells := 0, slots := 0, locals := 45 } : Room) s m args below meth c A Q g 4 0 0 [(h0, .inr (10, [.ref h1, .ref h2, .ref h5, .ref h6, .ref h7, .ref h8, .ref h9, .ref h10, .ref h11, vv0])), (h1, .inr (4, [.ref h3, .int x2])), (h3, .inl (gB g, 1500, .inl fn0)), (h4, .inl (gB g, 1508, .inl f37)), (h2, .inr (4, [.ref h4, .int z38]))] 20 [(3, .int z36), (0, .ref h0), (1, .int x0), (2, .int x1)] [] := by
    intro n39
    induction n39 with
    | zero => intro z36 f37 z38 i43 i44 j45 hm42; exact absurd hm42 (Nat.not_lt_zero _)
    | succ n39 ih41 =>
      intro z36 f37 z38 i43 i44 j45 hm42
      obtain ⟨i43a, i43b⟩ := i43
      obtain ⟨i44a, i44b⟩ := i44
      refine r_iload_n 20 0 C dX11_cipher_20 rfl ?_
      refine r_iload_n 21 3 C dX11_cipher_21 rfl ?_
      refine r_icmp_ge 22 39 C dX11_cipher_22 (by decide) (fun c46 => ?_) (fun c46 => ?_)
      · skip
        have k47 : (Int32.toInt x1) ≤ (Int32.toInt z36) := (fa_le x1 z36).mp c46
        refine r_aload_n 39 1 C dX11_cipher_39 rfl ?_
        refine r_get 40 C dX11_cipher_40 (k := 1) 0 rfl rfl hiX11 (by decide) rfl (mg 1 rfl) (Or.inl rfl) rfl ?_
        refine r_aload_n 43 1 C dX11_cipher_43 rfl ?_
        refine r_get 44 C dX11_cipher_44 (k := 0) 0 rfl rfl hiX11 (by decide) rfl (mg 2 rfl) (Or.inl rfl) rfl ?_
        refine r_iconst 47 0 C dX11_cipher_47 (by decide) ?_
        refine r_callVv 48 C dX11_cipher_48 [] [(h2, .inr (4, [.ref h4, .int z38])), (h1, .inr (4, [.ref h3, .int x2])), (h4, .inl (gB g, 1508, .inl f37)), (h3, .inl (gB g, 1500, .inl fn0))] [(h0, .inr (10, [.ref h1, .ref h2, .ref h5, .ref h6, .ref h7, .ref h8, .ref h9, .ref h10, .ref h11, vv0]))] (fun sz => c16_X5_addAll l g h2 h1 h4 h3 0 z38 x2 f37 fn0 ⟨i44a, i44b⟩ i_x2 sz) gX11_cipher_X5_addAll rfl ⟨rfl, rfl⟩ 2 (by decide) ⟨Nat.le_of_ble_eq_true rfl, Nat.le_of_ble_eq_true rfl⟩ 4 rfl rfl [4, 1, 3, 2] [0] rfl rfl (by decide) (by decide) (by decide) rfl rfl (Nat.le_of_ble_eq_true rfl) ⟨Nat.le_of_ble_eq_true rfl, Nat.le_of_ble_eq_true rfl⟩ (fun  u51 w50 => ?_)
        obtain ⟨z48, f49⟩ := u51
        refine r_ws [(h0, .inr (10, [.ref h1, .ref h2, .ref h5, .ref h6, .ref h7, .ref h8, .ref h9, .ref h10, .ref h11, vv0])), (h2, .inr (4, [.ref h4, .int z48])), (h1, .inr (4, [.ref h3, .int x2])), (h4, .inl (gB g, 1508, .inl f49)), (h3, .inl (gB g, 1500, .inl fn0))] rfl ?_
        have p52 : 0 ≤ (Int32.toInt z48) := w50.1
        have p53 : (Int32.toInt z48) ≤ 1508 := w50.2.1
        have p54 : (((0 : Int) ≤ 0 ∧ (((Int32.toInt x2) ≤ 0 ∧ (Int32.toInt z48) = (Int32.toInt z38)) ∨ (0 < (Int32.toInt x2) ∧ (Int32.toInt z38) + (Int32.toInt x2) ≤ 1508 ∧ (Int32.toInt z48) = (Int32.toInt z38) + (Int32.toInt x2)) ∨ 1508 < (Int32.toInt z38) + (Int32.toInt x2))) ∨ (0 ≤ (0 : Int) ∧ (((Int32.toInt x2) ≤ (0 : Int) ∧ (Int32.toInt z48) = (Int32.toInt z38)) ∨ ((0 : Int) < (Int32.toInt x2) ∧ (Int32.toInt z38) + (Int32.toInt x2) - (0 : Int) ≤ 1508 ∧ (Int32.toInt z48) = (Int32.toInt z38) + (Int32.toInt x2) - (0 : Int)) ∨ 1508 < (Int32.toInt z38) + (Int32.toInt x2) - (0 : Int)))) := w50.2.2
        refine r_aload_n 51 1 C dX11_cipher_51 rfl ?_
        refine r_get 52 C dX11_cipher_52 (k := 1) 0 rfl rfl hiX11 (by decide) rfl (mg 1 rfl) (Or.inl rfl) rfl ?_
        refine r_iload_n 55 2 C dX11_cipher_55 rfl ?_
        refine r_callVv 56 C dX11_cipher_56 [] [(h2, .inr (4, [.ref h4, .int z48])), (h4, .inl (gB g, 1508, .inl f49))] [(h0, .inr (10, [.ref h1, .ref h2, .ref h5, .ref h6, .ref h7, .ref h8, .ref h9, .ref h10, .ref h11, vv0])), (h1, .inr (4, [.ref h3, .int x2])), (h3, .inl (gB g, 1500, .inl fn0))] (fun sz => c18_X5_encipher l g h2 h4 x0 z48 f49 ⟨p52, p53⟩ sz) gX11_cipher_X5_encipher rfl ⟨rfl, rfl⟩ 1 (by decide) ⟨Nat.le_of_ble_eq_true rfl, Nat.le_of_ble_eq_true rfl⟩ 1 rfl rfl [1, 3] [0, 2, 4] rfl rfl (by decide) (by decide) (by decide) rfl rfl (Nat.le_of_ble_eq_true rfl) ⟨Nat.le_of_ble_eq_true rfl, Nat.le_of_ble_eq_true rfl⟩ (fun  f55 w56 => ?_)
        refine r_ws [(h0, .inr (10, [.ref h1, .ref h2, .ref h5, .ref h6, .ref h7, .ref h8, .ref h9, .ref h10, .ref h11, vv0])), (h1, .inr (4, [.ref h3, .int x2])), (h3, .inl (gB g, 1500, .inl fn0)), (h2, .inr (4, [.ref h4, .int z48])), (h4, .inl (gB g, 1508, .inl f55))] rfl ?_
        refine r_aload_n 59 1 C dX11_cipher_59 rfl ?_
        refine r_get 60 C dX11_cipher_60 (k := 0) 0 rfl rfl hiX11 (by decide) rfl (mg 2 rfl) (Or.inl rfl) rfl ?_
        refine r_iconst 63 0 C dX11_cipher_63 (by decide) ?_
        refine r_callVv 64 C dX11_cipher_64 [] [(h1, .inr (4, [.ref h3, .int x2]))] [(h0, .inr (10, [.ref h1, .ref h2, .ref h5, .ref h6, .ref h7, .ref h8, .ref h9, .ref h10, .ref h11, vv0])), (h3, .inl (gB g, 1500, .inl fn0)), (h2, .inr (4, [.ref h4, .int z48])), (h4, .inl (gB g, 1508, .inl f55))] (fun sz => c4_X5_cut l g h1 0 h3 x2 i_x2 sz) gX11_cipher_X5_cut rfl ⟨rfl, rfl⟩ 1 (by decide) ⟨Nat.le_of_ble_eq_true rfl, Nat.le_of_ble_eq_true rfl⟩ 1 rfl rfl [1] [0, 2, 3, 4] rfl rfl (by decide) (by decide) (by decide) rfl rfl (Nat.le_of_ble_eq_true rfl) ⟨Nat.le_of_ble_eq_true rfl, Nat.le_of_ble_eq_true rfl⟩ (fun  z57 w58 => ?_)
        refine r_ws [(h0, .inr (10, [.ref h1, .ref h2, .ref h5, .ref h6, .ref h7, .ref h8, .ref h9, .ref h10, .ref h11, vv0])), (h3, .inl (gB g, 1500, .inl fn0)), (h2, .inr (4, [.ref h4, .int z48])), (h4, .inl (gB g, 1508, .inl f55)), (h1, .inr (4, [.ref h3, .int z57]))] rfl ?_
        have p59 : 0 ≤ (Int32.toInt z57) := w58.2.1
        have p60 : (Int32.toInt z57) ≤ 1500 := w58.2.2
        have w61 : (((0 : Int) < 0 ∧ (Int32.toInt z57) = (Int32.toInt x2)) ∨ (¬ ((0 : Int) < 0) ∧ (Int32.toInt x2) < (0 : Int) ∧ (Int32.toInt z57) = (Int32.toInt x2)) ∨ (¬ ((0 : Int) < 0) ∧ ¬ ((Int32.toInt x2) < (0 : Int)) ∧ (Int32.toInt z57) = (0 : Int))) := w58.1
        rcases w61 with ⟨k62, k63⟩ | w61
        · skip
          exact absurd trivial (by omega)
        rcases w61 with ⟨k64, k65, k66⟩ | w61
        · skip
          exact absurd trivial (by omega)
        obtain ⟨k67, k68, k69⟩ := w61
        refine r_aload_n 67 1 C dX11_cipher_67 rfl ?_
        refine r_get 68 C dX11_cipher_68 (k := 1) 0 rfl rfl hiX11 (by decide) rfl (mg 1 rfl) (Or.inl rfl) rfl ?_
        refine r_callVi 71 C dX11_cipher_71 [] [(h2, .inr (4, [.ref h4, .int z48]))] [(h0, .inr (10, [.ref h1, .ref h2, .ref h5, .ref h6, .ref h7, .ref h8, .ref h9, .ref h10, .ref h11, vv0])), (h3, .inl (gB g, 1500, .inl fn0)), (h4, .inl (gB g, 1508, .inl f55)), (h1, .inr (4, [.ref h3, .int z57]))] (fun sz => c19_X5_size l g h2 h4 z48 ⟨p52, p53⟩ sz) gX11_cipher_X5_size rfl ⟨rfl, rfl⟩ 0 (by decide) ⟨Nat.le_of_ble_eq_true rfl, Nat.le_of_ble_eq_true rfl⟩ 2 rfl rfl [2] [0, 1, 3, 4] rfl rfl (by decide) (by decide) (by decide) rfl rfl (Nat.le_of_ble_eq_true rfl) ⟨Nat.le_of_ble_eq_true rfl, Nat.le_of_ble_eq_true rfl⟩ (fun r70 _ w71 => ?_)
        refine r_ws [(h0, .inr (10, [.ref h1, .ref h2, .ref h5, .ref h6, .ref h7, .ref h8, .ref h9, .ref h10, .ref h11, vv0])), (h3, .inl (gB g, 1500, .inl fn0)), (h4, .inl (gB g, 1508, .inl f55)), (h1, .inr (4, [.ref h3, .int z57])), (h2, .inr (4, [.ref h4, .int z48]))] rfl ?_
        have p72 : z48 = r70 := (w71).symm
        subst p72
        exact r_iret 74 Rt dX11_cipher_74 (z57, z48, f55) (show -1 ≤ (Int32.toInt z48) ∧ (Int32.toInt z48) ≤ 1508 ∧ 0 ≤ (Int32.toInt z57) ∧ (Int32.toInt z57) ≤ 1500 ∧ 0 ≤ (Int32.toInt z48) ∧ (Int32.toInt z48) ≤ 1508 ∧ ((0 ≤ (Int32.toInt x0) ∧ (Int32.toInt x0) ≤ 65535 ∧ 0 ≤ (Int32.toInt x1) ∧ (Int32.toInt x1) ≤ 8 ∧ (Int32.toInt z48) = (Int32.toInt x2) + (Int32.toInt x1) ∧ (Int32.toInt z57) = 0 ∧ (Int32.toInt z48) = (Int32.toInt z48)) ∨ (((Int32.toInt x0) < 0 ∨ 65535 < (Int32.toInt x0) ∨ (Int32.toInt x1) < 0 ∨ 8 < (Int32.toInt x1)) ∧ (Int32.toInt z48) = (Int32.toInt x3) ∧ (Int32.toInt z57) = (Int32.toInt x2) ∧ (Int32.toInt z48) = -1)) from ⟨(iv_wide (c := (-1)) (d := 1508) ⟨p52, p53⟩ (by decide) (by decide)).1, (show _ ∧ _ from ⟨p52, p53⟩).2, (show _ ∧ _ from ⟨p59, p60⟩).1, (show _ ∧ _ from ⟨p59, p60⟩).2, (show _ ∧ _ from ⟨p52, p53⟩).1, (show _ ∧ _ from ⟨p52, p53⟩).2, (by ((repeat' apply And.intro) <;> first | trivial | rfl | assumption | omega | decide | exact Or.inl rfl | exact Or.inr (Or.inl rfl) | exact Or.inr (Or.inr rfl)))⟩) [0, 3, 4, 1, 2] (by decide) rfl (Nat.le_of_ble_eq_true rfl) (Nat.le_of_ble_eq_true rfl)
      · skip
        have k73 : ¬ ((Int32.toInt x1) ≤ (Int32.toInt z36)) := fun h_9 => c46 ((fa_le x1 z36).mpr h_9)
        refine r_aload_n 25 1 C dX11_cipher_25 rfl ?_
        refine r_get 26 C dX11_cipher_26 (k := 1) 0 rfl rfl hiX11 (by decide) rfl (mg 1 rfl) (Or.inl rfl) rfl ?_
        refine r_iconst 29 0 C dX11_cipher_29 (by decide) ?_
        refine r_callVv 30 C dX11_cipher_30 [] [(h2, .inr (4, [.ref h4, .int z38])), (h4, .inl (gB g, 1508, .inl f37))] [(h0, .inr (10, [.ref h1, .ref h2, .ref h5, .ref h6, .ref h7, .ref h8, .ref h9, .ref h10, .ref h11, vv0])), (h1, .inr (4, [.ref h3, .int x2])), (h3, .inl (gB g, 1500, .inl fn0))] (fun sz => c15_X5_add l g h2 h4 0 z38 f37 ⟨i44a, i44b⟩ sz) gX11_cipher_X5_add rfl ⟨rfl, rfl⟩ 1 (by decide) ⟨Nat.le_of_ble_eq_true rfl, Nat.le_of_ble_eq_true rfl⟩ 4 rfl rfl [4, 3] [0, 1, 2] rfl rfl (by decide) (by decide) (by decide) rfl rfl (Nat.le_of_ble_eq_true rfl) ⟨Nat.le_of_ble_eq_true rfl, Nat.le_of_ble_eq_true rfl⟩ (fun  u77 w76 => ?_)
        obtain ⟨z74, f75⟩ := u77
        refine r_ws [(h0, .inr (10, [.ref h1, .ref h2, .ref h5, .ref h6, .ref h7, .ref h8, .ref h9, .ref h10, .ref h11, vv0])), (h1, .inr (4, [.ref h3, .int x2])), (h3, .inl (gB g, 1500, .inl fn0)), (h2, .inr (4, [.ref h4, .int z74])), (h4, .inl (gB g, 1508, .inl f75))] rfl ?_
        have p78 : 0 ≤ (Int32.toInt z74) := w76.2.1
        have p79 : (Int32.toInt z74) ≤ 1508 := w76.2.2
        have w80 : ((1508 ≤ (Int32.toInt z38) ∧ (Int32.toInt z74) = (Int32.toInt z38)) ∨ (¬ (1508 ≤ (Int32.toInt z38)) ∧ (Int32.toInt z74) = (Int32.toInt z38) + 1)) := w76.1
        rcases w80 with ⟨k81, k82⟩ | w80
        · skip
          obtain ⟨z83, ez83⟩ : ∃ z_9, z36 + Int32.ofInt 1 = z_9 := ⟨_, rfl⟩
          have tz83 : (Int32.toInt z83) = (Int32.toInt z36) + 1 := by rw [← ez83]; exact fb_addIv (a := 0) (b := 8) (c := 1) (d := 1) ⟨i43a, i43b⟩ ⟨by decide, by decide⟩ (by decide) (by decide)
          refine r_iinc 33 0 z83 C dX11_cipher_33 rfl ez83 [(3, .int z83), (0, .ref h0), (1, .int x0), (2, .int x1)] (by decide) rfl ?_
          refine r_goto 36 20 C dX11_cipher_36 (by decide) ?_
          refine r_pick [(h0, .inr (10, [.ref h1, .ref h2, .ref h5, .ref h6, .ref h7, .ref h8, .ref h9, .ref h10, .ref h11, vv0])), (h1, .inr (4, [.ref h3, .int x2])), (h3, .inl (gB g, 1500, .inl fn0)), (h4, .inl (gB g, 1508, .inl f75)), (h2, .inr (4, [.ref h4, .int z74]))] [0, 1, 2, 4, 3] (by decide) rfl ?_
          exact ih41 z83 f75 z74 ⟨by omega, by omega⟩ ⟨p78, p79⟩ (by show (Int32.toInt z74) = (Int32.toInt z83) ∧ (Int32.toInt z83) ≤ (Int32.toInt x1); omega) (by omega)
        obtain ⟨k84, k85⟩ := w80
        obtain ⟨z86, ez86⟩ : ∃ z_9, z36 + Int32.ofInt 1 = z_9 := ⟨_, rfl⟩
        have tz86 : (Int32.toInt z86) = (Int32.toInt z36) + 1 := by rw [← ez86]; exact fb_addIv (a := 0) (b := 8) (c := 1) (d := 1) ⟨i43a, i43b⟩ ⟨by decide, by decide⟩ (by decide) (by decide)
        refine r_iinc 33 0 z86 C dX11_cipher_33 rfl ez86 [(3, .int z86), (0, .ref h0), (1, .int x0), (2, .int x1)] (by decide) rfl ?_
        refine r_goto 36 20 C dX11_cipher_36 (by decide) ?_
        refine r_pick [(h0, .inr (10, [.ref h1, .ref h2, .ref h5, .ref h6, .ref h7, .ref h8, .ref h9, .ref h10, .ref h11, vv0])), (h1, .inr (4, [.ref h3, .int x2])), (h3, .inl (gB g, 1500, .inl fn0)), (h4, .inl (gB g, 1508, .inl f75)), (h2, .inr (4, [.ref h4, .int z74]))] [0, 1, 2, 4, 3] (by decide) rfl ?_
        exact ih41 z86 f75 z74 ⟨by omega, by omega⟩ ⟨p78, p79⟩ (by show (Int32.toInt z74) = (Int32.toInt z86) ∧ (Int32.toInt z86) ≤ (Int32.toInt x1); omega) (by omega)
  exact lp40 _ 0 fn1 z23 (by decide) ⟨p25, p26⟩ (by show (Int32.toInt z23) = 0 ∧ 0 ≤ (Int32.toInt x1); omega) (Nat.lt_succ_self _)
set_option maxHeartbeats 4000000 in
set_option maxRecDepth 100000 in
theorem c21_X5_decipher (l : Launch) (g : GD) (h0 : Nat) (h1 : Nat) (x0 : Int32) (x1 : Int32) (x2 : Int32) (x3 : Int32) (fn0 : Nat → Int32) (i_x3 : (0 ≤ (Int32.toInt x3) ∧ (Int32.toInt x3) ≤ 1500)) (sz : Nat) : Met l yX5_decipher wsX5_decipher ({ frames := 1, cells := 0, slots := 0, locals := 21 }) (va_Pc [.ref h0, .int x0, .int x1, .int x2] (PW g [(h0, .inr (4, [.ref h1, .int x3])), (h1, .inl (gB g, 1500, .inl fn0))] sz)) (va_Qv (fun (u : (Nat → Int32)) => True) (BW g (va_A [(h0, .inr (4, [.ref h1, .int x3])), (h1, .inl (gB g, 1500, .inl fn0))] sz) (fun u : (Nat → Int32) => [(h0, .inr (4, [.ref h1, .int x3])), (h1, .inl (gB g, 1500, .inl u))])) (va_A [(h0, .inr (4, [.ref h1, .int x3])), (h1, .inl (gB g, 1500, .inl fn0))] sz)) 0 0 (va_A [(h0, .inr (4, [.ref h1, .int x3])), (h1, .inl (gB g, 1500, .inl fn0))] sz) := by
  refine met_v RX5 (by decide) rfl rfl (Nat.le_of_ble_eq_true rfl) [(0, .ref h0), (1, .int x0), (2, .int x1), (3, .int x2)] rfl ?_
  intro p e s m args below meth c A Q C hnm Rt
  have gx1 := fb_rng x1
  have gx2 := fb_rng x2
  have hiX5 : ∀ w ∈ wsX50, w ∈ wsX5_decipher := fun w h => List.mem_cons_of_mem _ (List.mem_append_right _ (h))
  refine r_iload_n 0 1 C dX5_decipher_0 rfl ?_
  refine r_istore 1 C dX5_decipher_1 [(4, .int x0), (0, .ref h0), (1, .int x0), (2, .int x1), (3, .int x2)] (by decide) rfl ?_
  refine r_iload_n 3 3 C dX5_decipher_3 rfl ?_
  refine r_iconst 4 0 C dX5_decipher_4 (by decide) ?_
  obtain ⟨z1, ez1⟩ : ∃ z_9, (if x1 < 0 then 0 else x1) = z_9 := ⟨_, rfl⟩
  have tz1 : ((Int32.toInt x1) < 0 ∧ (Int32.toInt z1) = 0) ∨ (¬ ((Int32.toInt x1) < 0) ∧ (Int32.toInt z1) = (Int32.toInt x1)) := by rw [← ez1]; exact mx_or x1 0 0 x1
  refine r_mmax 5 z1 C dX5_decipher_5 (mg 1 rfl) (mg 2 rfl) (mg 3 rfl) (mg 4 rfl) (Nat.le_of_ble_eq_true rfl) (Nat.le_of_ble_eq_true rfl) (Nat.le_of_ble_eq_true rfl) (Nat.le_of_ble_eq_true rfl) ez1 ?_
  refine r_istore 8 C dX5_decipher_8 [(5, .int z1), (4, .int x0), (0, .ref h0), (1, .int x0), (2, .int x1), (3, .int x2)] (by decide) rfl ?_
  have lp6 : ∀ (n5 : Nat) (z2 : Int32) (z3 : Int32) (f4 : Nat → Int32), (0 ≤ (Int32.toInt z2) ∧ (Int32.toInt z2) ≤ 2147483647) → Int.toNat (2147483647 - (Int32.toInt z2)) < n5 → WW p l e ({ frames := 1, cells := 0, slots := 0, locals := 21 } : Room) s m args below meth c A Q g 7 0 0 [(h0, .inr (4, [.ref h1, .int x3])), (h1, .inl (gB g, 1500, .inl f4))] 10 [(5, .int z2), (4, .int z3), (0, .ref h0), (1, .int x0), (2, .int x1), (3, .int x2)] [] := by
    intro n5
    induction n5 with
    | zero => intro z2 z3 f4 i9 hm8; exact absurd hm8 (Nat.not_lt_zero _)
    | succ n5 ih7 =>
      intro z2 z3 f4 i9 hm8
      obtain ⟨i9a, i9b⟩ := i9
      have gz3 := fb_rng z3
      refine r_iload 10 0 C dX5_decipher_10 rfl ?_
      refine r_iload_n 12 5 C dX5_decipher_12 rfl ?_
      refine r_icmp_ge 13 69 C dX5_decipher_13 (by decide) (fun c10 => ?_) (fun c10 => ?_)
      · skip
        have k11 : (Int32.toInt x2) ≤ (Int32.toInt z2) := (fa_le x2 z2).mp c10
        exact r_vret 69 Rt dX5_decipher_69 f4 trivial [0, 1] (by decide) rfl (Nat.le_of_ble_eq_true rfl) (Nat.le_of_ble_eq_true rfl)
      · skip
        have k12 : ¬ ((Int32.toInt x2) ≤ (Int32.toInt z2)) := fun h_9 => c10 ((fa_le x2 z2).mpr h_9)
        refine r_iload 16 0 C dX5_decipher_16 rfl ?_
        refine r_aload_n 18 2 C dX5_decipher_18 rfl ?_
        refine r_get 19 C dX5_decipher_19 (k := 1) 0 rfl rfl hiX5 (by decide) rfl (mg 5 rfl) (Or.inl rfl) rfl ?_
        refine r_icmp_ge 22 69 C dX5_decipher_22 (by decide) (fun c13 => ?_) (fun c13 => ?_)
        · skip
          have k14 : (Int32.toInt x3) ≤ (Int32.toInt z2) := (fa_le x3 z2).mp c13
          exact r_vret 69 Rt dX5_decipher_69 f4 trivial [0, 1] (by decide) rfl (Nat.le_of_ble_eq_true rfl) (Nat.le_of_ble_eq_true rfl)
        · skip
          have k15 : ¬ ((Int32.toInt x3) ≤ (Int32.toInt z2)) := fun h_9 => c13 ((fa_le x3 z2).mpr h_9)
          refine r_aload_n 25 2 C dX5_decipher_25 rfl ?_
          refine r_get 26 C dX5_decipher_26 (k := 0) 0 rfl rfl hiX5 (by decide) rfl (mg 6 rfl) (Or.inl rfl) rfl ?_
          refine r_iload 29 0 C dX5_decipher_29 rfl ?_
          obtain ⟨z16, ez16⟩ : ∃ z_9, f4 (Int32.toNatClampNeg z2) = z_9 := ⟨_, rfl⟩
          refine r_bald 31 z16 C dX5_decipher_31 1 rfl (vinI (by omega) (by omega)) ez16 ?_
          have gz16 := fb_rng z16
          refine r_sipush 32 255 C dX5_decipher_32 (by decide) ?_
          obtain ⟨z17, ez17⟩ : ∃ z_9, z16 &&& 255 = z_9 := ⟨_, rfl⟩
          have tz17 : 0 ≤ (Int32.toInt z17) ∧ (Int32.toInt z17) ≤ 255 := by rw [← ez17]; exact and_255 z16
          refine r_iand 35 z17 C dX5_decipher_35 ez17 ?_
          refine r_istore 36 C dX5_decipher_36 [(6, .int z17), (5, .int z2), (4, .int z3), (0, .ref h0), (1, .int x0), (2, .int x1), (3, .int x2)] (by decide) rfl ?_
          refine r_aload_n 38 3 C dX5_decipher_38 rfl ?_
          refine r_get 39 C dX5_decipher_39 (k := 0) 0 rfl rfl hiX5 (by decide) rfl (mg 6 rfl) (Or.inl rfl) rfl ?_
          refine r_iload 42 1 C dX5_decipher_42 rfl ?_
          refine r_iload 44 0 C dX5_decipher_44 rfl ?_
          refine r_iload 46 2 C dX5_decipher_46 rfl ?_
          refine r_bipush 48 8 C dX5_decipher_48 (by decide) ?_
          obtain ⟨z18, ez18⟩ : ∃ z_9, z3 >>> (8 &&& 31) = z_9 := ⟨_, rfl⟩
          have tz18 : (Int32.toInt z18) = (Int32.toInt z3) / 256 := by rw [← ez18]; exact shr_8 z3
          refine r_ishr 50 z18 C dX5_decipher_50 ez18 ?_
          obtain ⟨z19, ez19⟩ : ∃ z_9, z17 ^^^ z18 = z_9 := ⟨_, rfl⟩
          have gz19 := fb_rng z19
          refine r_ixor 51 z19 C dX5_decipher_51 ez19 ?_
          obtain ⟨z20, ez20⟩ : ∃ z_9, (Int32.toInt8 z19).toInt32 = z_9 := ⟨_, rfl⟩
          have gz20 := fb_rng z20
          refine r_i2b 52 z20 C dX5_decipher_52 ez20 ?_
          obtain ⟨f21, ef21⟩ : ∃ f_9, upd f4 (Int32.toNatClampNeg z2) (vp_nar .byte z20) = f_9 := ⟨_, rfl⟩
          refine r_bast 53 C dX5_decipher_53 1 rfl (vinI (by omega) (by omega)) f21 ef21 [(h0, .inr (4, [.ref h1, .int x3])), (h1, .inl (gB g, 1500, .inl f21))] rfl ?_
          refine r_iload 54 0 C dX5_decipher_54 rfl ?_
          refine r_iload 56 2 C dX5_decipher_56 rfl ?_
          refine r_callSi 58 C dX5_decipher_58 [] [] [(h0, .inr (4, [.ref h1, .int x3])), (h1, .inl (gB g, 1500, .inl f21))] (fun sz => c17_X5_nextKey l g z17 z3  sz) gX5_decipher_X5_nextKey rfl ⟨rfl, rfl⟩ 2 (by decide) ⟨Nat.le_of_ble_eq_true rfl, Nat.le_of_ble_eq_true rfl⟩ [] [0, 1] rfl rfl (by decide) (by decide) (by decide) rfl rfl (Nat.le_of_ble_eq_true rfl) ⟨Nat.le_of_ble_eq_true rfl, Nat.le_of_ble_eq_true rfl⟩ (fun r22 _ w23 => ?_)
          refine r_ws [(h0, .inr (4, [.ref h1, .int x3])), (h1, .inl (gB g, 1500, .inl f21))] rfl ?_
          have p24 : 0 ≤ (Int32.toInt r22) := w23.1
          have p25 : (Int32.toInt r22) ≤ 65535 := w23.2
          refine r_istore 61 C dX5_decipher_61 [(4, .int r22), (6, .int z17), (5, .int z2), (0, .ref h0), (1, .int x0), (2, .int x1), (3, .int x2)] (by decide) rfl ?_
          obtain ⟨z26, ez26⟩ : ∃ z_9, z2 + Int32.ofInt 1 = z_9 := ⟨_, rfl⟩
          have tz26 : (Int32.toInt z26) = (Int32.toInt z2) + 1 := by rw [← ez26]; exact fb_addI (by show -2147483648 ≤ (Int32.toInt z2) + 1; omega) (by show (Int32.toInt z2) + 1 < 2147483648; omega)
          refine r_iinc 63 2 z26 C dX5_decipher_63 rfl ez26 [(5, .int z26), (4, .int r22), (6, .int z17), (0, .ref h0), (1, .int x0), (2, .int x1), (3, .int x2)] (by decide) rfl ?_
          refine r_goto 66 10 C dX5_decipher_66 (by decide) ?_
          refine r_lv [(5, .int z26), (4, .int r22), (0, .ref h0), (1, .int x0), (2, .int x1), (3, .int x2)] [0, 1, 3, 4, 5, 6] rfl ?_
          exact ih7 z26 r22 f21 ⟨by omega, by omega⟩ (by omega)
  exact lp6 _ z1 x0 fn0 ⟨by omega, by omega⟩ (Nat.lt_succ_self _)
set_option maxHeartbeats 4000000 in
set_option maxRecDepth 100000 in
theorem c22_X11_plain (l : Launch) (g : GD) (h0 : Nat) (h1 : Nat) (h2 : Nat) (h3 : Nat) (h4 : Nat) (x0 : Int32) (x1 : Int32) (h5 : Nat) (h6 : Nat) (h7 : Nat) (h8 : Nat) (h9 : Nat) (h10 : Nat) (h11 : Nat) (vv0 : Value) (x2 : Int32) (x3 : Int32) (fn0 : Nat → Int32) (fn1 : Nat → Int32) (i_x2 : (0 ≤ (Int32.toInt x2) ∧ (Int32.toInt x2) ≤ 1500)) (i_x3 : (0 ≤ (Int32.toInt x3) ∧ (Int32.toInt x3) ≤ 1508)) (sz : Nat) : Met l yX11_plain wsX11_plain ({ frames := 2, cells := 0, slots := 0, locals := 47 }) (va_Pc [.ref h0, .int x0, .int x1] (PW g [(h0, .inr (10, [.ref h1, .ref h2, .ref h5, .ref h6, .ref h7, .ref h8, .ref h9, .ref h10, .ref h11, vv0])), (h1, .inr (4, [.ref h3, .int x2])), (h2, .inr (4, [.ref h4, .int x3])), (h3, .inl (gB g, 1500, .inl fn0)), (h4, .inl (gB g, 1508, .inl fn1))] sz)) (va_Qi (fun (r : Int32) (u : (Int32) × (Int32) × (Nat → Int32) × (Nat → Int32)) => -1 ≤ (Int32.toInt r) ∧ (Int32.toInt r) ≤ 1508 ∧ 0 ≤ (Int32.toInt (u.1)) ∧ (Int32.toInt (u.1)) ≤ 1500 ∧ 0 ≤ (Int32.toInt (u.2.1)) ∧ (Int32.toInt (u.2.1)) ≤ 1508 ∧ ((0 ≤ (Int32.toInt x0) ∧ (Int32.toInt x0) ≤ 65535 ∧ 0 ≤ (Int32.toInt x1) ∧ (Int32.toInt x1) ≤ 8 ∧ (((Int32.toInt x2) ≤ (Int32.toInt x1) ∧ (Int32.toInt (u.2.1)) = 0) ∨ ((Int32.toInt x1) < (Int32.toInt x2) ∧ (Int32.toInt (u.2.1)) = (Int32.toInt x2) - (Int32.toInt x1))) ∧ (Int32.toInt (u.1)) = 0 ∧ (Int32.toInt r) = (Int32.toInt (u.2.1))) ∨ (((Int32.toInt x0) < 0 ∨ 65535 < (Int32.toInt x0) ∨ (Int32.toInt x1) < 0 ∨ 8 < (Int32.toInt x1)) ∧ (Int32.toInt (u.2.1)) = (Int32.toInt x3) ∧ (Int32.toInt (u.1)) = (Int32.toInt x2) ∧ (Int32.toInt r) = -1))) (BW g (va_A [(h0, .inr (10, [.ref h1, .ref h2, .ref h5, .ref h6, .ref h7, .ref h8, .ref h9, .ref h10, .ref h11, vv0])), (h1, .inr (4, [.ref h3, .int x2])), (h2, .inr (4, [.ref h4, .int x3])), (h3, .inl (gB g, 1500, .inl fn0)), (h4, .inl (gB g, 1508, .inl fn1))] sz) (fun u : (Int32) × (Int32) × (Nat → Int32) × (Nat → Int32) => [(h0, .inr (10, [.ref h1, .ref h2, .ref h5, .ref h6, .ref h7, .ref h8, .ref h9, .ref h10, .ref h11, vv0])), (h1, .inr (4, [.ref h3, .int u.1])), (h2, .inr (4, [.ref h4, .int u.2.1])), (h3, .inl (gB g, 1500, .inl u.2.2.1)), (h4, .inl (gB g, 1508, .inl u.2.2.2))])) (va_A [(h0, .inr (10, [.ref h1, .ref h2, .ref h5, .ref h6, .ref h7, .ref h8, .ref h9, .ref h10, .ref h11, vv0])), (h1, .inr (4, [.ref h3, .int x2])), (h2, .inr (4, [.ref h4, .int x3])), (h3, .inl (gB g, 1500, .inl fn0)), (h4, .inl (gB g, 1508, .inl fn1))] sz)) 0 0 (va_A [(h0, .inr (10, [.ref h1, .ref h2, .ref h5, .ref h6, .ref h7, .ref h8, .ref h9, .ref h10, .ref h11, vv0])), (h1, .inr (4, [.ref h3, .int x2])), (h2, .inr (4, [.ref h4, .int x3])), (h3, .inl (gB g, 1500, .inl fn0)), (h4, .inl (gB g, 1508, .inl fn1))] sz) := by
  refine met_i RX11 (by decide) rfl rfl (Nat.le_of_ble_eq_true rfl) [(0, .ref h0), (1, .int x0), (2, .int x1)] rfl ?_
  intro p e s m args below meth c A Q C hnm Rt
  have gx0 := fb_rng x0
  have gx1 := fb_rng x1
  have hiX11 : ∀ w ∈ wsX110, w ∈ wsX11_plain := fun w h => List.mem_cons_of_mem _ (List.mem_append_left _ (List.mem_append_right _ (h)))
  refine r_iload_n 0 1 C dX11_plain_0 rfl ?_
  refine r_iload_n 1 2 C dX11_plain_1 rfl ?_
  refine r_callSi 2 C dX11_plain_2 [] [] [(h0, .inr (10, [.ref h1, .ref h2, .ref h5, .ref h6, .ref h7, .ref h8, .ref h9, .ref h10, .ref h11, vv0])), (h1, .inr (4, [.ref h3, .int x2])), (h2, .inr (4, [.ref h4, .int x3])), (h3, .inl (gB g, 1500, .inl fn0)), (h4, .inl (gB g, 1508, .inl fn1))] (fun sz => c12_X11_isKeyAndNumber l g x0 x1  sz) gX11_plain_X11_isKeyAndNumber rfl ⟨rfl, rfl⟩ 2 (by decide) ⟨Nat.le_of_ble_eq_true rfl, Nat.le_of_ble_eq_true rfl⟩ [] [0, 1, 2, 3, 4] rfl rfl (by decide) (by decide) (by decide) rfl rfl (Nat.le_of_ble_eq_true rfl) ⟨Nat.le_of_ble_eq_true rfl, Nat.le_of_ble_eq_true rfl⟩ (fun r1 _ w2 => ?_)
  refine r_ws [(h0, .inr (10, [.ref h1, .ref h2, .ref h5, .ref h6, .ref h7, .ref h8, .ref h9, .ref h10, .ref h11, vv0])), (h1, .inr (4, [.ref h3, .int x2])), (h2, .inr (4, [.ref h4, .int x3])), (h3, .inl (gB g, 1500, .inl fn0)), (h4, .inl (gB g, 1508, .inl fn1))] rfl ?_
  have w3 : (((Int32.toInt x0) < 0 ∧ r1 = 0) ∨ (¬ ((Int32.toInt x0) < 0) ∧ 65535 < (Int32.toInt x0) ∧ r1 = 0) ∨ (¬ ((Int32.toInt x0) < 0) ∧ ¬ (65535 < (Int32.toInt x0)) ∧ (Int32.toInt x1) < 0 ∧ r1 = 0) ∨ (¬ ((Int32.toInt x0) < 0) ∧ ¬ (65535 < (Int32.toInt x0)) ∧ ¬ ((Int32.toInt x1) < 0) ∧ 8 < (Int32.toInt x1) ∧ r1 = 0) ∨ (¬ ((Int32.toInt x0) < 0) ∧ ¬ (65535 < (Int32.toInt x0)) ∧ ¬ ((Int32.toInt x1) < 0) ∧ ¬ (8 < (Int32.toInt x1)) ∧ r1 = 1)) := w2
  rcases w3 with ⟨k4, k5⟩ | w3
  · skip
    have k5 := k5.symm
    subst k5
    refine r_if_ne_f 5 10 C dX11_plain_5 (by decide) (by decide) ?_
    refine r_iconst 8 (-1) C dX11_plain_8 (by decide) ?_
    exact r_iret 9 Rt dX11_plain_9 (x2, x3, fn0, fn1) (show -1 ≤ (Int32.toInt (-1)) ∧ (Int32.toInt (-1)) ≤ 1508 ∧ 0 ≤ (Int32.toInt x2) ∧ (Int32.toInt x2) ≤ 1500 ∧ 0 ≤ (Int32.toInt x3) ∧ (Int32.toInt x3) ≤ 1508 ∧ ((0 ≤ (Int32.toInt x0) ∧ (Int32.toInt x0) ≤ 65535 ∧ 0 ≤ (Int32.toInt x1) ∧ (Int32.toInt x1) ≤ 8 ∧ (((Int32.toInt x2) ≤ (Int32.toInt x1) ∧ (Int32.toInt x3) = 0) ∨ ((Int32.toInt x1) < (Int32.toInt x2) ∧ (Int32.toInt x3) = (Int32.toInt x2) - (Int32.toInt x1))) ∧ (Int32.toInt x2) = 0 ∧ (-1) = (Int32.toInt x3)) ∨ (((Int32.toInt x0) < 0 ∨ 65535 < (Int32.toInt x0) ∨ (Int32.toInt x1) < 0 ∨ 8 < (Int32.toInt x1)) ∧ (Int32.toInt x3) = (Int32.toInt x3) ∧ (Int32.toInt x2) = (Int32.toInt x2) ∧ (-1) = -1)) from ⟨(by ((repeat' apply And.intro) <;> first | trivial | rfl | assumption | omega | decide | exact Or.inl rfl | exact Or.inr (Or.inl rfl) | exact Or.inr (Or.inr rfl))), (by ((repeat' apply And.intro) <;> first | trivial | rfl | assumption | omega | decide | exact Or.inl rfl | exact Or.inr (Or.inl rfl) | exact Or.inr (Or.inr rfl))), i_x2.1, i_x2.2, i_x3.1, i_x3.2, (by ((repeat' apply And.intro) <;> first | trivial | rfl | assumption | omega | decide | exact Or.inl rfl | exact Or.inr (Or.inl rfl) | exact Or.inr (Or.inr rfl)))⟩) [0, 1, 2, 3, 4] (by decide) rfl (Nat.le_of_ble_eq_true rfl) (Nat.le_of_ble_eq_true rfl)
  rcases w3 with ⟨k6, k7, k8⟩ | w3
  · skip
    have k8 := k8.symm
    subst k8
    refine r_if_ne_f 5 10 C dX11_plain_5 (by decide) (by decide) ?_
    refine r_iconst 8 (-1) C dX11_plain_8 (by decide) ?_
    exact r_iret 9 Rt dX11_plain_9 (x2, x3, fn0, fn1) (show -1 ≤ (Int32.toInt (-1)) ∧ (Int32.toInt (-1)) ≤ 1508 ∧ 0 ≤ (Int32.toInt x2) ∧ (Int32.toInt x2) ≤ 1500 ∧ 0 ≤ (Int32.toInt x3) ∧ (Int32.toInt x3) ≤ 1508 ∧ ((0 ≤ (Int32.toInt x0) ∧ (Int32.toInt x0) ≤ 65535 ∧ 0 ≤ (Int32.toInt x1) ∧ (Int32.toInt x1) ≤ 8 ∧ (((Int32.toInt x2) ≤ (Int32.toInt x1) ∧ (Int32.toInt x3) = 0) ∨ ((Int32.toInt x1) < (Int32.toInt x2) ∧ (Int32.toInt x3) = (Int32.toInt x2) - (Int32.toInt x1))) ∧ (Int32.toInt x2) = 0 ∧ (-1) = (Int32.toInt x3)) ∨ (((Int32.toInt x0) < 0 ∨ 65535 < (Int32.toInt x0) ∨ (Int32.toInt x1) < 0 ∨ 8 < (Int32.toInt x1)) ∧ (Int32.toInt x3) = (Int32.toInt x3) ∧ (Int32.toInt x2) = (Int32.toInt x2) ∧ (-1) = -1)) from ⟨(by ((repeat' apply And.intro) <;> first | trivial | rfl | assumption | omega | decide | exact Or.inl rfl | exact Or.inr (Or.inl rfl) | exact Or.inr (Or.inr rfl))), (by ((repeat' apply And.intro) <;> first | trivial | rfl | assumption | omega | decide | exact Or.inl rfl | exact Or.inr (Or.inl rfl) | exact Or.inr (Or.inr rfl))), i_x2.1, i_x2.2, i_x3.1, i_x3.2, (by ((repeat' apply And.intro) <;> first | trivial | rfl | assumption | omega | decide | exact Or.inl rfl | exact Or.inr (Or.inl rfl) | exact Or.inr (Or.inr rfl)))⟩) [0, 1, 2, 3, 4] (by decide) rfl (Nat.le_of_ble_eq_true rfl) (Nat.le_of_ble_eq_true rfl)
  rcases w3 with ⟨k9, k10, k11, k12⟩ | w3
  · skip
    have k12 := k12.symm
    subst k12
    refine r_if_ne_f 5 10 C dX11_plain_5 (by decide) (by decide) ?_
    refine r_iconst 8 (-1) C dX11_plain_8 (by decide) ?_
    exact r_iret 9 Rt dX11_plain_9 (x2, x3, fn0, fn1) (show -1 ≤ (Int32.toInt (-1)) ∧ (Int32.toInt (-1)) ≤ 1508 ∧ 0 ≤ (Int32.toInt x2) ∧ (Int32.toInt x2) ≤ 1500 ∧ 0 ≤ (Int32.toInt x3) ∧ (Int32.toInt x3) ≤ 1508 ∧ ((0 ≤ (Int32.toInt x0) ∧ (Int32.toInt x0) ≤ 65535 ∧ 0 ≤ (Int32.toInt x1) ∧ (Int32.toInt x1) ≤ 8 ∧ (((Int32.toInt x2) ≤ (Int32.toInt x1) ∧ (Int32.toInt x3) = 0) ∨ ((Int32.toInt x1) < (Int32.toInt x2) ∧ (Int32.toInt x3) = (Int32.toInt x2) - (Int32.toInt x1))) ∧ (Int32.toInt x2) = 0 ∧ (-1) = (Int32.toInt x3)) ∨ (((Int32.toInt x0) < 0 ∨ 65535 < (Int32.toInt x0) ∨ (Int32.toInt x1) < 0 ∨ 8 < (Int32.toInt x1)) ∧ (Int32.toInt x3) = (Int32.toInt x3) ∧ (Int32.toInt x2) = (Int32.toInt x2) ∧ (-1) = -1)) from ⟨(by ((repeat' apply And.intro) <;> first | trivial | rfl | assumption | omega | decide | exact Or.inl rfl | exact Or.inr (Or.inl rfl) | exact Or.inr (Or.inr rfl))), (by ((repeat' apply And.intro) <;> first | trivial | rfl | assumption | omega | decide | exact Or.inl rfl | exact Or.inr (Or.inl rfl) | exact Or.inr (Or.inr rfl))), i_x2.1, i_x2.2, i_x3.1, i_x3.2, (by ((repeat' apply And.intro) <;> first | trivial | rfl | assumption | omega | decide | exact Or.inl rfl | exact Or.inr (Or.inl rfl) | exact Or.inr (Or.inr rfl)))⟩) [0, 1, 2, 3, 4] (by decide) rfl (Nat.le_of_ble_eq_true rfl) (Nat.le_of_ble_eq_true rfl)
  rcases w3 with ⟨k13, k14, k15, k16, k17⟩ | w3
  · skip
    have k17 := k17.symm
    subst k17
    refine r_if_ne_f 5 10 C dX11_plain_5 (by decide) (by decide) ?_
    refine r_iconst 8 (-1) C dX11_plain_8 (by decide) ?_
    exact r_iret 9 Rt dX11_plain_9 (x2, x3, fn0, fn1) (show -1 ≤ (Int32.toInt (-1)) ∧ (Int32.toInt (-1)) ≤ 1508 ∧ 0 ≤ (Int32.toInt x2) ∧ (Int32.toInt x2) ≤ 1500 ∧ 0 ≤ (Int32.toInt x3) ∧ (Int32.toInt x3) ≤ 1508 ∧ ((0 ≤ (Int32.toInt x0) ∧ (Int32.toInt x0) ≤ 65535 ∧ 0 ≤ (Int32.toInt x1) ∧ (Int32.toInt x1) ≤ 8 ∧ (((Int32.toInt x2) ≤ (Int32.toInt x1) ∧ (Int32.toInt x3) = 0) ∨ ((Int32.toInt x1) < (Int32.toInt x2) ∧ (Int32.toInt x3) = (Int32.toInt x2) - (Int32.toInt x1))) ∧ (Int32.toInt x2) = 0 ∧ (-1) = (Int32.toInt x3)) ∨ (((Int32.toInt x0) < 0 ∨ 65535 < (Int32.toInt x0) ∨ (Int32.toInt x1) < 0 ∨ 8 < (Int32.toInt x1)) ∧ (Int32.toInt x3) = (Int32.toInt x3) ∧ (Int32.toInt x2) = (Int32.toInt x2) ∧ (-1) = -1)) from ⟨(by ((repeat' apply And.intro) <;> first | trivial | rfl | assumption | omega | decide | exact Or.inl rfl | exact Or.inr (Or.inl rfl) | exact Or.inr (Or.inr rfl))), (by ((repeat' apply And.intro) <;> first | trivial | rfl | assumption | omega | decide | exact Or.inl rfl | exact Or.inr (Or.inl rfl) | exact Or.inr (Or.inr rfl))), i_x2.1, i_x2.2, i_x3.1, i_x3.2, (by ((repeat' apply And.intro) <;> first | trivial | rfl | assumption | omega | decide | exact Or.inl rfl | exact Or.inr (Or.inl rfl) | exact Or.inr (Or.inr rfl)))⟩) [0, 1, 2, 3, 4] (by decide) rfl (Nat.le_of_ble_eq_true rfl) (Nat.le_of_ble_eq_true rfl)
  obtain ⟨k18, k19, k20, k21, k22⟩ := w3
  have k22 := k22.symm
  subst k22
  refine r_if_ne_t 5 10 C dX11_plain_5 (by decide) (by decide) ?_
  refine r_aload_n 10 0 C dX11_plain_10 rfl ?_
  refine r_get 11 C dX11_plain_11 (k := 0) 0 rfl rfl hiX11 (by decide) rfl (mg 1 rfl) (Or.inl rfl) rfl ?_
  refine r_iload_n 14 1 C dX11_plain_14 rfl ?_
  refine r_iconst 15 0 C dX11_plain_15 (by decide) ?_
  refine r_aload_n 16 0 C dX11_plain_16 rfl ?_
  refine r_get 17 C dX11_plain_17 (k := 0) 0 rfl rfl hiX11 (by decide) rfl (mg 1 rfl) (Or.inl rfl) rfl ?_
  refine r_callVi 20 C dX11_plain_20 [.int 0, .int x0, .ref h1] [(h1, .inr (4, [.ref h3, .int x2]))] [(h0, .inr (10, [.ref h1, .ref h2, .ref h5, .ref h6, .ref h7, .ref h8, .ref h9, .ref h10, .ref h11, vv0])), (h2, .inr (4, [.ref h4, .int x3])), (h3, .inl (gB g, 1500, .inl fn0)), (h4, .inl (gB g, 1508, .inl fn1))] (fun sz => c0_X5_size l g h1 h3 x2 i_x2 sz) gX11_plain_X5_size rfl ⟨rfl, rfl⟩ 0 (by decide) ⟨Nat.le_of_ble_eq_true rfl, Nat.le_of_ble_eq_true rfl⟩ 1 rfl rfl [1] [0, 2, 3, 4] rfl rfl (by decide) (by decide) (by decide) rfl rfl (Nat.le_of_ble_eq_true rfl) ⟨Nat.le_of_ble_eq_true rfl, Nat.le_of_ble_eq_true rfl⟩ (fun r23 _ w24 => ?_)
  refine r_ws [(h0, .inr (10, [.ref h1, .ref h2, .ref h5, .ref h6, .ref h7, .ref h8, .ref h9, .ref h10, .ref h11, vv0])), (h2, .inr (4, [.ref h4, .int x3])), (h3, .inl (gB g, 1500, .inl fn0)), (h4, .inl (gB g, 1508, .inl fn1)), (h1, .inr (4, [.ref h3, .int x2]))] rfl ?_
  have p25 : x2 = r23 := (w24).symm
  subst p25
  refine r_callVv 23 C dX11_plain_23 [] [(h1, .inr (4, [.ref h3, .int x2])), (h3, .inl (gB g, 1500, .inl fn0))] [(h0, .inr (10, [.ref h1, .ref h2, .ref h5, .ref h6, .ref h7, .ref h8, .ref h9, .ref h10, .ref h11, vv0])), (h2, .inr (4, [.ref h4, .int x3])), (h4, .inl (gB g, 1508, .inl fn1))] (fun sz => c21_X5_decipher l g h1 h3 x0 0 x2 x2 fn0 i_x2 sz) gX11_plain_X5_decipher rfl ⟨rfl, rfl⟩ 3 (by decide) ⟨Nat.le_of_ble_eq_true rfl, Nat.le_of_ble_eq_true rfl⟩ 4 rfl rfl [4, 2] [0, 1, 3] rfl rfl (by decide) (by decide) (by decide) rfl rfl (Nat.le_of_ble_eq_true rfl) ⟨Nat.le_of_ble_eq_true rfl, Nat.le_of_ble_eq_true rfl⟩ (fun  f26 w27 => ?_)
  refine r_ws [(h0, .inr (10, [.ref h1, .ref h2, .ref h5, .ref h6, .ref h7, .ref h8, .ref h9, .ref h10, .ref h11, vv0])), (h2, .inr (4, [.ref h4, .int x3])), (h4, .inl (gB g, 1508, .inl fn1)), (h1, .inr (4, [.ref h3, .int x2])), (h3, .inl (gB g, 1500, .inl f26))] rfl ?_
  refine r_aload_n 26 0 C dX11_plain_26 rfl ?_
  refine r_get 27 C dX11_plain_27 (k := 1) 0 rfl rfl hiX11 (by decide) rfl (mg 2 rfl) (Or.inl rfl) rfl ?_
  refine r_iconst 30 0 C dX11_plain_30 (by decide) ?_
  refine r_callVv 31 C dX11_plain_31 [] [(h2, .inr (4, [.ref h4, .int x3]))] [(h0, .inr (10, [.ref h1, .ref h2, .ref h5, .ref h6, .ref h7, .ref h8, .ref h9, .ref h10, .ref h11, vv0])), (h4, .inl (gB g, 1508, .inl fn1)), (h1, .inr (4, [.ref h3, .int x2])), (h3, .inl (gB g, 1500, .inl f26))] (fun sz => c13_X5_cut l g h2 0 h4 x3 i_x3 sz) gX11_plain_X5_cut rfl ⟨rfl, rfl⟩ 1 (by decide) ⟨Nat.le_of_ble_eq_true rfl, Nat.le_of_ble_eq_true rfl⟩ 1 rfl rfl [1] [0, 2, 3, 4] rfl rfl (by decide) (by decide) (by decide) rfl rfl (Nat.le_of_ble_eq_true rfl) ⟨Nat.le_of_ble_eq_true rfl, Nat.le_of_ble_eq_true rfl⟩ (fun  z28 w29 => ?_)
  refine r_ws [(h0, .inr (10, [.ref h1, .ref h2, .ref h5, .ref h6, .ref h7, .ref h8, .ref h9, .ref h10, .ref h11, vv0])), (h4, .inl (gB g, 1508, .inl fn1)), (h1, .inr (4, [.ref h3, .int x2])), (h3, .inl (gB g, 1500, .inl f26)), (h2, .inr (4, [.ref h4, .int z28]))] rfl ?_
  have p30 : 0 ≤ (Int32.toInt z28) := w29.2.1
  have p31 : (Int32.toInt z28) ≤ 1508 := w29.2.2
  have w32 : (((0 : Int) < 0 ∧ (Int32.toInt z28) = (Int32.toInt x3)) ∨ (¬ ((0 : Int) < 0) ∧ (Int32.toInt x3) < (0 : Int) ∧ (Int32.toInt z28) = (Int32.toInt x3)) ∨ (¬ ((0 : Int) < 0) ∧ ¬ ((Int32.toInt x3) < (0 : Int)) ∧ (Int32.toInt z28) = (0 : Int))) := w29.1
  rcases w32 with ⟨k33, k34⟩ | w32
  · skip
    exact absurd trivial (by omega)
  rcases w32 with ⟨k35, k36, k37⟩ | w32
  · skip
    exact absurd trivial (by omega)
  obtain ⟨k38, k39, k40⟩ := w32
  refine r_aload_n 34 0 C dX11_plain_34 rfl ?_
  refine r_get 35 C dX11_plain_35 (k := 1) 0 rfl rfl hiX11 (by decide) rfl (mg 2 rfl) (Or.inl rfl) rfl ?_
  refine r_aload_n 38 0 C dX11_plain_38 rfl ?_
  refine r_get 39 C dX11_plain_39 (k := 0) 0 rfl rfl hiX11 (by decide) rfl (mg 1 rfl) (Or.inl rfl) rfl ?_
  refine r_iload_n 42 2 C dX11_plain_42 rfl ?_
  refine r_callVv 43 C dX11_plain_43 [] [(h2, .inr (4, [.ref h4, .int z28])), (h1, .inr (4, [.ref h3, .int x2])), (h4, .inl (gB g, 1508, .inl fn1)), (h3, .inl (gB g, 1500, .inl f26))] [(h0, .inr (10, [.ref h1, .ref h2, .ref h5, .ref h6, .ref h7, .ref h8, .ref h9, .ref h10, .ref h11, vv0]))] (fun sz => c16_X5_addAll l g h2 h1 h4 h3 x1 z28 x2 fn1 f26 ⟨p30, p31⟩ i_x2 sz) gX11_plain_X5_addAll rfl ⟨rfl, rfl⟩ 2 (by decide) ⟨Nat.le_of_ble_eq_true rfl, Nat.le_of_ble_eq_true rfl⟩ 4 rfl rfl [4, 2, 1, 3] [0] rfl rfl (by decide) (by decide) (by decide) rfl rfl (Nat.le_of_ble_eq_true rfl) ⟨Nat.le_of_ble_eq_true rfl, Nat.le_of_ble_eq_true rfl⟩ (fun  u44 w43 => ?_)
  obtain ⟨z41, f42⟩ := u44
  refine r_ws [(h0, .inr (10, [.ref h1, .ref h2, .ref h5, .ref h6, .ref h7, .ref h8, .ref h9, .ref h10, .ref h11, vv0])), (h2, .inr (4, [.ref h4, .int z41])), (h1, .inr (4, [.ref h3, .int x2])), (h4, .inl (gB g, 1508, .inl f42)), (h3, .inl (gB g, 1500, .inl f26))] rfl ?_
  have p45 : 0 ≤ (Int32.toInt z41) := w43.1
  have p46 : (Int32.toInt z41) ≤ 1508 := w43.2.1
  have p47 : (((Int32.toInt x1) ≤ 0 ∧ (((Int32.toInt x2) ≤ 0 ∧ (Int32.toInt z41) = (Int32.toInt z28)) ∨ (0 < (Int32.toInt x2) ∧ (Int32.toInt z28) + (Int32.toInt x2) ≤ 1508 ∧ (Int32.toInt z41) = (Int32.toInt z28) + (Int32.toInt x2)) ∨ 1508 < (Int32.toInt z28) + (Int32.toInt x2))) ∨ (0 ≤ (Int32.toInt x1) ∧ (((Int32.toInt x2) ≤ (Int32.toInt x1) ∧ (Int32.toInt z41) = (Int32.toInt z28)) ∨ ((Int32.toInt x1) < (Int32.toInt x2) ∧ (Int32.toInt z28) + (Int32.toInt x2) - (Int32.toInt x1) ≤ 1508 ∧ (Int32.toInt z41) = (Int32.toInt z28) + (Int32.toInt x2) - (Int32.toInt x1)) ∨ 1508 < (Int32.toInt z28) + (Int32.toInt x2) - (Int32.toInt x1)))) := w43.2.2
  refine r_aload_n 46 0 C dX11_plain_46 rfl ?_
  refine r_get 47 C dX11_plain_47 (k := 0) 0 rfl rfl hiX11 (by decide) rfl (mg 1 rfl) (Or.inl rfl) rfl ?_
  refine r_iconst 50 0 C dX11_plain_50 (by decide) ?_
  refine r_callVv 51 C dX11_plain_51 [] [(h1, .inr (4, [.ref h3, .int x2]))] [(h0, .inr (10, [.ref h1, .ref h2, .ref h5, .ref h6, .ref h7, .ref h8, .ref h9, .ref h10, .ref h11, vv0])), (h2, .inr (4, [.ref h4, .int z41])), (h4, .inl (gB g, 1508, .inl f42)), (h3, .inl (gB g, 1500, .inl f26))] (fun sz => c4_X5_cut l g h1 0 h3 x2 i_x2 sz) gX11_plain_X5_cut rfl ⟨rfl, rfl⟩ 1 (by decide) ⟨Nat.le_of_ble_eq_true rfl, Nat.le_of_ble_eq_true rfl⟩ 2 rfl rfl [2] [0, 1, 3, 4] rfl rfl (by decide) (by decide) (by decide) rfl rfl (Nat.le_of_ble_eq_true rfl) ⟨Nat.le_of_ble_eq_true rfl, Nat.le_of_ble_eq_true rfl⟩ (fun  z48 w49 => ?_)
  refine r_ws [(h0, .inr (10, [.ref h1, .ref h2, .ref h5, .ref h6, .ref h7, .ref h8, .ref h9, .ref h10, .ref h11, vv0])), (h2, .inr (4, [.ref h4, .int z41])), (h4, .inl (gB g, 1508, .inl f42)), (h3, .inl (gB g, 1500, .inl f26)), (h1, .inr (4, [.ref h3, .int z48]))] rfl ?_
  have p50 : 0 ≤ (Int32.toInt z48) := w49.2.1
  have p51 : (Int32.toInt z48) ≤ 1500 := w49.2.2
  have w52 : (((0 : Int) < 0 ∧ (Int32.toInt z48) = (Int32.toInt x2)) ∨ (¬ ((0 : Int) < 0) ∧ (Int32.toInt x2) < (0 : Int) ∧ (Int32.toInt z48) = (Int32.toInt x2)) ∨ (¬ ((0 : Int) < 0) ∧ ¬ ((Int32.toInt x2) < (0 : Int)) ∧ (Int32.toInt z48) = (0 : Int))) := w49.1
  rcases w52 with ⟨k53, k54⟩ | w52
  · skip
    exact absurd trivial (by omega)
  rcases w52 with ⟨k55, k56, k57⟩ | w52
  · skip
    exact absurd trivial (by omega)
  obtain ⟨k58, k59, k60⟩ := w52
  refine r_aload_n 54 0 C dX11_plain_54 rfl ?_
  refine r_get 55 C dX11_plain_55 (k := 1) 0 rfl rfl hiX11 (by decide) rfl (mg 2 rfl) (Or.inl rfl) rfl ?_
  refine r_callVi 58 C dX11_plain_58 [] [(h2, .inr (4, [.ref h4, .int z41]))] [(h0, .inr (10, [.ref h1, .ref h2, .ref h5, .ref h6, .ref h7, .ref h8, .ref h9, .ref h10, .ref h11, vv0])), (h4, .inl (gB g, 1508, .inl f42)), (h3, .inl (gB g, 1500, .inl f26)), (h1, .inr (4, [.ref h3, .int z48]))] (fun sz => c19_X5_size l g h2 h4 z41 ⟨p45, p46⟩ sz) gX11_plain_X5_size rfl ⟨rfl, rfl⟩ 0 (by decide) ⟨Nat.le_of_ble_eq_true rfl, Nat.le_of_ble_eq_true rfl⟩ 1 rfl rfl [1] [0, 2, 3, 4] rfl rfl (by decide) (by decide) (by decide) rfl rfl (Nat.le_of_ble_eq_true rfl) ⟨Nat.le_of_ble_eq_true rfl, Nat.le_of_ble_eq_true rfl⟩ (fun r61 _ w62 => ?_)
  refine r_ws [(h0, .inr (10, [.ref h1, .ref h2, .ref h5, .ref h6, .ref h7, .ref h8, .ref h9, .ref h10, .ref h11, vv0])), (h4, .inl (gB g, 1508, .inl f42)), (h3, .inl (gB g, 1500, .inl f26)), (h1, .inr (4, [.ref h3, .int z48])), (h2, .inr (4, [.ref h4, .int z41]))] rfl ?_
  have p63 : z41 = r61 := (w62).symm
  subst p63
  exact r_iret 61 Rt dX11_plain_61 (z48, z41, f26, f42) (show -1 ≤ (Int32.toInt z41) ∧ (Int32.toInt z41) ≤ 1508 ∧ 0 ≤ (Int32.toInt z48) ∧ (Int32.toInt z48) ≤ 1500 ∧ 0 ≤ (Int32.toInt z41) ∧ (Int32.toInt z41) ≤ 1508 ∧ ((0 ≤ (Int32.toInt x0) ∧ (Int32.toInt x0) ≤ 65535 ∧ 0 ≤ (Int32.toInt x1) ∧ (Int32.toInt x1) ≤ 8 ∧ (((Int32.toInt x2) ≤ (Int32.toInt x1) ∧ (Int32.toInt z41) = 0) ∨ ((Int32.toInt x1) < (Int32.toInt x2) ∧ (Int32.toInt z41) = (Int32.toInt x2) - (Int32.toInt x1))) ∧ (Int32.toInt z48) = 0 ∧ (Int32.toInt z41) = (Int32.toInt z41)) ∨ (((Int32.toInt x0) < 0 ∨ 65535 < (Int32.toInt x0) ∨ (Int32.toInt x1) < 0 ∨ 8 < (Int32.toInt x1)) ∧ (Int32.toInt z41) = (Int32.toInt x3) ∧ (Int32.toInt z48) = (Int32.toInt x2) ∧ (Int32.toInt z41) = -1)) from ⟨(iv_wide (c := (-1)) (d := 1508) ⟨p45, p46⟩ (by decide) (by decide)).1, (show _ ∧ _ from ⟨p45, p46⟩).2, (show _ ∧ _ from ⟨p50, p51⟩).1, (show _ ∧ _ from ⟨p50, p51⟩).2, (show _ ∧ _ from ⟨p45, p46⟩).1, (show _ ∧ _ from ⟨p45, p46⟩).2, (by ((repeat' apply And.intro) <;> first | trivial | rfl | assumption | omega | decide | exact Or.inl rfl | exact Or.inr (Or.inl rfl) | exact Or.inr (Or.inr rfl)))⟩) [0, 3, 4, 2, 1] (by decide) rfl (Nat.le_of_ble_eq_true rfl) (Nat.le_of_ble_eq_true rfl)
set_option maxHeartbeats 4000000 in
set_option maxRecDepth 100000 in
theorem c23_X5_get (l : Launch) (g : GD) (h0 : Nat) (h1 : Nat) (y0 : Int64) (x0 : Int32) (fn0 : Nat → Int32) (i_x0 : (0 ≤ (Int32.toInt x0) ∧ (Int32.toInt x0) ≤ 1508)) (sz : Nat) : Met l yX5_get wsX5_get ({ frames := 0, cells := 0, slots := 0, locals := 0 }) (va_Pc [.ref h0, .long y0] (PW g [(h0, .inr (4, [.ref h1, .int x0])), (h1, .inl (gB g, 1508, .inl fn0))] sz)) (va_Qi (fun (r : Int32) (_ : Unit) => -1 ≤ (Int32.toInt r) ∧ (Int32.toInt r) ≤ 255) (BW g (va_A [(h0, .inr (4, [.ref h1, .int x0])), (h1, .inl (gB g, 1508, .inl fn0))] sz) (fun _ : Unit => [(h0, .inr (4, [.ref h1, .int x0])), (h1, .inl (gB g, 1508, .inl fn0))])) (va_A [(h0, .inr (4, [.ref h1, .int x0])), (h1, .inl (gB g, 1508, .inl fn0))] sz)) 0 0 (va_A [(h0, .inr (4, [.ref h1, .int x0])), (h1, .inl (gB g, 1508, .inl fn0))] sz) := by
  refine met_i RX5 (by decide) rfl rfl (Nat.le_of_ble_eq_true rfl) [(0, .ref h0), (1, .long y0)] rfl ?_
  intro p e s m args below meth c A Q C hnm Rt
  have gy0 := fb_rngL y0
  have hiX5 : ∀ w ∈ wsX50, w ∈ wsX5_get := fun w h => List.mem_cons_of_mem _ (List.mem_append_right _ (h))
  refine r_lload_n 0 1 C dX5_get_0 rfl ?_
  refine r_lconst 1 0 C dX5_get_1 (by decide) ?_
  obtain ⟨z1, ez1⟩ : ∃ z_9, lg_cmp y0 0 = z_9 := ⟨_, rfl⟩
  have l1z1 : (Int32.toInt z1) < 0 ↔ (Int64.toInt y0) < 0 := by rw [← ez1]; exact lgI1 y0 0
  have l2z1 : 0 < (Int32.toInt z1) ↔ 0 < (Int64.toInt y0) := by rw [← ez1]; exact lgI2 y0 0
  refine r_lcmp 2 z1 C dX5_get_2 ez1 ?_
  refine r_if_lt 3 30 C dX5_get_3 (by decide) (fun c2 => ?_) (fun c2 => ?_)
  · skip
    have k3 : (Int32.toInt z1) < 0 := (fa_lt z1 0).mp c2
    refine r_iconst 30 (-1) C dX5_get_30 (by decide) ?_
    exact r_iret 31 Rt dX5_get_31 () (show -1 ≤ (Int32.toInt (-1)) ∧ (Int32.toInt (-1)) ≤ 255 from ⟨(by ((repeat' apply And.intro) <;> first | trivial | rfl | assumption | omega | decide | exact Or.inl rfl | exact Or.inr (Or.inl rfl) | exact Or.inr (Or.inr rfl))), (by ((repeat' apply And.intro) <;> first | trivial | rfl | assumption | omega | decide | exact Or.inl rfl | exact Or.inr (Or.inl rfl) | exact Or.inr (Or.inr rfl)))⟩) [0, 1] (by decide) rfl (Nat.le_of_ble_eq_true rfl) (Nat.le_of_ble_eq_true rfl)
  · skip
    have k4 : ¬ ((Int32.toInt z1) < 0) := fun h_9 => c2 ((fa_lt z1 0).mpr h_9)
    refine r_lload_n 6 1 C dX5_get_6 rfl ?_
    refine r_aload_n 7 0 C dX5_get_7 rfl ?_
    refine r_get 8 C dX5_get_8 (k := 1) 0 rfl rfl hiX5 (by decide) rfl (mg 1 rfl) (Or.inl rfl) rfl ?_
    obtain ⟨z5, ez5⟩ : ∃ z_9, Int32.toInt64 x0 = z_9 := ⟨_, rfl⟩
    have tz5 : (Int64.toInt z5) = (Int32.toInt x0) := by rw [← ez5]; exact Int32.toInt_toInt64 _
    refine r_i2l 11 z5 C dX5_get_11 ez5 ?_
    obtain ⟨z6, ez6⟩ : ∃ z_9, lg_cmp y0 z5 = z_9 := ⟨_, rfl⟩
    have l1z6 : (Int32.toInt z6) < 0 ↔ (Int64.toInt y0) < (Int64.toInt z5) := by rw [← ez6]; exact lgI1 y0 z5
    have l2z6 : 0 < (Int32.toInt z6) ↔ (Int64.toInt z5) < (Int64.toInt y0) := by rw [← ez6]; exact lgI2 y0 z5
    refine r_lcmp 12 z6 C dX5_get_12 ez6 ?_
    refine r_if_ge 13 30 C dX5_get_13 (by decide) (fun c7 => ?_) (fun c7 => ?_)
    · skip
      have k8 : 0 ≤ (Int32.toInt z6) := (fa_le 0 z6).mp c7
      refine r_iconst 30 (-1) C dX5_get_30 (by decide) ?_
      exact r_iret 31 Rt dX5_get_31 () (show -1 ≤ (Int32.toInt (-1)) ∧ (Int32.toInt (-1)) ≤ 255 from ⟨(by ((repeat' apply And.intro) <;> first | trivial | rfl | assumption | omega | decide | exact Or.inl rfl | exact Or.inr (Or.inl rfl) | exact Or.inr (Or.inr rfl))), (by ((repeat' apply And.intro) <;> first | trivial | rfl | assumption | omega | decide | exact Or.inl rfl | exact Or.inr (Or.inl rfl) | exact Or.inr (Or.inr rfl)))⟩) [0, 1] (by decide) rfl (Nat.le_of_ble_eq_true rfl) (Nat.le_of_ble_eq_true rfl)
    · skip
      have k9 : ¬ (0 ≤ (Int32.toInt z6)) := fun h_9 => c7 ((fa_le 0 z6).mpr h_9)
      refine r_aload_n 16 0 C dX5_get_16 rfl ?_
      refine r_get 17 C dX5_get_17 (k := 0) 0 rfl rfl hiX5 (by decide) rfl (mg 2 rfl) (Or.inl rfl) rfl ?_
      refine r_lload_n 20 1 C dX5_get_20 rfl ?_
      obtain ⟨z10, ez10⟩ : ∃ z_9, Int64.toInt32 y0 = z_9 := ⟨_, rfl⟩
      have tz10 : (Int32.toInt z10) = (Int64.toInt y0) := by rw [← ez10]; exact l2i_in (by omega) (by omega)
      refine r_l2i 21 z10 C dX5_get_21 ez10 ?_
      obtain ⟨z11, ez11⟩ : ∃ z_9, fn0 (Int32.toNatClampNeg z10) = z_9 := ⟨_, rfl⟩
      refine r_bald 22 z11 C dX5_get_22 1 rfl (vinI (by omega) (by omega)) ez11 ?_
      have gz11 := fb_rng z11
      refine r_sipush 23 255 C dX5_get_23 (by decide) ?_
      obtain ⟨z12, ez12⟩ : ∃ z_9, z11 &&& 255 = z_9 := ⟨_, rfl⟩
      have tz12 : 0 ≤ (Int32.toInt z12) ∧ (Int32.toInt z12) ≤ 255 := by rw [← ez12]; exact and_255 z11
      refine r_iand 26 z12 C dX5_get_26 ez12 ?_
      refine r_goto 27 31 C dX5_get_27 (by decide) ?_
      exact r_iret 31 Rt dX5_get_31 () (show -1 ≤ (Int32.toInt z12) ∧ (Int32.toInt z12) ≤ 255 from ⟨(iv_wide (c := (-1)) (d := 255) tz12 (by decide) (by decide)).1, (iv_wide (c := (-1)) (d := 255) tz12 (by decide) (by decide)).2⟩) [0, 1] (by decide) rfl (Nat.le_of_ble_eq_true rfl) (Nat.le_of_ble_eq_true rfl)
set_option maxHeartbeats 4000000 in
set_option maxRecDepth 100000 in
theorem c24_X11_octet (l : Launch) (g : GD) (h0 : Nat) (h1 : Nat) (h2 : Nat) (x0 : Int32) (h3 : Nat) (h4 : Nat) (h5 : Nat) (h6 : Nat) (h7 : Nat) (h8 : Nat) (h9 : Nat) (h10 : Nat) (vv0 : Value) (x1 : Int32) (fn0 : Nat → Int32) (i_x1 : (0 ≤ (Int32.toInt x1) ∧ (Int32.toInt x1) ≤ 1508)) (sz : Nat) : Met l yX11_octet wsX11_octet ({ frames := 1, cells := 0, slots := 0, locals := 22 }) (va_Pc [.ref h0, .int x0] (PW g [(h0, .inr (10, [.ref h3, .ref h1, .ref h4, .ref h5, .ref h6, .ref h7, .ref h8, .ref h9, .ref h10, vv0])), (h1, .inr (4, [.ref h2, .int x1])), (h2, .inl (gB g, 1508, .inl fn0))] sz)) (va_Qi (fun (r : Int32) (_ : Unit) => -1 ≤ (Int32.toInt r) ∧ (Int32.toInt r) ≤ 255) (BW g (va_A [(h0, .inr (10, [.ref h3, .ref h1, .ref h4, .ref h5, .ref h6, .ref h7, .ref h8, .ref h9, .ref h10, vv0])), (h1, .inr (4, [.ref h2, .int x1])), (h2, .inl (gB g, 1508, .inl fn0))] sz) (fun _ : Unit => [(h0, .inr (10, [.ref h3, .ref h1, .ref h4, .ref h5, .ref h6, .ref h7, .ref h8, .ref h9, .ref h10, vv0])), (h1, .inr (4, [.ref h2, .int x1])), (h2, .inl (gB g, 1508, .inl fn0))])) (va_A [(h0, .inr (10, [.ref h3, .ref h1, .ref h4, .ref h5, .ref h6, .ref h7, .ref h8, .ref h9, .ref h10, vv0])), (h1, .inr (4, [.ref h2, .int x1])), (h2, .inl (gB g, 1508, .inl fn0))] sz)) 0 0 (va_A [(h0, .inr (10, [.ref h3, .ref h1, .ref h4, .ref h5, .ref h6, .ref h7, .ref h8, .ref h9, .ref h10, vv0])), (h1, .inr (4, [.ref h2, .int x1])), (h2, .inl (gB g, 1508, .inl fn0))] sz) := by
  refine met_i RX11 (by decide) rfl rfl (Nat.le_of_ble_eq_true rfl) [(0, .ref h0), (1, .int x0)] rfl ?_
  intro p e s m args below meth c A Q C hnm Rt
  have gx0 := fb_rng x0
  have hiX11 : ∀ w ∈ wsX110, w ∈ wsX11_octet := fun w h => List.mem_cons_of_mem _ (List.mem_append_left _ (List.mem_append_right _ (h)))
  refine r_aload_n 0 0 C dX11_octet_0 rfl ?_
  refine r_get 1 C dX11_octet_1 (k := 1) 0 rfl rfl hiX11 (by decide) rfl (mg 1 rfl) (Or.inl rfl) rfl ?_
  refine r_iload_n 4 1 C dX11_octet_4 rfl ?_
  obtain ⟨z1, ez1⟩ : ∃ z_9, Int32.toInt64 x0 = z_9 := ⟨_, rfl⟩
  have tz1 : (Int64.toInt z1) = (Int32.toInt x0) := by rw [← ez1]; exact Int32.toInt_toInt64 _
  refine r_i2l 5 z1 C dX11_octet_5 ez1 ?_
  refine r_callVi 6 C dX11_octet_6 [] [(h1, .inr (4, [.ref h2, .int x1])), (h2, .inl (gB g, 1508, .inl fn0))] [(h0, .inr (10, [.ref h3, .ref h1, .ref h4, .ref h5, .ref h6, .ref h7, .ref h8, .ref h9, .ref h10, vv0]))] (fun sz => c23_X5_get l g h1 h2 z1 x1 fn0 i_x1 sz) gX11_octet_X5_get rfl ⟨rfl, rfl⟩ 1 (by decide) ⟨Nat.le_of_ble_eq_true rfl, Nat.le_of_ble_eq_true rfl⟩ 1 rfl rfl [1, 2] [0] rfl rfl (by decide) (by decide) (by decide) rfl rfl (Nat.le_of_ble_eq_true rfl) ⟨Nat.le_of_ble_eq_true rfl, Nat.le_of_ble_eq_true rfl⟩ (fun r2 _ w3 => ?_)
  refine r_ws [(h0, .inr (10, [.ref h3, .ref h1, .ref h4, .ref h5, .ref h6, .ref h7, .ref h8, .ref h9, .ref h10, vv0])), (h1, .inr (4, [.ref h2, .int x1])), (h2, .inl (gB g, 1508, .inl fn0))] rfl ?_
  have p4 : -1 ≤ (Int32.toInt r2) := w3.1
  have p5 : (Int32.toInt r2) ≤ 255 := w3.2
  exact r_iret 9 Rt dX11_octet_9 () (show -1 ≤ (Int32.toInt r2) ∧ (Int32.toInt r2) ≤ 255 from ⟨(show _ ∧ _ from ⟨p4, p5⟩).1, (show _ ∧ _ from ⟨p4, p5⟩).2⟩) [0, 1, 2] (by decide) rfl (Nat.le_of_ble_eq_true rfl) (Nat.le_of_ble_eq_true rfl)
set_option maxHeartbeats 4000000 in
set_option maxRecDepth 100000 in
theorem c25_X5_addAll (l : Launch) (g : GD) (h0 : Nat) (h1 : Nat) (h2 : Nat) (h3 : Nat) (x0 : Int32) (x1 : Int32) (x2 : Int32) (fn0 : Nat → Int32) (fn1 : Nat → Int32) (i_x1 : (0 ≤ (Int32.toInt x1) ∧ (Int32.toInt x1) ≤ 1500)) (i_x2 : (0 ≤ (Int32.toInt x2) ∧ (Int32.toInt x2) ≤ 1508)) (sz : Nat) : Met l yX5_addAll wsX5_addAll ({ frames := 1, cells := 0, slots := 0, locals := 22 }) (va_Pc [.ref h0, .ref h1, .int x0] (PW g [(h0, .inr (4, [.ref h2, .int x1])), (h1, .inr (4, [.ref h3, .int x2])), (h2, .inl (gB g, 1500, .inl fn0)), (h3, .inl (gB g, 1508, .inl fn1))] sz)) (va_Qv (fun (u : (Int32) × (Nat → Int32)) => 0 ≤ (Int32.toInt (u.1)) ∧ (Int32.toInt (u.1)) ≤ 1500 ∧ (((Int32.toInt x0) ≤ 0 ∧ (((Int32.toInt x2) ≤ 0 ∧ (Int32.toInt (u.1)) = (Int32.toInt x1)) ∨ (0 < (Int32.toInt x2) ∧ (Int32.toInt x1) + (Int32.toInt x2) ≤ 1500 ∧ (Int32.toInt (u.1)) = (Int32.toInt x1) + (Int32.toInt x2)) ∨ 1500 < (Int32.toInt x1) + (Int32.toInt x2))) ∨ (0 ≤ (Int32.toInt x0) ∧ (((Int32.toInt x2) ≤ (Int32.toInt x0) ∧ (Int32.toInt (u.1)) = (Int32.toInt x1)) ∨ ((Int32.toInt x0) < (Int32.toInt x2) ∧ (Int32.toInt x1) + (Int32.toInt x2) - (Int32.toInt x0) ≤ 1500 ∧ (Int32.toInt (u.1)) = (Int32.toInt x1) + (Int32.toInt x2) - (Int32.toInt x0)) ∨ 1500 < (Int32.toInt x1) + (Int32.toInt x2) - (Int32.toInt x0))))) (BW g (va_A [(h0, .inr (4, [.ref h2, .int x1])), (h1, .inr (4, [.ref h3, .int x2])), (h2, .inl (gB g, 1500, .inl fn0)), (h3, .inl (gB g, 1508, .inl fn1))] sz) (fun u : (Int32) × (Nat → Int32) => [(h0, .inr (4, [.ref h2, .int u.1])), (h1, .inr (4, [.ref h3, .int x2])), (h2, .inl (gB g, 1500, .inl u.2)), (h3, .inl (gB g, 1508, .inl fn1))])) (va_A [(h0, .inr (4, [.ref h2, .int x1])), (h1, .inr (4, [.ref h3, .int x2])), (h2, .inl (gB g, 1500, .inl fn0)), (h3, .inl (gB g, 1508, .inl fn1))] sz)) 0 0 (va_A [(h0, .inr (4, [.ref h2, .int x1])), (h1, .inr (4, [.ref h3, .int x2])), (h2, .inl (gB g, 1500, .inl fn0)), (h3, .inl (gB g, 1508, .inl fn1))] sz) := by
  refine met_v RX5 (by decide) rfl rfl (Nat.le_of_ble_eq_true rfl) [(0, .ref h0), (1, .ref h1), (2, .int x0)] rfl ?_
  intro p e s m args below meth c A Q C hnm Rt
  have gx0 := fb_rng x0
  have hiX5 : ∀ w ∈ wsX50, w ∈ wsX5_addAll := fun w h => List.mem_cons_of_mem _ (List.mem_append_right _ (h))
  refine r_iload_n 0 2 C dX5_addAll_0 rfl ?_
  refine r_iconst 1 0 C dX5_addAll_1 (by decide) ?_
  obtain ⟨z1, ez1⟩ : ∃ z_9, (if x0 < 0 then 0 else x0) = z_9 := ⟨_, rfl⟩
  have tz1 : ((Int32.toInt x0) < 0 ∧ (Int32.toInt z1) = 0) ∨ (¬ ((Int32.toInt x0) < 0) ∧ (Int32.toInt z1) = (Int32.toInt x0)) := by rw [← ez1]; exact mx_or x0 0 0 x0
  refine r_mmax 2 z1 C dX5_addAll_2 (mg 1 rfl) (mg 2 rfl) (mg 3 rfl) (mg 4 rfl) (Nat.le_of_ble_eq_true rfl) (Nat.le_of_ble_eq_true rfl) (Nat.le_of_ble_eq_true rfl) (Nat.le_of_ble_eq_true rfl) ez1 ?_
  refine r_istore_n 5 C dX5_addAll_5 [(3, .int z1), (0, .ref h0), (1, .ref h1), (2, .int x0)] (by decide) rfl ?_
  have lp6 : ∀ (n5 : Nat) (z2 : Int32) (z3 : Int32) (f4 : Nat → Int32), (0 ≤ (Int32.toInt z2) ∧ (Int32.toInt z2) ≤ 2147483647) → (0 ≤ (Int32.toInt z3) ∧ (Int32.toInt z3) ≤ 1500) → (((Int32.toInt x0) ≤ 0 ∧ ((Int32.toInt z3) = (Int32.toInt x1) + (Int32.toInt z2) ∨ ((Int32.toInt z3) = 1500 ∧ 1500 ≤ (Int32.toInt x1) + (Int32.toInt z2))) ∧ ((Int32.toInt z2) ≤ (Int32.toInt x2) ∨ (Int32.toInt z2) = 0)) ∨ (0 ≤ (Int32.toInt x0) ∧ ((Int32.toInt z3) = (Int32.toInt x1) + (Int32.toInt z2) - (Int32.toInt x0) ∨ ((Int32.toInt z3) = 1500 ∧ 1500 ≤ (Int32.toInt x1) + (Int32.toInt z2) - (Int32.toInt x0))) ∧ (Int32.toInt x0) ≤ (Int32.toInt z2) ∧ ((Int32.toInt z2) ≤ (Int32.toInt x2) ∨ (Int32.toInt z2) = (Int32.toInt x0)))) → Int.toNat (2147483647 - (Int32.toInt z2)) < n5 → WW p l e ({ frames := 1, cells := 0, slots := 0, locals := 22 } : Room) s m args below meth c A Q g 4 0 0 [(h0, .inr (4, [.ref h2, .int z3])), (h1, .inr (4, [.ref h3, .int x2])), (h2, .inl (gB g, 1500, .inl f4)), (h3, .inl (gB g, 1508, .inl fn1))] 6 [(3, .int z2), (0, .ref h0), (1, .ref h1), (2, .int x0)] [] := by
    intro n5
    induction n5 with
    | zero => intro z2 z3 f4 i9 i10 j11 hm8; exact absurd hm8 (Nat.not_lt_zero _)
    | succ n5 ih7 =>
      intro z2 z3 f4 i9 i10 j11 hm8
      obtain ⟨i9a, i9b⟩ := i9
      obtain ⟨i10a, i10b⟩ := i10
      refine r_iload_n 6 0 C dX5_addAll_6 rfl ?_
      refine r_aload_n 7 2 C dX5_addAll_7 rfl ?_
      refine r_get 8 C dX5_addAll_8 (k := 1) 1 rfl rfl hiX5 (by decide) rfl (mg 5 rfl) (Or.inl rfl) rfl ?_
      refine r_icmp_ge 11 30 C dX5_addAll_11 (by decide) (fun c12 => ?_) (fun c12 => ?_)
      · skip
        have k13 : (Int32.toInt x2) ≤ (Int32.toInt z2) := (fa_le x2 z2).mp c12
        exact r_vret 30 Rt dX5_addAll_30 (z3, f4) (show 0 ≤ (Int32.toInt z3) ∧ (Int32.toInt z3) ≤ 1500 ∧ (((Int32.toInt x0) ≤ 0 ∧ (((Int32.toInt x2) ≤ 0 ∧ (Int32.toInt z3) = (Int32.toInt x1)) ∨ (0 < (Int32.toInt x2) ∧ (Int32.toInt x1) + (Int32.toInt x2) ≤ 1500 ∧ (Int32.toInt z3) = (Int32.toInt x1) + (Int32.toInt x2)) ∨ 1500 < (Int32.toInt x1) + (Int32.toInt x2))) ∨ (0 ≤ (Int32.toInt x0) ∧ (((Int32.toInt x2) ≤ (Int32.toInt x0) ∧ (Int32.toInt z3) = (Int32.toInt x1)) ∨ ((Int32.toInt x0) < (Int32.toInt x2) ∧ (Int32.toInt x1) + (Int32.toInt x2) - (Int32.toInt x0) ≤ 1500 ∧ (Int32.toInt z3) = (Int32.toInt x1) + (Int32.toInt x2) - (Int32.toInt x0)) ∨ 1500 < (Int32.toInt x1) + (Int32.toInt x2) - (Int32.toInt x0)))) from ⟨(show _ ∧ _ from ⟨i10a, i10b⟩).1, (show _ ∧ _ from ⟨i10a, i10b⟩).2, (by ((repeat' apply And.intro) <;> first | trivial | rfl | assumption | omega | decide | exact Or.inl rfl | exact Or.inr (Or.inl rfl) | exact Or.inr (Or.inr rfl)))⟩) [0, 1, 2, 3] (by decide) rfl (Nat.le_of_ble_eq_true rfl) (Nat.le_of_ble_eq_true rfl)
      · skip
        have k14 : ¬ ((Int32.toInt x2) ≤ (Int32.toInt z2)) := fun h_9 => c12 ((fa_le x2 z2).mpr h_9)
        refine r_aload_n 14 1 C dX5_addAll_14 rfl ?_
        refine r_aload_n 15 2 C dX5_addAll_15 rfl ?_
        refine r_iload_n 16 0 C dX5_addAll_16 rfl ?_
        obtain ⟨z15, ez15⟩ : ∃ z_9, Int32.toInt64 z2 = z_9 := ⟨_, rfl⟩
        have tz15 : (Int64.toInt z15) = (Int32.toInt z2) := by rw [← ez15]; exact Int32.toInt_toInt64 _
        refine r_i2l 17 z15 C dX5_addAll_17 ez15 ?_
        refine r_callVi 18 C dX5_addAll_18 [.ref h0] [(h1, .inr (4, [.ref h3, .int x2])), (h3, .inl (gB g, 1508, .inl fn1))] [(h0, .inr (4, [.ref h2, .int z3])), (h2, .inl (gB g, 1500, .inl f4))] (fun sz => c23_X5_get l g h1 h3 z15 x2 fn1 i_x2 sz) gX5_addAll_X5_get rfl ⟨rfl, rfl⟩ 1 (by decide) ⟨Nat.le_of_ble_eq_true rfl, Nat.le_of_ble_eq_true rfl⟩ 1 rfl rfl [1, 3] [0, 2] rfl rfl (by decide) (by decide) (by decide) rfl rfl (Nat.le_of_ble_eq_true rfl) ⟨Nat.le_of_ble_eq_true rfl, Nat.le_of_ble_eq_true rfl⟩ (fun r16 _ w17 => ?_)
        refine r_ws [(h0, .inr (4, [.ref h2, .int z3])), (h2, .inl (gB g, 1500, .inl f4)), (h1, .inr (4, [.ref h3, .int x2])), (h3, .inl (gB g, 1508, .inl fn1))] rfl ?_
        have p18 : -1 ≤ (Int32.toInt r16) := w17.1
        have p19 : (Int32.toInt r16) ≤ 255 := w17.2
        refine r_callVv 21 C dX5_addAll_21 [] [(h0, .inr (4, [.ref h2, .int z3])), (h2, .inl (gB g, 1500, .inl f4))] [(h1, .inr (4, [.ref h3, .int x2])), (h3, .inl (gB g, 1508, .inl fn1))] (fun sz => c1_X5_add l g h0 h2 r16 z3 f4 ⟨i10a, i10b⟩ sz) gX5_addAll_X5_add rfl ⟨rfl, rfl⟩ 1 (by decide) ⟨Nat.le_of_ble_eq_true rfl, Nat.le_of_ble_eq_true rfl⟩ 0 rfl rfl [0, 1] [2, 3] rfl rfl (by decide) (by decide) (by decide) rfl rfl (Nat.le_of_ble_eq_true rfl) ⟨Nat.le_of_ble_eq_true rfl, Nat.le_of_ble_eq_true rfl⟩ (fun  u23 w22 => ?_)
        obtain ⟨z20, f21⟩ := u23
        refine r_ws [(h1, .inr (4, [.ref h3, .int x2])), (h3, .inl (gB g, 1508, .inl fn1)), (h0, .inr (4, [.ref h2, .int z20])), (h2, .inl (gB g, 1500, .inl f21))] rfl ?_
        have p24 : 0 ≤ (Int32.toInt z20) := w22.2.1
        have p25 : (Int32.toInt z20) ≤ 1500 := w22.2.2
        have w26 : ((1500 ≤ (Int32.toInt z3) ∧ (Int32.toInt z20) = (Int32.toInt z3)) ∨ (¬ (1500 ≤ (Int32.toInt z3)) ∧ (Int32.toInt z20) = (Int32.toInt z3) + 1)) := w22.1
        rcases w26 with ⟨k27, k28⟩ | w26
        · skip
          obtain ⟨z29, ez29⟩ : ∃ z_9, z2 + Int32.ofInt 1 = z_9 := ⟨_, rfl⟩
          have tz29 : (Int32.toInt z29) = (Int32.toInt z2) + 1 := by rw [← ez29]; exact fb_addI (by show -2147483648 ≤ (Int32.toInt z2) + 1; omega) (by show (Int32.toInt z2) + 1 < 2147483648; omega)
          refine r_iinc 24 0 z29 C dX5_addAll_24 rfl ez29 [(3, .int z29), (0, .ref h0), (1, .ref h1), (2, .int x0)] (by decide) rfl ?_
          refine r_goto 27 6 C dX5_addAll_27 (by decide) ?_
          refine r_pick [(h0, .inr (4, [.ref h2, .int z20])), (h1, .inr (4, [.ref h3, .int x2])), (h2, .inl (gB g, 1500, .inl f21)), (h3, .inl (gB g, 1508, .inl fn1))] [2, 0, 3, 1] (by decide) rfl ?_
          exact ih7 z29 z20 f21 ⟨by omega, by omega⟩ ⟨p24, p25⟩ (by show ((Int32.toInt x0) ≤ 0 ∧ ((Int32.toInt z20) = (Int32.toInt x1) + (Int32.toInt z29) ∨ ((Int32.toInt z20) = 1500 ∧ 1500 ≤ (Int32.toInt x1) + (Int32.toInt z29))) ∧ ((Int32.toInt z29) ≤ (Int32.toInt x2) ∨ (Int32.toInt z29) = 0)) ∨ (0 ≤ (Int32.toInt x0) ∧ ((Int32.toInt z20) = (Int32.toInt x1) + (Int32.toInt z29) - (Int32.toInt x0) ∨ ((Int32.toInt z20) = 1500 ∧ 1500 ≤ (Int32.toInt x1) + (Int32.toInt z29) - (Int32.toInt x0))) ∧ (Int32.toInt x0) ≤ (Int32.toInt z29) ∧ ((Int32.toInt z29) ≤ (Int32.toInt x2) ∨ (Int32.toInt z29) = (Int32.toInt x0))); omega) (by omega)
        obtain ⟨k30, k31⟩ := w26
        obtain ⟨z32, ez32⟩ : ∃ z_9, z2 + Int32.ofInt 1 = z_9 := ⟨_, rfl⟩
        have tz32 : (Int32.toInt z32) = (Int32.toInt z2) + 1 := by rw [← ez32]; exact fb_addI (by show -2147483648 ≤ (Int32.toInt z2) + 1; omega) (by show (Int32.toInt z2) + 1 < 2147483648; omega)
        refine r_iinc 24 0 z32 C dX5_addAll_24 rfl ez32 [(3, .int z32), (0, .ref h0), (1, .ref h1), (2, .int x0)] (by decide) rfl ?_
        refine r_goto 27 6 C dX5_addAll_27 (by decide) ?_
        refine r_pick [(h0, .inr (4, [.ref h2, .int z20])), (h1, .inr (4, [.ref h3, .int x2])), (h2, .inl (gB g, 1500, .inl f21)), (h3, .inl (gB g, 1508, .inl fn1))] [2, 0, 3, 1] (by decide) rfl ?_
        exact ih7 z32 z20 f21 ⟨by omega, by omega⟩ ⟨p24, p25⟩ (by show ((Int32.toInt x0) ≤ 0 ∧ ((Int32.toInt z20) = (Int32.toInt x1) + (Int32.toInt z32) ∨ ((Int32.toInt z20) = 1500 ∧ 1500 ≤ (Int32.toInt x1) + (Int32.toInt z32))) ∧ ((Int32.toInt z32) ≤ (Int32.toInt x2) ∨ (Int32.toInt z32) = 0)) ∨ (0 ≤ (Int32.toInt x0) ∧ ((Int32.toInt z20) = (Int32.toInt x1) + (Int32.toInt z32) - (Int32.toInt x0) ∨ ((Int32.toInt z20) = 1500 ∧ 1500 ≤ (Int32.toInt x1) + (Int32.toInt z32) - (Int32.toInt x0))) ∧ (Int32.toInt x0) ≤ (Int32.toInt z32) ∧ ((Int32.toInt z32) ≤ (Int32.toInt x2) ∨ (Int32.toInt z32) = (Int32.toInt x0))); omega) (by omega)
  exact lp6 _ z1 x1 fn0 ⟨by omega, by omega⟩ i_x1 (by show ((Int32.toInt x0) ≤ 0 ∧ ((Int32.toInt x1) = (Int32.toInt x1) + (Int32.toInt z1) ∨ ((Int32.toInt x1) = 1500 ∧ 1500 ≤ (Int32.toInt x1) + (Int32.toInt z1))) ∧ ((Int32.toInt z1) ≤ (Int32.toInt x2) ∨ (Int32.toInt z1) = 0)) ∨ (0 ≤ (Int32.toInt x0) ∧ ((Int32.toInt x1) = (Int32.toInt x1) + (Int32.toInt z1) - (Int32.toInt x0) ∨ ((Int32.toInt x1) = 1500 ∧ 1500 ≤ (Int32.toInt x1) + (Int32.toInt z1) - (Int32.toInt x0))) ∧ (Int32.toInt x0) ≤ (Int32.toInt z1) ∧ ((Int32.toInt z1) ≤ (Int32.toInt x2) ∨ (Int32.toInt z1) = (Int32.toInt x0))); omega) (Nat.lt_succ_self _)
set_option maxHeartbeats 4000000 in
set_option maxRecDepth 100000 in
theorem c26_X11_back (l : Launch) (g : GD) (h0 : Nat) (h1 : Nat) (h2 : Nat) (h3 : Nat) (h4 : Nat) (h5 : Nat) (h6 : Nat) (h7 : Nat) (h8 : Nat) (h9 : Nat) (h10 : Nat) (h11 : Nat) (vv0 : Value) (x0 : Int32) (x1 : Int32) (fn0 : Nat → Int32) (fn1 : Nat → Int32) (i_x0 : (0 ≤ (Int32.toInt x0) ∧ (Int32.toInt x0) ≤ 1500)) (i_x1 : (0 ≤ (Int32.toInt x1) ∧ (Int32.toInt x1) ≤ 1508)) (sz : Nat) : Met l yX11_back wsX11_back ({ frames := 2, cells := 0, slots := 0, locals := 45 }) (va_Pc [.ref h0] (PW g [(h0, .inr (10, [.ref h1, .ref h2, .ref h5, .ref h6, .ref h7, .ref h8, .ref h9, .ref h10, .ref h11, vv0])), (h1, .inr (4, [.ref h3, .int x0])), (h2, .inr (4, [.ref h4, .int x1])), (h3, .inl (gB g, 1500, .inl fn0)), (h4, .inl (gB g, 1508, .inl fn1))] sz)) (va_Qi (fun (r : Int32) (u : (Int32) × (Int32) × (Nat → Int32)) => -1 ≤ (Int32.toInt r) ∧ (Int32.toInt r) ≤ 1500 ∧ 0 ≤ (Int32.toInt (u.1)) ∧ (Int32.toInt (u.1)) ≤ 1500 ∧ 0 ≤ (Int32.toInt (u.2.1)) ∧ (Int32.toInt (u.2.1)) ≤ 1508 ∧ (((Int32.toInt x0) + (Int32.toInt x1) ≤ 1500 ∧ (Int32.toInt (u.1)) = (Int32.toInt x0) + (Int32.toInt x1) ∧ (Int32.toInt (u.2.1)) = 0 ∧ (Int32.toInt r) = (Int32.toInt (u.1))) ∨ (1500 < (Int32.toInt x0) + (Int32.toInt x1) ∧ (Int32.toInt (u.1)) = (Int32.toInt x0) ∧ (Int32.toInt (u.2.1)) = (Int32.toInt x1) ∧ (Int32.toInt r) = -1))) (BW g (va_A [(h0, .inr (10, [.ref h1, .ref h2, .ref h5, .ref h6, .ref h7, .ref h8, .ref h9, .ref h10, .ref h11, vv0])), (h1, .inr (4, [.ref h3, .int x0])), (h2, .inr (4, [.ref h4, .int x1])), (h3, .inl (gB g, 1500, .inl fn0)), (h4, .inl (gB g, 1508, .inl fn1))] sz) (fun u : (Int32) × (Int32) × (Nat → Int32) => [(h0, .inr (10, [.ref h1, .ref h2, .ref h5, .ref h6, .ref h7, .ref h8, .ref h9, .ref h10, .ref h11, vv0])), (h1, .inr (4, [.ref h3, .int u.1])), (h2, .inr (4, [.ref h4, .int u.2.1])), (h3, .inl (gB g, 1500, .inl u.2.2)), (h4, .inl (gB g, 1508, .inl fn1))])) (va_A [(h0, .inr (10, [.ref h1, .ref h2, .ref h5, .ref h6, .ref h7, .ref h8, .ref h9, .ref h10, .ref h11, vv0])), (h1, .inr (4, [.ref h3, .int x0])), (h2, .inr (4, [.ref h4, .int x1])), (h3, .inl (gB g, 1500, .inl fn0)), (h4, .inl (gB g, 1508, .inl fn1))] sz)) 0 0 (va_A [(h0, .inr (10, [.ref h1, .ref h2, .ref h5, .ref h6, .ref h7, .ref h8, .ref h9, .ref h10, .ref h11, vv0])), (h1, .inr (4, [.ref h3, .int x0])), (h2, .inr (4, [.ref h4, .int x1])), (h3, .inl (gB g, 1500, .inl fn0)), (h4, .inl (gB g, 1508, .inl fn1))] sz) := by
  refine met_i RX11 (by decide) rfl rfl (Nat.le_of_ble_eq_true rfl) [(0, .ref h0)] rfl ?_
  intro p e s m args below meth c A Q C hnm Rt
  have hiX11 : ∀ w ∈ wsX110, w ∈ wsX11_back := fun w h => List.mem_cons_of_mem _ (List.mem_append_left _ (List.mem_append_right _ (h)))
  refine r_aload_n 0 0 C dX11_back_0 rfl ?_
  refine r_get 1 C dX11_back_1 (k := 0) 0 rfl rfl hiX11 (by decide) rfl (mg 1 rfl) (Or.inl rfl) rfl ?_
  refine r_callVi 4 C dX11_back_4 [] [(h1, .inr (4, [.ref h3, .int x0]))] [(h0, .inr (10, [.ref h1, .ref h2, .ref h5, .ref h6, .ref h7, .ref h8, .ref h9, .ref h10, .ref h11, vv0])), (h2, .inr (4, [.ref h4, .int x1])), (h3, .inl (gB g, 1500, .inl fn0)), (h4, .inl (gB g, 1508, .inl fn1))] (fun sz => c0_X5_size l g h1 h3 x0 i_x0 sz) gX11_back_X5_size rfl ⟨rfl, rfl⟩ 0 (by decide) ⟨Nat.le_of_ble_eq_true rfl, Nat.le_of_ble_eq_true rfl⟩ 1 rfl rfl [1] [0, 2, 3, 4] rfl rfl (by decide) (by decide) (by decide) rfl rfl (Nat.le_of_ble_eq_true rfl) ⟨Nat.le_of_ble_eq_true rfl, Nat.le_of_ble_eq_true rfl⟩ (fun r1 _ w2 => ?_)
  refine r_ws [(h0, .inr (10, [.ref h1, .ref h2, .ref h5, .ref h6, .ref h7, .ref h8, .ref h9, .ref h10, .ref h11, vv0])), (h2, .inr (4, [.ref h4, .int x1])), (h3, .inl (gB g, 1500, .inl fn0)), (h4, .inl (gB g, 1508, .inl fn1)), (h1, .inr (4, [.ref h3, .int x0]))] rfl ?_
  have p3 : x0 = r1 := (w2).symm
  subst p3
  refine r_aload_n 7 0 C dX11_back_7 rfl ?_
  refine r_get 8 C dX11_back_8 (k := 1) 0 rfl rfl hiX11 (by decide) rfl (mg 2 rfl) (Or.inl rfl) rfl ?_
  refine r_callVi 11 C dX11_back_11 [.int x0] [(h2, .inr (4, [.ref h4, .int x1]))] [(h0, .inr (10, [.ref h1, .ref h2, .ref h5, .ref h6, .ref h7, .ref h8, .ref h9, .ref h10, .ref h11, vv0])), (h3, .inl (gB g, 1500, .inl fn0)), (h4, .inl (gB g, 1508, .inl fn1)), (h1, .inr (4, [.ref h3, .int x0]))] (fun sz => c19_X5_size l g h2 h4 x1 i_x1 sz) gX11_back_X5_size rfl ⟨rfl, rfl⟩ 0 (by decide) ⟨Nat.le_of_ble_eq_true rfl, Nat.le_of_ble_eq_true rfl⟩ 1 rfl rfl [1] [0, 2, 3, 4] rfl rfl (by decide) (by decide) (by decide) rfl rfl (Nat.le_of_ble_eq_true rfl) ⟨Nat.le_of_ble_eq_true rfl, Nat.le_of_ble_eq_true rfl⟩ (fun r4 _ w5 => ?_)
  refine r_ws [(h0, .inr (10, [.ref h1, .ref h2, .ref h5, .ref h6, .ref h7, .ref h8, .ref h9, .ref h10, .ref h11, vv0])), (h3, .inl (gB g, 1500, .inl fn0)), (h4, .inl (gB g, 1508, .inl fn1)), (h1, .inr (4, [.ref h3, .int x0])), (h2, .inr (4, [.ref h4, .int x1]))] rfl ?_
  have p6 : x1 = r4 := (w5).symm
  subst p6
  obtain ⟨z7, ez7⟩ : ∃ z_9, x0 + x1 = z_9 := ⟨_, rfl⟩
  have tz7 : (Int32.toInt z7) = (Int32.toInt x0) + (Int32.toInt x1) := by rw [← ez7]; exact fb_addIv (a := 0) (b := 1500) (c := 0) (d := 1508) i_x0 i_x1 (by decide) (by decide)
  refine r_iadd 14 z7 C dX11_back_14 ez7 ?_
  refine r_sipush 15 1500 C dX11_back_15 (by decide) ?_
  refine r_icmp_le 18 23 C dX11_back_18 (by decide) (fun c8 => ?_) (fun c8 => ?_)
  · skip
    have k9 : (Int32.toInt z7) ≤ 1500 := (fa_le z7 1500).mp c8
    refine r_aload_n 23 0 C dX11_back_23 rfl ?_
    refine r_get 24 C dX11_back_24 (k := 0) 0 rfl rfl hiX11 (by decide) rfl (mg 1 rfl) (Or.inl rfl) rfl ?_
    refine r_aload_n 27 0 C dX11_back_27 rfl ?_
    refine r_get 28 C dX11_back_28 (k := 1) 0 rfl rfl hiX11 (by decide) rfl (mg 2 rfl) (Or.inl rfl) rfl ?_
    refine r_iconst 31 0 C dX11_back_31 (by decide) ?_
    refine r_callVv 32 C dX11_back_32 [] [(h1, .inr (4, [.ref h3, .int x0])), (h2, .inr (4, [.ref h4, .int x1])), (h3, .inl (gB g, 1500, .inl fn0)), (h4, .inl (gB g, 1508, .inl fn1))] [(h0, .inr (10, [.ref h1, .ref h2, .ref h5, .ref h6, .ref h7, .ref h8, .ref h9, .ref h10, .ref h11, vv0]))] (fun sz => c25_X5_addAll l g h1 h2 h3 h4 0 x0 x1 fn0 fn1 i_x0 i_x1 sz) gX11_back_X5_addAll rfl ⟨rfl, rfl⟩ 2 (by decide) ⟨Nat.le_of_ble_eq_true rfl, Nat.le_of_ble_eq_true rfl⟩ 3 rfl rfl [3, 4, 1, 2] [0] rfl rfl (by decide) (by decide) (by decide) rfl rfl (Nat.le_of_ble_eq_true rfl) ⟨Nat.le_of_ble_eq_true rfl, Nat.le_of_ble_eq_true rfl⟩ (fun  u13 w12 => ?_)
    obtain ⟨z10, f11⟩ := u13
    refine r_ws [(h0, .inr (10, [.ref h1, .ref h2, .ref h5, .ref h6, .ref h7, .ref h8, .ref h9, .ref h10, .ref h11, vv0])), (h1, .inr (4, [.ref h3, .int z10])), (h2, .inr (4, [.ref h4, .int x1])), (h3, .inl (gB g, 1500, .inl f11)), (h4, .inl (gB g, 1508, .inl fn1))] rfl ?_
    have p14 : 0 ≤ (Int32.toInt z10) := w12.1
    have p15 : (Int32.toInt z10) ≤ 1500 := w12.2.1
    have p16 : (((0 : Int) ≤ 0 ∧ (((Int32.toInt x1) ≤ 0 ∧ (Int32.toInt z10) = (Int32.toInt x0)) ∨ (0 < (Int32.toInt x1) ∧ (Int32.toInt x0) + (Int32.toInt x1) ≤ 1500 ∧ (Int32.toInt z10) = (Int32.toInt x0) + (Int32.toInt x1)) ∨ 1500 < (Int32.toInt x0) + (Int32.toInt x1))) ∨ (0 ≤ (0 : Int) ∧ (((Int32.toInt x1) ≤ (0 : Int) ∧ (Int32.toInt z10) = (Int32.toInt x0)) ∨ ((0 : Int) < (Int32.toInt x1) ∧ (Int32.toInt x0) + (Int32.toInt x1) - (0 : Int) ≤ 1500 ∧ (Int32.toInt z10) = (Int32.toInt x0) + (Int32.toInt x1) - (0 : Int)) ∨ 1500 < (Int32.toInt x0) + (Int32.toInt x1) - (0 : Int)))) := w12.2.2
    refine r_aload_n 35 0 C dX11_back_35 rfl ?_
    refine r_get 36 C dX11_back_36 (k := 1) 0 rfl rfl hiX11 (by decide) rfl (mg 2 rfl) (Or.inl rfl) rfl ?_
    refine r_iconst 39 0 C dX11_back_39 (by decide) ?_
    refine r_callVv 40 C dX11_back_40 [] [(h2, .inr (4, [.ref h4, .int x1]))] [(h0, .inr (10, [.ref h1, .ref h2, .ref h5, .ref h6, .ref h7, .ref h8, .ref h9, .ref h10, .ref h11, vv0])), (h1, .inr (4, [.ref h3, .int z10])), (h3, .inl (gB g, 1500, .inl f11)), (h4, .inl (gB g, 1508, .inl fn1))] (fun sz => c13_X5_cut l g h2 0 h4 x1 i_x1 sz) gX11_back_X5_cut rfl ⟨rfl, rfl⟩ 1 (by decide) ⟨Nat.le_of_ble_eq_true rfl, Nat.le_of_ble_eq_true rfl⟩ 2 rfl rfl [2] [0, 1, 3, 4] rfl rfl (by decide) (by decide) (by decide) rfl rfl (Nat.le_of_ble_eq_true rfl) ⟨Nat.le_of_ble_eq_true rfl, Nat.le_of_ble_eq_true rfl⟩ (fun  z17 w18 => ?_)
    refine r_ws [(h0, .inr (10, [.ref h1, .ref h2, .ref h5, .ref h6, .ref h7, .ref h8, .ref h9, .ref h10, .ref h11, vv0])), (h1, .inr (4, [.ref h3, .int z10])), (h3, .inl (gB g, 1500, .inl f11)), (h4, .inl (gB g, 1508, .inl fn1)), (h2, .inr (4, [.ref h4, .int z17]))] rfl ?_
    have p19 : 0 ≤ (Int32.toInt z17) := w18.2.1
    have p20 : (Int32.toInt z17) ≤ 1508 := w18.2.2
    have w21 : (((0 : Int) < 0 ∧ (Int32.toInt z17) = (Int32.toInt x1)) ∨ (¬ ((0 : Int) < 0) ∧ (Int32.toInt x1) < (0 : Int) ∧ (Int32.toInt z17) = (Int32.toInt x1)) ∨ (¬ ((0 : Int) < 0) ∧ ¬ ((Int32.toInt x1) < (0 : Int)) ∧ (Int32.toInt z17) = (0 : Int))) := w18.1
    rcases w21 with ⟨k22, k23⟩ | w21
    · skip
      exact absurd trivial (by omega)
    rcases w21 with ⟨k24, k25, k26⟩ | w21
    · skip
      exact absurd trivial (by omega)
    obtain ⟨k27, k28, k29⟩ := w21
    refine r_aload_n 43 0 C dX11_back_43 rfl ?_
    refine r_get 44 C dX11_back_44 (k := 0) 0 rfl rfl hiX11 (by decide) rfl (mg 1 rfl) (Or.inl rfl) rfl ?_
    refine r_callVi 47 C dX11_back_47 [] [(h1, .inr (4, [.ref h3, .int z10]))] [(h0, .inr (10, [.ref h1, .ref h2, .ref h5, .ref h6, .ref h7, .ref h8, .ref h9, .ref h10, .ref h11, vv0])), (h3, .inl (gB g, 1500, .inl f11)), (h4, .inl (gB g, 1508, .inl fn1)), (h2, .inr (4, [.ref h4, .int z17]))] (fun sz => c0_X5_size l g h1 h3 z10 ⟨p14, p15⟩ sz) gX11_back_X5_size rfl ⟨rfl, rfl⟩ 0 (by decide) ⟨Nat.le_of_ble_eq_true rfl, Nat.le_of_ble_eq_true rfl⟩ 1 rfl rfl [1] [0, 2, 3, 4] rfl rfl (by decide) (by decide) (by decide) rfl rfl (Nat.le_of_ble_eq_true rfl) ⟨Nat.le_of_ble_eq_true rfl, Nat.le_of_ble_eq_true rfl⟩ (fun r30 _ w31 => ?_)
    refine r_ws [(h0, .inr (10, [.ref h1, .ref h2, .ref h5, .ref h6, .ref h7, .ref h8, .ref h9, .ref h10, .ref h11, vv0])), (h3, .inl (gB g, 1500, .inl f11)), (h4, .inl (gB g, 1508, .inl fn1)), (h2, .inr (4, [.ref h4, .int z17])), (h1, .inr (4, [.ref h3, .int z10]))] rfl ?_
    have p32 : z10 = r30 := (w31).symm
    subst p32
    exact r_iret 50 Rt dX11_back_50 (z10, z17, f11) (show -1 ≤ (Int32.toInt z10) ∧ (Int32.toInt z10) ≤ 1500 ∧ 0 ≤ (Int32.toInt z10) ∧ (Int32.toInt z10) ≤ 1500 ∧ 0 ≤ (Int32.toInt z17) ∧ (Int32.toInt z17) ≤ 1508 ∧ (((Int32.toInt x0) + (Int32.toInt x1) ≤ 1500 ∧ (Int32.toInt z10) = (Int32.toInt x0) + (Int32.toInt x1) ∧ (Int32.toInt z17) = 0 ∧ (Int32.toInt z10) = (Int32.toInt z10)) ∨ (1500 < (Int32.toInt x0) + (Int32.toInt x1) ∧ (Int32.toInt z10) = (Int32.toInt x0) ∧ (Int32.toInt z17) = (Int32.toInt x1) ∧ (Int32.toInt z10) = -1)) from ⟨(iv_wide (c := (-1)) (d := 1500) ⟨p14, p15⟩ (by decide) (by decide)).1, (show _ ∧ _ from ⟨p14, p15⟩).2, (show _ ∧ _ from ⟨p14, p15⟩).1, (show _ ∧ _ from ⟨p14, p15⟩).2, (show _ ∧ _ from ⟨p19, p20⟩).1, (show _ ∧ _ from ⟨p19, p20⟩).2, (by ((repeat' apply And.intro) <;> first | trivial | rfl | assumption | omega | decide | exact Or.inl rfl | exact Or.inr (Or.inl rfl) | exact Or.inr (Or.inr rfl)))⟩) [0, 4, 3, 1, 2] (by decide) rfl (Nat.le_of_ble_eq_true rfl) (Nat.le_of_ble_eq_true rfl)
  · skip
    have k33 : ¬ ((Int32.toInt z7) ≤ 1500) := fun h_9 => c8 ((fa_le z7 1500).mpr h_9)
    refine r_iconst 21 (-1) C dX11_back_21 (by decide) ?_
    exact r_iret 22 Rt dX11_back_22 (x0, x1, fn0) (show -1 ≤ (Int32.toInt (-1)) ∧ (Int32.toInt (-1)) ≤ 1500 ∧ 0 ≤ (Int32.toInt x0) ∧ (Int32.toInt x0) ≤ 1500 ∧ 0 ≤ (Int32.toInt x1) ∧ (Int32.toInt x1) ≤ 1508 ∧ (((Int32.toInt x0) + (Int32.toInt x1) ≤ 1500 ∧ (Int32.toInt x0) = (Int32.toInt x0) + (Int32.toInt x1) ∧ (Int32.toInt x1) = 0 ∧ (-1) = (Int32.toInt x0)) ∨ (1500 < (Int32.toInt x0) + (Int32.toInt x1) ∧ (Int32.toInt x0) = (Int32.toInt x0) ∧ (Int32.toInt x1) = (Int32.toInt x1) ∧ (-1) = -1)) from ⟨(by ((repeat' apply And.intro) <;> first | trivial | rfl | assumption | omega | decide | exact Or.inl rfl | exact Or.inr (Or.inl rfl) | exact Or.inr (Or.inr rfl))), (by ((repeat' apply And.intro) <;> first | trivial | rfl | assumption | omega | decide | exact Or.inl rfl | exact Or.inr (Or.inl rfl) | exact Or.inr (Or.inr rfl))), i_x0.1, i_x0.2, i_x1.1, i_x1.2, (by ((repeat' apply And.intro) <;> first | trivial | rfl | assumption | omega | decide | exact Or.inl rfl | exact Or.inr (Or.inl rfl) | exact Or.inr (Or.inr rfl)))⟩) [0, 3, 4, 1, 2] (by decide) rfl (Nat.le_of_ble_eq_true rfl) (Nat.le_of_ble_eq_true rfl)
set_option maxHeartbeats 4000000 in
set_option maxRecDepth 100000 in
theorem c27_X11_count (l : Launch) (g : GD) (h0 : Nat) (h1 : Nat) (h2 : Nat) (x0 : Int32) (h3 : Nat) (h4 : Nat) (h5 : Nat) (h6 : Nat) (h7 : Nat) (h8 : Nat) (h9 : Nat) (vv0 : Value) (h10 : Nat) (x1 : Int32) (h11 : Nat) (x2 : Int32) (i_x1 : (0 ≤ (Int32.toInt x1) ∧ (Int32.toInt x1) ≤ 1500)) (i_x2 : (0 ≤ (Int32.toInt x2) ∧ (Int32.toInt x2) ≤ 1508)) (sz : Nat) : Met l yX11_count wsX11_count ({ frames := 1, cells := 0, slots := 0, locals := 20 }) (va_Pc [.ref h0, .int x0] (PW g [(h0, .inr (10, [.ref h1, .ref h2, .ref h3, .ref h4, .ref h5, .ref h6, .ref h7, .ref h8, .ref h9, vv0])), (h1, .inr (4, [.ref h10, .int x1])), (h2, .inr (4, [.ref h11, .int x2]))] sz)) (va_Qi (fun (r : Int32) (_ : Unit) => -1 ≤ (Int32.toInt r) ∧ (Int32.toInt r) ≤ 1508 ∧ (((Int32.toInt x0) = 0 ∧ (Int32.toInt r) = (Int32.toInt x1)) ∨ ((Int32.toInt x0) = 1 ∧ (Int32.toInt r) = (Int32.toInt x2)) ∨ (¬ ((Int32.toInt x0) = 0) ∧ ¬ ((Int32.toInt x0) = 1) ∧ (Int32.toInt r) = -1))) (BW g (va_A [(h0, .inr (10, [.ref h1, .ref h2, .ref h3, .ref h4, .ref h5, .ref h6, .ref h7, .ref h8, .ref h9, vv0])), (h1, .inr (4, [.ref h10, .int x1])), (h2, .inr (4, [.ref h11, .int x2]))] sz) (fun _ : Unit => [(h0, .inr (10, [.ref h1, .ref h2, .ref h3, .ref h4, .ref h5, .ref h6, .ref h7, .ref h8, .ref h9, vv0])), (h1, .inr (4, [.ref h10, .int x1])), (h2, .inr (4, [.ref h11, .int x2]))])) (va_A [(h0, .inr (10, [.ref h1, .ref h2, .ref h3, .ref h4, .ref h5, .ref h6, .ref h7, .ref h8, .ref h9, vv0])), (h1, .inr (4, [.ref h10, .int x1])), (h2, .inr (4, [.ref h11, .int x2]))] sz)) 0 0 (va_A [(h0, .inr (10, [.ref h1, .ref h2, .ref h3, .ref h4, .ref h5, .ref h6, .ref h7, .ref h8, .ref h9, vv0])), (h1, .inr (4, [.ref h10, .int x1])), (h2, .inr (4, [.ref h11, .int x2]))] sz) := by
  refine met_i RX11 (by decide) rfl rfl (Nat.le_of_ble_eq_true rfl) [(0, .ref h0), (1, .int x0)] rfl ?_
  intro p e s m args below meth c A Q C hnm Rt
  have gx0 := fb_rng x0
  have hiX11 : ∀ w ∈ wsX110, w ∈ wsX11_count := fun w h => List.mem_cons_of_mem _ (List.mem_append_left _ (List.mem_append_right _ (h)))
  refine r_iload_n 0 1 C dX11_count_0 rfl ?_
  by_cases c1 : x0 = 0
  · skip
    have k2 : (Int32.toInt x0) = 0 := (fa_eq x0 0).mp c1
    refine r_lookup 1 28 (off := 27) C dX11_count_1 (by decide) (by rw [c1]; decide) (by decide) ?_
    refine r_aload_n 28 0 C dX11_count_28 rfl ?_
    refine r_get 29 C dX11_count_29 (k := 0) 0 rfl rfl hiX11 (by decide) rfl (mg 1 rfl) (Or.inl rfl) rfl ?_
    refine r_callVi 32 C dX11_count_32 [] [(h1, .inr (4, [.ref h10, .int x1]))] [(h0, .inr (10, [.ref h1, .ref h2, .ref h3, .ref h4, .ref h5, .ref h6, .ref h7, .ref h8, .ref h9, vv0])), (h2, .inr (4, [.ref h11, .int x2]))] (fun sz => c0_X5_size l g h1 h10 x1 i_x1 sz) gX11_count_X5_size rfl ⟨rfl, rfl⟩ 0 (by decide) ⟨Nat.le_of_ble_eq_true rfl, Nat.le_of_ble_eq_true rfl⟩ 1 rfl rfl [1] [0, 2] rfl rfl (by decide) (by decide) (by decide) rfl rfl (Nat.le_of_ble_eq_true rfl) ⟨Nat.le_of_ble_eq_true rfl, Nat.le_of_ble_eq_true rfl⟩ (fun r3 _ w4 => ?_)
    refine r_ws [(h0, .inr (10, [.ref h1, .ref h2, .ref h3, .ref h4, .ref h5, .ref h6, .ref h7, .ref h8, .ref h9, vv0])), (h2, .inr (4, [.ref h11, .int x2])), (h1, .inr (4, [.ref h10, .int x1]))] rfl ?_
    have p5 : x1 = r3 := (w4).symm
    subst p5
    exact r_iret 35 Rt dX11_count_35 () (show -1 ≤ (Int32.toInt x1) ∧ (Int32.toInt x1) ≤ 1508 ∧ (((Int32.toInt x0) = 0 ∧ (Int32.toInt x1) = (Int32.toInt x1)) ∨ ((Int32.toInt x0) = 1 ∧ (Int32.toInt x1) = (Int32.toInt x2)) ∨ (¬ ((Int32.toInt x0) = 0) ∧ ¬ ((Int32.toInt x0) = 1) ∧ (Int32.toInt x1) = -1)) from ⟨(iv_wide (c := (-1)) (d := 1508) i_x1 (by decide) (by decide)).1, (iv_wide (c := (-1)) (d := 1508) i_x1 (by decide) (by decide)).2, (by ((repeat' apply And.intro) <;> first | trivial | rfl | assumption | omega | decide | exact Or.inl rfl | exact Or.inr (Or.inl rfl) | exact Or.inr (Or.inr rfl)))⟩) [0, 2, 1] (by decide) rfl (Nat.le_of_ble_eq_true rfl) (Nat.le_of_ble_eq_true rfl)
  · skip
    have k6 : ¬ ((Int32.toInt x0) = 0) := fun h_9 => c1 ((fa_eq x0 0).mpr h_9)
    by_cases c7 : x0 = 1
    · skip
      have k8 : (Int32.toInt x0) = 1 := (fa_eq x0 1).mp c7
      refine r_lookup 1 36 (off := 35) C dX11_count_1 (by decide) (by rw [c7]; decide) (by decide) ?_
      refine r_aload_n 36 0 C dX11_count_36 rfl ?_
      refine r_get 37 C dX11_count_37 (k := 1) 0 rfl rfl hiX11 (by decide) rfl (mg 2 rfl) (Or.inl rfl) rfl ?_
      refine r_callVi 40 C dX11_count_40 [] [(h2, .inr (4, [.ref h11, .int x2]))] [(h0, .inr (10, [.ref h1, .ref h2, .ref h3, .ref h4, .ref h5, .ref h6, .ref h7, .ref h8, .ref h9, vv0])), (h1, .inr (4, [.ref h10, .int x1]))] (fun sz => c19_X5_size l g h2 h11 x2 i_x2 sz) gX11_count_X5_size rfl ⟨rfl, rfl⟩ 0 (by decide) ⟨Nat.le_of_ble_eq_true rfl, Nat.le_of_ble_eq_true rfl⟩ 2 rfl rfl [2] [0, 1] rfl rfl (by decide) (by decide) (by decide) rfl rfl (Nat.le_of_ble_eq_true rfl) ⟨Nat.le_of_ble_eq_true rfl, Nat.le_of_ble_eq_true rfl⟩ (fun r9 _ w10 => ?_)
      refine r_ws [(h0, .inr (10, [.ref h1, .ref h2, .ref h3, .ref h4, .ref h5, .ref h6, .ref h7, .ref h8, .ref h9, vv0])), (h1, .inr (4, [.ref h10, .int x1])), (h2, .inr (4, [.ref h11, .int x2]))] rfl ?_
      have p11 : x2 = r9 := (w10).symm
      subst p11
      exact r_iret 43 Rt dX11_count_43 () (show -1 ≤ (Int32.toInt x2) ∧ (Int32.toInt x2) ≤ 1508 ∧ (((Int32.toInt x0) = 0 ∧ (Int32.toInt x2) = (Int32.toInt x1)) ∨ ((Int32.toInt x0) = 1 ∧ (Int32.toInt x2) = (Int32.toInt x2)) ∨ (¬ ((Int32.toInt x0) = 0) ∧ ¬ ((Int32.toInt x0) = 1) ∧ (Int32.toInt x2) = -1)) from ⟨(iv_wide (c := (-1)) (d := 1508) i_x2 (by decide) (by decide)).1, (iv_wide (c := (-1)) (d := 1508) i_x2 (by decide) (by decide)).2, (by ((repeat' apply And.intro) <;> first | trivial | rfl | assumption | omega | decide | exact Or.inl rfl | exact Or.inr (Or.inl rfl) | exact Or.inr (Or.inr rfl)))⟩) [0, 1, 2] (by decide) rfl (Nat.le_of_ble_eq_true rfl) (Nat.le_of_ble_eq_true rfl)
    · skip
      have k12 : ¬ ((Int32.toInt x0) = 1) := fun h_9 => c7 ((fa_eq x0 1).mpr h_9)
      refine r_lookup 1 44 (off := 43) C dX11_count_1 (by decide) ((lv_osw c1 rfl).trans ((lv_osw c7 rfl).trans rfl)) (by decide) ?_
      refine r_iconst 44 (-1) C dX11_count_44 (by decide) ?_
      exact r_iret 45 Rt dX11_count_45 () (show -1 ≤ (Int32.toInt (-1)) ∧ (Int32.toInt (-1)) ≤ 1508 ∧ (((Int32.toInt x0) = 0 ∧ (-1) = (Int32.toInt x1)) ∨ ((Int32.toInt x0) = 1 ∧ (-1) = (Int32.toInt x2)) ∨ (¬ ((Int32.toInt x0) = 0) ∧ ¬ ((Int32.toInt x0) = 1) ∧ (-1) = -1)) from ⟨(by ((repeat' apply And.intro) <;> first | trivial | rfl | assumption | omega | decide | exact Or.inl rfl | exact Or.inr (Or.inl rfl) | exact Or.inr (Or.inr rfl))), (by ((repeat' apply And.intro) <;> first | trivial | rfl | assumption | omega | decide | exact Or.inl rfl | exact Or.inr (Or.inl rfl) | exact Or.inr (Or.inr rfl))), (by ((repeat' apply And.intro) <;> first | trivial | rfl | assumption | omega | decide | exact Or.inl rfl | exact Or.inr (Or.inl rfl) | exact Or.inr (Or.inr rfl)))⟩) [0, 1, 2] (by decide) rfl (Nat.le_of_ble_eq_true rfl) (Nat.le_of_ble_eq_true rfl)
set_option maxHeartbeats 4000000 in
set_option maxRecDepth 100000 in
theorem c28_X3_shelfOf (l : Launch) (g : GD) (h0 : Nat) (x0 : Int32) (h1 : Nat) (h2 : Nat) (h3 : Nat) (h4 : Nat) (x1 : Int32) (x2 : Int32) (x3 : Int32) (sz : Nat) : Met l yX3_shelfOf wsX3_shelfOf ({ frames := 0, cells := 0, slots := 0, locals := 0 }) (va_Pc [.ref h0, .int x0] (PW g [(h0, .inr (3, [.ref h1, .ref h2, .ref h3, .ref h4, .int x1, .int x2, .int x3]))] sz)) (va_Qq (fun (r : Option Nat) (_ : Unit) => (((Int32.toInt x0) = 0 ∧ r = (some h2)) ∨ (¬ ((Int32.toInt x0) = 0) ∧ (Int32.toInt x0) = 1 ∧ r = (some h3)) ∨ (¬ ((Int32.toInt x0) = 0) ∧ ¬ ((Int32.toInt x0) = 1) ∧ (Int32.toInt x0) = 2 ∧ r = (some h4)) ∨ (¬ ((Int32.toInt x0) = 0) ∧ ¬ ((Int32.toInt x0) = 1) ∧ ¬ ((Int32.toInt x0) = 2) ∧ r = none))) (BW g (va_A [(h0, .inr (3, [.ref h1, .ref h2, .ref h3, .ref h4, .int x1, .int x2, .int x3]))] sz) (fun _ : Unit => [(h0, .inr (3, [.ref h1, .ref h2, .ref h3, .ref h4, .int x1, .int x2, .int x3]))])) (va_A [(h0, .inr (3, [.ref h1, .ref h2, .ref h3, .ref h4, .int x1, .int x2, .int x3]))] sz)) 0 0 (va_A [(h0, .inr (3, [.ref h1, .ref h2, .ref h3, .ref h4, .int x1, .int x2, .int x3]))] sz) := by
  refine met_q RX3 (by decide) rfl rfl (Nat.le_of_ble_eq_true rfl) [(0, .ref h0), (1, .int x0)] rfl ?_
  intro p e s m args below meth c A Q C hnm Rt
  have gx0 := fb_rng x0
  have hiX3 : ∀ w ∈ wsX30, w ∈ wsX3_shelfOf := fun w h => List.mem_cons_of_mem _ (List.mem_append_right _ (h))
  refine r_iload_n 0 1 C dX3_shelfOf_0 rfl ?_
  by_cases c1 : x0 = 0
  · skip
    have k2 : (Int32.toInt x0) = 0 := (fa_eq x0 0).mp c1
    refine r_tableIn 1 28 0 C dX3_shelfOf_1 c1 (by decide) (by decide) rfl (by decide) ?_
    refine r_aload_n 28 0 C dX3_shelfOf_28 rfl ?_
    refine r_get 29 C dX3_shelfOf_29 (k := 1) 0 rfl rfl hiX3 (by decide) rfl (mg 1 rfl) (Or.inl rfl) rfl ?_
    exact r_qret 32 (some h2) Rt dX3_shelfOf_32 () (show (((Int32.toInt x0) = 0 ∧ (some h2) = (some h2)) ∨ (¬ ((Int32.toInt x0) = 0) ∧ (Int32.toInt x0) = 1 ∧ (some h2) = (some h3)) ∨ (¬ ((Int32.toInt x0) = 0) ∧ ¬ ((Int32.toInt x0) = 1) ∧ (Int32.toInt x0) = 2 ∧ (some h2) = (some h4)) ∨ (¬ ((Int32.toInt x0) = 0) ∧ ¬ ((Int32.toInt x0) = 1) ∧ ¬ ((Int32.toInt x0) = 2) ∧ (some h2) = none)) from by refine Or.inl ?_ <;> ((repeat' apply And.intro) <;> first | trivial | rfl | assumption | omega | decide | exact Or.inl rfl | exact Or.inr (Or.inl rfl) | exact Or.inr (Or.inr rfl))) [0] (by decide) rfl (Nat.le_of_ble_eq_true rfl) (Nat.le_of_ble_eq_true rfl)
  · skip
    have k3 : ¬ ((Int32.toInt x0) = 0) := fun h_9 => c1 ((fa_eq x0 0).mpr h_9)
    by_cases c4 : x0 = 1
    · skip
      have k5 : (Int32.toInt x0) = 1 := (fa_eq x0 1).mp c4
      refine r_tableIn 1 33 1 C dX3_shelfOf_1 c4 (by decide) (by decide) rfl (by decide) ?_
      refine r_aload_n 33 0 C dX3_shelfOf_33 rfl ?_
      refine r_get 34 C dX3_shelfOf_34 (k := 2) 0 rfl rfl hiX3 (by decide) rfl (mg 2 rfl) (Or.inl rfl) rfl ?_
      exact r_qret 37 (some h3) Rt dX3_shelfOf_37 () (show (((Int32.toInt x0) = 0 ∧ (some h3) = (some h2)) ∨ (¬ ((Int32.toInt x0) = 0) ∧ (Int32.toInt x0) = 1 ∧ (some h3) = (some h3)) ∨ (¬ ((Int32.toInt x0) = 0) ∧ ¬ ((Int32.toInt x0) = 1) ∧ (Int32.toInt x0) = 2 ∧ (some h3) = (some h4)) ∨ (¬ ((Int32.toInt x0) = 0) ∧ ¬ ((Int32.toInt x0) = 1) ∧ ¬ ((Int32.toInt x0) = 2) ∧ (some h3) = none)) from by refine Or.inr (Or.inl ?_) <;> ((repeat' apply And.intro) <;> first | trivial | rfl | assumption | omega | decide | exact Or.inl rfl | exact Or.inr (Or.inl rfl) | exact Or.inr (Or.inr rfl))) [0] (by decide) rfl (Nat.le_of_ble_eq_true rfl) (Nat.le_of_ble_eq_true rfl)
    · skip
      have k6 : ¬ ((Int32.toInt x0) = 1) := fun h_9 => c4 ((fa_eq x0 1).mpr h_9)
      by_cases c7 : x0 = 2
      · skip
        have k8 : (Int32.toInt x0) = 2 := (fa_eq x0 2).mp c7
        refine r_tableIn 1 38 2 C dX3_shelfOf_1 c7 (by decide) (by decide) rfl (by decide) ?_
        refine r_aload_n 38 0 C dX3_shelfOf_38 rfl ?_
        refine r_get 39 C dX3_shelfOf_39 (k := 3) 0 rfl rfl hiX3 (by decide) rfl (mg 3 rfl) (Or.inl rfl) rfl ?_
        exact r_qret 42 (some h4) Rt dX3_shelfOf_42 () (show (((Int32.toInt x0) = 0 ∧ (some h4) = (some h2)) ∨ (¬ ((Int32.toInt x0) = 0) ∧ (Int32.toInt x0) = 1 ∧ (some h4) = (some h3)) ∨ (¬ ((Int32.toInt x0) = 0) ∧ ¬ ((Int32.toInt x0) = 1) ∧ (Int32.toInt x0) = 2 ∧ (some h4) = (some h4)) ∨ (¬ ((Int32.toInt x0) = 0) ∧ ¬ ((Int32.toInt x0) = 1) ∧ ¬ ((Int32.toInt x0) = 2) ∧ (some h4) = none)) from by refine Or.inr (Or.inr (Or.inl ?_)) <;> ((repeat' apply And.intro) <;> first | trivial | rfl | assumption | omega | decide | exact Or.inl rfl | exact Or.inr (Or.inl rfl) | exact Or.inr (Or.inr rfl))) [0] (by decide) rfl (Nat.le_of_ble_eq_true rfl) (Nat.le_of_ble_eq_true rfl)
      · skip
        have k9 : ¬ ((Int32.toInt x0) = 2) := fun h_9 => c7 ((fa_eq x0 2).mpr h_9)
        refine r_tableOut 1 43 C dX3_shelfOf_1 (by omega) (by decide) ?_
        refine r_null 43 C dX3_shelfOf_43 ?_
        exact r_qret 44 none Rt dX3_shelfOf_44 () (show (((Int32.toInt x0) = 0 ∧ none = (some h2)) ∨ (¬ ((Int32.toInt x0) = 0) ∧ (Int32.toInt x0) = 1 ∧ none = (some h3)) ∨ (¬ ((Int32.toInt x0) = 0) ∧ ¬ ((Int32.toInt x0) = 1) ∧ (Int32.toInt x0) = 2 ∧ none = (some h4)) ∨ (¬ ((Int32.toInt x0) = 0) ∧ ¬ ((Int32.toInt x0) = 1) ∧ ¬ ((Int32.toInt x0) = 2) ∧ none = none)) from by refine Or.inr (Or.inr (Or.inr (?_))) <;> ((repeat' apply And.intro) <;> first | trivial | rfl | assumption | omega | decide | exact Or.inl rfl | exact Or.inr (Or.inl rfl) | exact Or.inr (Or.inr rfl))) [0] (by decide) rfl (Nat.le_of_ble_eq_true rfl) (Nat.le_of_ble_eq_true rfl)
set_option maxHeartbeats 4000000 in
set_option maxRecDepth 100000 in
theorem c29_X8_has (l : Launch) (g : GD) (h0 : Nat) (h1 : Nat) (y0 : Int64) (h2 : Nat) (h3 : Nat) (x0 : Int32) (x1 : Int32) (x2 : Int32) (fn0 : Nat → Int32) (sz : Nat) : Met l yX8_has wsX8_has ({ frames := 0, cells := 0, slots := 0, locals := 0 }) (va_Pc [.ref h0, .long y0] (PW g [(h0, .inr (7, [.ref h2, .ref h1, .ref h3, .int x0, .int x1, .int x2])), (h1, .inl (gI g, 40, .inl fn0))] sz)) (va_Qi (fun (r : Int32) (_ : Unit) => (((Int64.toInt y0) < 0 ∧ r = 0) ∨ (¬ ((Int64.toInt y0) < 0) ∧ 0 < (Int32.toInt x2) ∧ r = 1) ∨ (¬ ((Int64.toInt y0) < 0) ∧ ¬ (0 < (Int32.toInt x2)) ∧ 40 ≤ (Int64.toInt y0) ∧ r = 0) ∨ (¬ ((Int64.toInt y0) < 0) ∧ ¬ (0 < (Int32.toInt x2)) ∧ ¬ (40 ≤ (Int64.toInt y0)) ∧ r = 0) ∨ (¬ ((Int64.toInt y0) < 0) ∧ ¬ (0 < (Int32.toInt x2)) ∧ ¬ (40 ≤ (Int64.toInt y0)) ∧ r = 1) ∨ (¬ ((Int64.toInt y0) < 0) ∧ r = 0))) (BW g (va_A [(h0, .inr (7, [.ref h2, .ref h1, .ref h3, .int x0, .int x1, .int x2])), (h1, .inl (gI g, 40, .inl fn0))] sz) (fun _ : Unit => [(h0, .inr (7, [.ref h2, .ref h1, .ref h3, .int x0, .int x1, .int x2])), (h1, .inl (gI g, 40, .inl fn0))])) (va_A [(h0, .inr (7, [.ref h2, .ref h1, .ref h3, .int x0, .int x1, .int x2])), (h1, .inl (gI g, 40, .inl fn0))] sz)) 0 0 (va_A [(h0, .inr (7, [.ref h2, .ref h1, .ref h3, .int x0, .int x1, .int x2])), (h1, .inl (gI g, 40, .inl fn0))] sz) := by
  refine met_z RX8 (by decide) rfl rfl (Nat.le_of_ble_eq_true rfl) [(0, .ref h0), (1, .long y0)] rfl ?_
  intro p e s m args below meth c A Q C hnm Rt
  have gy0 := fb_rngL y0
  have gx0 := fb_rng x0
  have gx2 := fb_rng x2
  have hiX8 : ∀ w ∈ wsX80, w ∈ wsX8_has := fun w h => List.mem_cons_of_mem _ (List.mem_append_right _ (h))
  refine r_lload_n 0 1 C dX8_has_0 rfl ?_
  refine r_lconst 1 0 C dX8_has_1 (by decide) ?_
  obtain ⟨z1, ez1⟩ : ∃ z_9, lg_cmp y0 0 = z_9 := ⟨_, rfl⟩
  have l1z1 : (Int32.toInt z1) < 0 ↔ (Int64.toInt y0) < 0 := by rw [← ez1]; exact lgI1 y0 0
  have l2z1 : 0 < (Int32.toInt z1) ↔ 0 < (Int64.toInt y0) := by rw [← ez1]; exact lgI2 y0 0
  refine r_lcmp 2 z1 C dX8_has_2 ez1 ?_
  refine r_if_lt 3 16 C dX8_has_3 (by decide) (fun c2 => ?_) (fun c2 => ?_)
  · skip
    have k3 : (Int32.toInt z1) < 0 := (fa_lt z1 0).mp c2
    refine r_iconst 16 0 C dX8_has_16 (by decide) ?_
    exact r_zret 17 Rt dX8_has_17 (by decide) () (show (((Int64.toInt y0) < 0 ∧ 0 = 0) ∨ (¬ ((Int64.toInt y0) < 0) ∧ 0 < (Int32.toInt x2) ∧ 0 = 1) ∨ (¬ ((Int64.toInt y0) < 0) ∧ ¬ (0 < (Int32.toInt x2)) ∧ 40 ≤ (Int64.toInt y0) ∧ 0 = 0) ∨ (¬ ((Int64.toInt y0) < 0) ∧ ¬ (0 < (Int32.toInt x2)) ∧ ¬ (40 ≤ (Int64.toInt y0)) ∧ 0 = 0) ∨ (¬ ((Int64.toInt y0) < 0) ∧ ¬ (0 < (Int32.toInt x2)) ∧ ¬ (40 ≤ (Int64.toInt y0)) ∧ 0 = 1) ∨ (¬ ((Int64.toInt y0) < 0) ∧ 0 = 0)) from by refine Or.inl ?_ <;> ((repeat' apply And.intro) <;> first | trivial | rfl | assumption | omega | decide | exact Or.inl rfl | exact Or.inr (Or.inl rfl) | exact Or.inr (Or.inr rfl))) [0, 1] (by decide) rfl (Nat.le_of_ble_eq_true rfl) (Nat.le_of_ble_eq_true rfl)
  · skip
    have k4 : ¬ ((Int32.toInt z1) < 0) := fun h_9 => c2 ((fa_lt z1 0).mpr h_9)
    refine r_lload_n 6 1 C dX8_has_6 rfl ?_
    refine r_aload_n 7 0 C dX8_has_7 rfl ?_
    refine r_get 8 C dX8_has_8 (k := 3) 0 rfl rfl hiX8 (by decide) rfl (mg 1 rfl) (Or.inl rfl) rfl ?_
    obtain ⟨z5, ez5⟩ : ∃ z_9, Int32.toInt64 x0 = z_9 := ⟨_, rfl⟩
    have tz5 : (Int64.toInt z5) = (Int32.toInt x0) := by rw [← ez5]; exact Int32.toInt_toInt64 _
    refine r_i2l 11 z5 C dX8_has_11 ez5 ?_
    obtain ⟨z6, ez6⟩ : ∃ z_9, lg_cmp y0 z5 = z_9 := ⟨_, rfl⟩
    have l1z6 : (Int32.toInt z6) < 0 ↔ (Int64.toInt y0) < (Int64.toInt z5) := by rw [← ez6]; exact lgI1 y0 z5
    have l2z6 : 0 < (Int32.toInt z6) ↔ (Int64.toInt z5) < (Int64.toInt y0) := by rw [← ez6]; exact lgI2 y0 z5
    refine r_lcmp 12 z6 C dX8_has_12 ez6 ?_
    refine r_if_lt 13 18 C dX8_has_13 (by decide) (fun c7 => ?_) (fun c7 => ?_)
    · skip
      have k8 : (Int32.toInt z6) < 0 := (fa_lt z6 0).mp c7
      refine r_aload_n 18 0 C dX8_has_18 rfl ?_
      refine r_get 19 C dX8_has_19 (k := 5) 0 rfl rfl hiX8 (by decide) rfl (mg 2 rfl) (Or.inl rfl) rfl ?_
      refine r_if_gt 22 47 C dX8_has_22 (by decide) (fun c9 => ?_) (fun c9 => ?_)
      · skip
        have k10 : 0 < (Int32.toInt x2) := (fa_lt 0 x2).mp c9
        refine r_iconst 47 1 C dX8_has_47 (by decide) ?_
        refine r_goto 48 52 C dX8_has_48 (by decide) ?_
        exact r_zret 52 Rt dX8_has_52 (by decide) () (show (((Int64.toInt y0) < 0 ∧ 1 = 0) ∨ (¬ ((Int64.toInt y0) < 0) ∧ 0 < (Int32.toInt x2) ∧ 1 = 1) ∨ (¬ ((Int64.toInt y0) < 0) ∧ ¬ (0 < (Int32.toInt x2)) ∧ 40 ≤ (Int64.toInt y0) ∧ 1 = 0) ∨ (¬ ((Int64.toInt y0) < 0) ∧ ¬ (0 < (Int32.toInt x2)) ∧ ¬ (40 ≤ (Int64.toInt y0)) ∧ 1 = 0) ∨ (¬ ((Int64.toInt y0) < 0) ∧ ¬ (0 < (Int32.toInt x2)) ∧ ¬ (40 ≤ (Int64.toInt y0)) ∧ 1 = 1) ∨ (¬ ((Int64.toInt y0) < 0) ∧ 1 = 0)) from by refine Or.inr (Or.inl ?_) <;> ((repeat' apply And.intro) <;> first | trivial | rfl | assumption | omega | decide | exact Or.inl rfl | exact Or.inr (Or.inl rfl) | exact Or.inr (Or.inr rfl))) [0, 1] (by decide) rfl (Nat.le_of_ble_eq_true rfl) (Nat.le_of_ble_eq_true rfl)
      · skip
        have k11 : ¬ (0 < (Int32.toInt x2)) := fun h_9 => c9 ((fa_lt 0 x2).mpr h_9)
        refine r_lload_n 25 1 C dX8_has_25 rfl ?_
        refine r_aload_n 26 0 C dX8_has_26 rfl ?_
        refine r_get 27 C dX8_has_27 (k := 1) 0 rfl rfl hiX8 (by decide) rfl (mg 3 rfl) (Or.inl rfl) rfl ?_
        refine r_ialen 30 40 C dX8_has_30 1 rfl (by decide) ?_
        refine r_i2l 31 40 C dX8_has_31 (by decide) ?_
        obtain ⟨z12, ez12⟩ : ∃ z_9, lg_cmp y0 40 = z_9 := ⟨_, rfl⟩
        have l1z12 : (Int32.toInt z12) < 0 ↔ (Int64.toInt y0) < 40 := by rw [← ez12]; exact lgI1 y0 40
        have l2z12 : 0 < (Int32.toInt z12) ↔ 40 < (Int64.toInt y0) := by rw [← ez12]; exact lgI2 y0 40
        refine r_lcmp 32 z12 C dX8_has_32 ez12 ?_
        refine r_if_ge 33 51 C dX8_has_33 (by decide) (fun c13 => ?_) (fun c13 => ?_)
        · skip
          have k14 : 0 ≤ (Int32.toInt z12) := (fa_le 0 z12).mp c13
          refine r_iconst 51 0 C dX8_has_51 (by decide) ?_
          exact r_zret 52 Rt dX8_has_52 (by decide) () (show (((Int64.toInt y0) < 0 ∧ 0 = 0) ∨ (¬ ((Int64.toInt y0) < 0) ∧ 0 < (Int32.toInt x2) ∧ 0 = 1) ∨ (¬ ((Int64.toInt y0) < 0) ∧ ¬ (0 < (Int32.toInt x2)) ∧ 40 ≤ (Int64.toInt y0) ∧ 0 = 0) ∨ (¬ ((Int64.toInt y0) < 0) ∧ ¬ (0 < (Int32.toInt x2)) ∧ ¬ (40 ≤ (Int64.toInt y0)) ∧ 0 = 0) ∨ (¬ ((Int64.toInt y0) < 0) ∧ ¬ (0 < (Int32.toInt x2)) ∧ ¬ (40 ≤ (Int64.toInt y0)) ∧ 0 = 1) ∨ (¬ ((Int64.toInt y0) < 0) ∧ 0 = 0)) from by refine Or.inr (Or.inr (Or.inl ?_)) <;> ((repeat' apply And.intro) <;> first | trivial | rfl | assumption | omega | decide | exact Or.inl rfl | exact Or.inr (Or.inl rfl) | exact Or.inr (Or.inr rfl))) [0, 1] (by decide) rfl (Nat.le_of_ble_eq_true rfl) (Nat.le_of_ble_eq_true rfl)
        · skip
          have k15 : ¬ (0 ≤ (Int32.toInt z12)) := fun h_9 => c13 ((fa_le 0 z12).mpr h_9)
          refine r_aload_n 36 0 C dX8_has_36 rfl ?_
          refine r_get 37 C dX8_has_37 (k := 1) 0 rfl rfl hiX8 (by decide) rfl (mg 3 rfl) (Or.inl rfl) rfl ?_
          refine r_lload_n 40 1 C dX8_has_40 rfl ?_
          obtain ⟨z16, ez16⟩ : ∃ z_9, Int64.toInt32 y0 = z_9 := ⟨_, rfl⟩
          have tz16 : (Int32.toInt z16) = (Int64.toInt y0) := by rw [← ez16]; exact l2i_in (by omega) (by omega)
          refine r_l2i 41 z16 C dX8_has_41 ez16 ?_
          obtain ⟨z17, ez17⟩ : ∃ z_9, fn0 (Int32.toNatClampNeg z16) = z_9 := ⟨_, rfl⟩
          refine r_iald 42 z17 C dX8_has_42 1 rfl (vinI (by omega) (by omega)) ez17 ?_
          have gz17 := fb_rng z17
          refine r_iconst 43 (-1) C dX8_has_43 (by decide) ?_
          refine r_icmp_eq 44 51 C dX8_has_44 (by decide) (fun c18 => ?_) (fun c18 => ?_)
          · skip
            have k19 : (Int32.toInt z17) = (-1) := (fa_eq z17 (-1)).mp c18
            refine r_iconst 51 0 C dX8_has_51 (by decide) ?_
            exact r_zret 52 Rt dX8_has_52 (by decide) () (show (((Int64.toInt y0) < 0 ∧ 0 = 0) ∨ (¬ ((Int64.toInt y0) < 0) ∧ 0 < (Int32.toInt x2) ∧ 0 = 1) ∨ (¬ ((Int64.toInt y0) < 0) ∧ ¬ (0 < (Int32.toInt x2)) ∧ 40 ≤ (Int64.toInt y0) ∧ 0 = 0) ∨ (¬ ((Int64.toInt y0) < 0) ∧ ¬ (0 < (Int32.toInt x2)) ∧ ¬ (40 ≤ (Int64.toInt y0)) ∧ 0 = 0) ∨ (¬ ((Int64.toInt y0) < 0) ∧ ¬ (0 < (Int32.toInt x2)) ∧ ¬ (40 ≤ (Int64.toInt y0)) ∧ 0 = 1) ∨ (¬ ((Int64.toInt y0) < 0) ∧ 0 = 0)) from by refine Or.inr (Or.inr (Or.inr (Or.inl ?_))) <;> ((repeat' apply And.intro) <;> first | trivial | rfl | assumption | omega | decide | exact Or.inl rfl | exact Or.inr (Or.inl rfl) | exact Or.inr (Or.inr rfl))) [0, 1] (by decide) rfl (Nat.le_of_ble_eq_true rfl) (Nat.le_of_ble_eq_true rfl)
          · skip
            have k20 : ¬ ((Int32.toInt z17) = (-1)) := fun h_9 => c18 ((fa_eq z17 (-1)).mpr h_9)
            refine r_iconst 47 1 C dX8_has_47 (by decide) ?_
            refine r_goto 48 52 C dX8_has_48 (by decide) ?_
            exact r_zret 52 Rt dX8_has_52 (by decide) () (show (((Int64.toInt y0) < 0 ∧ 1 = 0) ∨ (¬ ((Int64.toInt y0) < 0) ∧ 0 < (Int32.toInt x2) ∧ 1 = 1) ∨ (¬ ((Int64.toInt y0) < 0) ∧ ¬ (0 < (Int32.toInt x2)) ∧ 40 ≤ (Int64.toInt y0) ∧ 1 = 0) ∨ (¬ ((Int64.toInt y0) < 0) ∧ ¬ (0 < (Int32.toInt x2)) ∧ ¬ (40 ≤ (Int64.toInt y0)) ∧ 1 = 0) ∨ (¬ ((Int64.toInt y0) < 0) ∧ ¬ (0 < (Int32.toInt x2)) ∧ ¬ (40 ≤ (Int64.toInt y0)) ∧ 1 = 1) ∨ (¬ ((Int64.toInt y0) < 0) ∧ 1 = 0)) from by refine Or.inr (Or.inr (Or.inr (Or.inr (Or.inl ?_)))) <;> ((repeat' apply And.intro) <;> first | trivial | rfl | assumption | omega | decide | exact Or.inl rfl | exact Or.inr (Or.inl rfl) | exact Or.inr (Or.inr rfl))) [0, 1] (by decide) rfl (Nat.le_of_ble_eq_true rfl) (Nat.le_of_ble_eq_true rfl)
    · skip
      have k21 : ¬ ((Int32.toInt z6) < 0) := fun h_9 => c7 ((fa_lt z6 0).mpr h_9)
      refine r_iconst 16 0 C dX8_has_16 (by decide) ?_
      exact r_zret 17 Rt dX8_has_17 (by decide) () (show (((Int64.toInt y0) < 0 ∧ 0 = 0) ∨ (¬ ((Int64.toInt y0) < 0) ∧ 0 < (Int32.toInt x2) ∧ 0 = 1) ∨ (¬ ((Int64.toInt y0) < 0) ∧ ¬ (0 < (Int32.toInt x2)) ∧ 40 ≤ (Int64.toInt y0) ∧ 0 = 0) ∨ (¬ ((Int64.toInt y0) < 0) ∧ ¬ (0 < (Int32.toInt x2)) ∧ ¬ (40 ≤ (Int64.toInt y0)) ∧ 0 = 0) ∨ (¬ ((Int64.toInt y0) < 0) ∧ ¬ (0 < (Int32.toInt x2)) ∧ ¬ (40 ≤ (Int64.toInt y0)) ∧ 0 = 1) ∨ (¬ ((Int64.toInt y0) < 0) ∧ 0 = 0)) from by refine Or.inr (Or.inr (Or.inr (Or.inr (Or.inr (?_))))) <;> ((repeat' apply And.intro) <;> first | trivial | rfl | assumption | omega | decide | exact Or.inl rfl | exact Or.inr (Or.inl rfl) | exact Or.inr (Or.inr rfl))) [0, 1] (by decide) rfl (Nat.le_of_ble_eq_true rfl) (Nat.le_of_ble_eq_true rfl)
set_option maxHeartbeats 4000000 in
set_option maxRecDepth 100000 in
theorem c30_X8_objectAt (l : Launch) (g : GD) (h0 : Nat) (h1 : Nat) (h2 : Nat) (x0 : Int32) (h3 : Nat) (h4 : Nat) (x1 : Int32) (x2 : Int32) (x3 : Int32) (x4 : Int32) (fn0 : Nat → Int32) (i_x4 : (0 ≤ (Int32.toInt x4) ∧ (Int32.toInt x4) ≤ 1500)) (sz : Nat) : Met l yX8_objectAt wsX8_objectAt ({ frames := 1, cells := 0, slots := 0, locals := 22 }) (va_Pc [.ref h0, .int x0] (PW g [(h0, .inr (7, [.ref h1, .ref h3, .ref h4, .int x1, .int x2, .int x3])), (h1, .inr (4, [.ref h2, .int x4])), (h2, .inl (gB g, 1500, .inl fn0))] sz)) (va_Qi (fun (r : Int32) (_ : Unit) => True) (BW g (va_A [(h0, .inr (7, [.ref h1, .ref h3, .ref h4, .int x1, .int x2, .int x3])), (h1, .inr (4, [.ref h2, .int x4])), (h2, .inl (gB g, 1500, .inl fn0))] sz) (fun _ : Unit => [(h0, .inr (7, [.ref h1, .ref h3, .ref h4, .int x1, .int x2, .int x3])), (h1, .inr (4, [.ref h2, .int x4])), (h2, .inl (gB g, 1500, .inl fn0))])) (va_A [(h0, .inr (7, [.ref h1, .ref h3, .ref h4, .int x1, .int x2, .int x3])), (h1, .inr (4, [.ref h2, .int x4])), (h2, .inl (gB g, 1500, .inl fn0))] sz)) 0 0 (va_A [(h0, .inr (7, [.ref h1, .ref h3, .ref h4, .int x1, .int x2, .int x3])), (h1, .inr (4, [.ref h2, .int x4])), (h2, .inl (gB g, 1500, .inl fn0))] sz) := by
  refine met_i RX8 (by decide) rfl rfl (Nat.le_of_ble_eq_true rfl) [(0, .ref h0), (1, .int x0)] rfl ?_
  intro p e s m args below meth c A Q C hnm Rt
  have gx3 := fb_rng x3
  have hiX8 : ∀ w ∈ wsX80, w ∈ wsX8_objectAt := fun w h => List.mem_cons_of_mem _ (List.mem_append_left _ (List.mem_append_right _ (h)))
  refine r_iconst 0 0 C dX8_objectAt_0 (by decide) ?_
  refine r_istore_n 1 C dX8_objectAt_1 [(2, .int 0), (0, .ref h0), (1, .int x0)] (by decide) rfl ?_
  refine r_iconst 2 0 C dX8_objectAt_2 (by decide) ?_
  refine r_istore_n 3 C dX8_objectAt_3 [(3, .int 0), (2, .int 0), (0, .ref h0), (1, .int x0)] (by decide) rfl ?_
  have lp4 : ∀ (n3 : Nat) (z1 : Int32) (z2 : Int32), (0 ≤ (Int32.toInt z1) ∧ (Int32.toInt z1) ≤ 2147483647) → Int.toNat (2147483647 - (Int32.toInt z1)) < n3 → WW p l e ({ frames := 1, cells := 0, slots := 0, locals := 22 } : Room) s m args below meth c A Q g 4 0 0 [(h0, .inr (7, [.ref h1, .ref h3, .ref h4, .int x1, .int x2, .int x3])), (h1, .inr (4, [.ref h2, .int x4])), (h2, .inl (gB g, 1500, .inl fn0))] 4 [(3, .int z1), (2, .int z2), (0, .ref h0), (1, .int x0)] [] := by
    intro n3
    induction n3 with
    | zero => intro z1 z2 i7 hm6; exact absurd hm6 (Nat.not_lt_zero _)
    | succ n3 ih5 =>
      intro z1 z2 i7 hm6
      obtain ⟨i7a, i7b⟩ := i7
      have gz2 := fb_rng z2
      refine r_iload_n 4 0 C dX8_objectAt_4 rfl ?_
      refine r_aload_n 5 2 C dX8_objectAt_5 rfl ?_
      refine r_get 6 C dX8_objectAt_6 (k := 5) 0 rfl rfl hiX8 (by decide) rfl (mg 1 rfl) (Or.inl rfl) rfl ?_
      refine r_icmp_ge 9 46 C dX8_objectAt_9 (by decide) (fun c8 => ?_) (fun c8 => ?_)
      · skip
        have k9 : (Int32.toInt x3) ≤ (Int32.toInt z1) := (fa_le x3 z1).mp c8
        refine r_aload_n 46 2 C dX8_objectAt_46 rfl ?_
        refine r_get 47 C dX8_objectAt_47 (k := 4) 0 rfl rfl hiX8 (by decide) rfl (mg 3 rfl) (Or.inl rfl) rfl ?_
        refine r_aload_n 50 2 C dX8_objectAt_50 rfl ?_
        refine r_get 51 C dX8_objectAt_51 (k := 3) 0 rfl rfl hiX8 (by decide) rfl (mg 4 rfl) (Or.inl rfl) rfl ?_
        refine r_iconst 54 1 C dX8_objectAt_54 (by decide) ?_
        obtain ⟨z10, ez10⟩ : ∃ z_9, x1 + 1 = z_9 := ⟨_, rfl⟩
        have gz10 := fb_rng z10
        refine r_iadd 55 z10 C dX8_objectAt_55 ez10 ?_
        refine r_aload_n 56 2 C dX8_objectAt_56 rfl ?_
        refine r_get 57 C dX8_objectAt_57 (k := 5) 0 rfl rfl hiX8 (by decide) rfl (mg 1 rfl) (Or.inl rfl) rfl ?_
        obtain ⟨z11, ez11⟩ : ∃ z_9, z10 * x3 = z_9 := ⟨_, rfl⟩
        have gz11 := fb_rng z11
        refine r_imul 60 z11 C dX8_objectAt_60 ez11 ?_
        obtain ⟨z12, ez12⟩ : ∃ z_9, x2 + z11 = z_9 := ⟨_, rfl⟩
        have gz12 := fb_rng z12
        refine r_iadd 61 z12 C dX8_objectAt_61 ez12 ?_
        refine r_iload_n 62 1 C dX8_objectAt_62 rfl ?_
        obtain ⟨z13, ez13⟩ : ∃ z_9, z12 + z2 = z_9 := ⟨_, rfl⟩
        have gz13 := fb_rng z13
        refine r_iadd 63 z13 C dX8_objectAt_63 ez13 ?_
        refine r_iconst 64 1 C dX8_objectAt_64 (by decide) ?_
        obtain ⟨z14, ez14⟩ : ∃ z_9, z13 - 1 = z_9 := ⟨_, rfl⟩
        have gz14 := fb_rng z14
        refine r_isub 65 z14 C dX8_objectAt_65 ez14 ?_
        exact r_iret 66 Rt dX8_objectAt_66 () trivial [0, 1, 2] (by decide) rfl (Nat.le_of_ble_eq_true rfl) (Nat.le_of_ble_eq_true rfl)
      · skip
        have k15 : ¬ ((Int32.toInt x3) ≤ (Int32.toInt z1)) := fun h_9 => c8 ((fa_le x3 z1).mpr h_9)
        refine r_iload_n 12 1 C dX8_objectAt_12 rfl ?_
        refine r_sipush 13 256 C dX8_objectAt_13 (by decide) ?_
        obtain ⟨z16, ez16⟩ : ∃ z_9, z2 * 256 = z_9 := ⟨_, rfl⟩
        have gz16 := fb_rng z16
        refine r_imul 16 z16 C dX8_objectAt_16 ez16 ?_
        refine r_aload_n 17 2 C dX8_objectAt_17 rfl ?_
        refine r_get 18 C dX8_objectAt_18 (k := 0) 0 rfl rfl hiX8 (by decide) rfl (mg 2 rfl) (Or.inl rfl) rfl ?_
        refine r_aload_n 21 2 C dX8_objectAt_21 rfl ?_
        refine r_get 22 C dX8_objectAt_22 (k := 4) 0 rfl rfl hiX8 (by decide) rfl (mg 3 rfl) (Or.inl rfl) rfl ?_
        refine r_iload_n 25 3 C dX8_objectAt_25 rfl ?_
        refine r_aload_n 26 2 C dX8_objectAt_26 rfl ?_
        refine r_get 27 C dX8_objectAt_27 (k := 5) 0 rfl rfl hiX8 (by decide) rfl (mg 1 rfl) (Or.inl rfl) rfl ?_
        obtain ⟨z17, ez17⟩ : ∃ z_9, x0 * x3 = z_9 := ⟨_, rfl⟩
        have gz17 := fb_rng z17
        refine r_imul 30 z17 C dX8_objectAt_30 ez17 ?_
        obtain ⟨z18, ez18⟩ : ∃ z_9, x2 + z17 = z_9 := ⟨_, rfl⟩
        have gz18 := fb_rng z18
        refine r_iadd 31 z18 C dX8_objectAt_31 ez18 ?_
        refine r_iload_n 32 0 C dX8_objectAt_32 rfl ?_
        obtain ⟨z19, ez19⟩ : ∃ z_9, z18 + z1 = z_9 := ⟨_, rfl⟩
        have gz19 := fb_rng z19
        refine r_iadd 33 z19 C dX8_objectAt_33 ez19 ?_
        obtain ⟨z20, ez20⟩ : ∃ z_9, Int32.toInt64 z19 = z_9 := ⟨_, rfl⟩
        have tz20 : (Int64.toInt z20) = (Int32.toInt z19) := by rw [← ez20]; exact Int32.toInt_toInt64 _
        refine r_i2l 34 z20 C dX8_objectAt_34 ez20 ?_
        refine r_callVi 35 C dX8_objectAt_35 [.int z16] [(h1, .inr (4, [.ref h2, .int x4])), (h2, .inl (gB g, 1500, .inl fn0))] [(h0, .inr (7, [.ref h1, .ref h3, .ref h4, .int x1, .int x2, .int x3]))] (fun sz => c14_X5_get l g h1 h2 z20 x4 fn0 i_x4 sz) gX8_objectAt_X5_get rfl ⟨rfl, rfl⟩ 1 (by decide) ⟨Nat.le_of_ble_eq_true rfl, Nat.le_of_ble_eq_true rfl⟩ 1 rfl rfl [1, 2] [0] rfl rfl (by decide) (by decide) (by decide) rfl rfl (Nat.le_of_ble_eq_true rfl) ⟨Nat.le_of_ble_eq_true rfl, Nat.le_of_ble_eq_true rfl⟩ (fun r21 _ w22 => ?_)
        refine r_ws [(h0, .inr (7, [.ref h1, .ref h3, .ref h4, .int x1, .int x2, .int x3])), (h1, .inr (4, [.ref h2, .int x4])), (h2, .inl (gB g, 1500, .inl fn0))] rfl ?_
        have p23 : -1 ≤ (Int32.toInt r21) := w22.1
        have p24 : (Int32.toInt r21) ≤ 255 := w22.2
        obtain ⟨z25, ez25⟩ : ∃ z_9, z16 + r21 = z_9 := ⟨_, rfl⟩
        have gz25 := fb_rng z25
        refine r_iadd 38 z25 C dX8_objectAt_38 ez25 ?_
        refine r_istore_n 39 C dX8_objectAt_39 [(2, .int z25), (3, .int z1), (0, .ref h0), (1, .int x0)] (by decide) rfl ?_
        obtain ⟨z26, ez26⟩ : ∃ z_9, z1 + Int32.ofInt 1 = z_9 := ⟨_, rfl⟩
        have tz26 : (Int32.toInt z26) = (Int32.toInt z1) + 1 := by rw [← ez26]; exact fb_addI (by show -2147483648 ≤ (Int32.toInt z1) + 1; omega) (by show (Int32.toInt z1) + 1 < 2147483648; omega)
        refine r_iinc 40 1 z26 C dX8_objectAt_40 rfl ez26 [(3, .int z26), (2, .int z25), (0, .ref h0), (1, .int x0)] (by decide) rfl ?_
        refine r_goto 43 4 C dX8_objectAt_43 (by decide) ?_
        exact ih5 z26 z25 ⟨by omega, by omega⟩ (by omega)
  exact lp4 _ 0 0 (by decide) (Nat.lt_succ_self _)
set_option maxHeartbeats 4000000 in
set_option maxRecDepth 100000 in
theorem c31_X8_finishOf (l : Launch) (g : GD) (h0 : Nat) (h1 : Nat) (h2 : Nat) (h3 : Nat) (h4 : Nat) (x0 : Int32) (x1 : Int32) (x2 : Int32) (x3 : Int32) (x4 : Int32) (fn0 : Nat → Int32) (fn1 : Nat → Int32) (fn2 : Nat → Int32) (i_x4 : (0 ≤ (Int32.toInt x4) ∧ (Int32.toInt x4) ≤ 1500)) (sz : Nat) : Met l yX8_finishOf wsX8_finishOf ({ frames := 2, cells := 0, slots := 0, locals := 45 }) (va_Pc [.ref h0, .int x0] (PW g [(h0, .inr (7, [.ref h1, .ref h2, .ref h3, .int x1, .int x2, .int x3])), (h1, .inr (4, [.ref h4, .int x4])), (h2, .inl (gI g, 40, .inl fn0)), (h3, .inl (gI g, 40, .inl fn1)), (h4, .inl (gB g, 1500, .inl fn2))] sz)) (va_Qi (fun (r : Int32) (_ : Unit) => True) (BW g (va_A [(h0, .inr (7, [.ref h1, .ref h2, .ref h3, .int x1, .int x2, .int x3])), (h1, .inr (4, [.ref h4, .int x4])), (h2, .inl (gI g, 40, .inl fn0)), (h3, .inl (gI g, 40, .inl fn1)), (h4, .inl (gB g, 1500, .inl fn2))] sz) (fun _ : Unit => [(h0, .inr (7, [.ref h1, .ref h2, .ref h3, .int x1, .int x2, .int x3])), (h1, .inr (4, [.ref h4, .int x4])), (h2, .inl (gI g, 40, .inl fn0)), (h3, .inl (gI g, 40, .inl fn1)), (h4, .inl (gB g, 1500, .inl fn2))])) (va_A [(h0, .inr (7, [.ref h1, .ref h2, .ref h3, .int x1, .int x2, .int x3])), (h1, .inr (4, [.ref h4, .int x4])), (h2, .inl (gI g, 40, .inl fn0)), (h3, .inl (gI g, 40, .inl fn1)), (h4, .inl (gB g, 1500, .inl fn2))] sz)) 0 0 (va_A [(h0, .inr (7, [.ref h1, .ref h2, .ref h3, .int x1, .int x2, .int x3])), (h1, .inr (4, [.ref h4, .int x4])), (h2, .inl (gI g, 40, .inl fn0)), (h3, .inl (gI g, 40, .inl fn1)), (h4, .inl (gB g, 1500, .inl fn2))] sz) := by
  refine met_i RX8 (by decide) rfl rfl (Nat.le_of_ble_eq_true rfl) [(0, .ref h0), (1, .int x0)] rfl ?_
  intro p e s m args below meth c A Q C hnm Rt
  have gx0 := fb_rng x0
  have gx3 := fb_rng x3
  have hiX8 : ∀ w ∈ wsX80, w ∈ wsX8_finishOf := fun w h => List.mem_cons_of_mem _ (List.mem_append_left _ (List.mem_append_right _ (h)))
  refine r_aload_n 0 0 C dX8_finishOf_0 rfl ?_
  refine r_iload_n 1 1 C dX8_finishOf_1 rfl ?_
  obtain ⟨z1, ez1⟩ : ∃ z_9, Int32.toInt64 x0 = z_9 := ⟨_, rfl⟩
  have tz1 : (Int64.toInt z1) = (Int32.toInt x0) := by rw [← ez1]; exact Int32.toInt_toInt64 _
  refine r_i2l 2 z1 C dX8_finishOf_2 ez1 ?_
  refine r_callVi 3 C dX8_finishOf_3 [] [(h0, .inr (7, [.ref h1, .ref h2, .ref h3, .int x1, .int x2, .int x3])), (h2, .inl (gI g, 40, .inl fn0))] [(h1, .inr (4, [.ref h4, .int x4])), (h3, .inl (gI g, 40, .inl fn1)), (h4, .inl (gB g, 1500, .inl fn2))] (fun sz => c29_X8_has l g h0 h2 z1 h1 h3 x1 x2 x3 fn0  sz) gX8_finishOf_X8_has rfl ⟨rfl, rfl⟩ 1 (by decide) ⟨Nat.le_of_ble_eq_true rfl, Nat.le_of_ble_eq_true rfl⟩ 0 rfl rfl [0, 2] [1, 3, 4] rfl rfl (by decide) (by decide) (by decide) rfl rfl (Nat.le_of_ble_eq_true rfl) ⟨Nat.le_of_ble_eq_true rfl, Nat.le_of_ble_eq_true rfl⟩ (fun r2 _ w3 => ?_)
  refine r_ws [(h1, .inr (4, [.ref h4, .int x4])), (h3, .inl (gI g, 40, .inl fn1)), (h4, .inl (gB g, 1500, .inl fn2)), (h0, .inr (7, [.ref h1, .ref h2, .ref h3, .int x1, .int x2, .int x3])), (h2, .inl (gI g, 40, .inl fn0))] rfl ?_
  have w4 : (((Int64.toInt z1) < 0 ∧ r2 = 0) ∨ (¬ ((Int64.toInt z1) < 0) ∧ 0 < (Int32.toInt x3) ∧ r2 = 1) ∨ (¬ ((Int64.toInt z1) < 0) ∧ ¬ (0 < (Int32.toInt x3)) ∧ 40 ≤ (Int64.toInt z1) ∧ r2 = 0) ∨ (¬ ((Int64.toInt z1) < 0) ∧ ¬ (0 < (Int32.toInt x3)) ∧ ¬ (40 ≤ (Int64.toInt z1)) ∧ r2 = 0) ∨ (¬ ((Int64.toInt z1) < 0) ∧ ¬ (0 < (Int32.toInt x3)) ∧ ¬ (40 ≤ (Int64.toInt z1)) ∧ r2 = 1) ∨ (¬ ((Int64.toInt z1) < 0) ∧ r2 = 0)) := w3
  rcases w4 with ⟨k5, k6⟩ | w4
  · skip
    have k6 := k6.symm
    subst k6
    refine r_if_ne_f 6 11 C dX8_finishOf_6 (by decide) (by decide) ?_
    refine r_iconst 9 0 C dX8_finishOf_9 (by decide) ?_
    exact r_iret 10 Rt dX8_finishOf_10 () trivial [3, 0, 4, 1, 2] (by decide) rfl (Nat.le_of_ble_eq_true rfl) (Nat.le_of_ble_eq_true rfl)
  rcases w4 with ⟨k7, k8, k9⟩ | w4
  · skip
    have k9 := k9.symm
    subst k9
    refine r_if_ne_t 6 11 C dX8_finishOf_6 (by decide) (by decide) ?_
    refine r_aload_n 11 0 C dX8_finishOf_11 rfl ?_
    refine r_get 12 C dX8_finishOf_12 (k := 5) 3 rfl rfl hiX8 (by decide) rfl (mg 1 rfl) (Or.inl rfl) rfl ?_
    refine r_if_le_f 15 28 C dX8_finishOf_15 (by decide) (fun h_9 => by have h_8 : (Int32.toInt x3) ≤ 0 := (fa_le x3 0).mp h_9; omega) ?_
    refine r_aload_n 18 0 C dX8_finishOf_18 rfl ?_
    refine r_iload_n 19 1 C dX8_finishOf_19 rfl ?_
    refine r_iconst 20 1 C dX8_finishOf_20 (by decide) ?_
    obtain ⟨z10, ez10⟩ : ∃ z_9, x0 + 1 = z_9 := ⟨_, rfl⟩
    have gz10 := fb_rng z10
    refine r_iadd 21 z10 C dX8_finishOf_21 ez10 ?_
    refine r_callVi 22 C dX8_finishOf_22 [] [(h0, .inr (7, [.ref h1, .ref h2, .ref h3, .int x1, .int x2, .int x3])), (h1, .inr (4, [.ref h4, .int x4])), (h4, .inl (gB g, 1500, .inl fn2))] [(h3, .inl (gI g, 40, .inl fn1)), (h2, .inl (gI g, 40, .inl fn0))] (fun sz => c30_X8_objectAt l g h0 h1 h4 z10 h2 h3 x1 x2 x3 x4 fn2 i_x4 sz) gX8_finishOf_X8_objectAt rfl ⟨rfl, rfl⟩ 1 (by decide) ⟨Nat.le_of_ble_eq_true rfl, Nat.le_of_ble_eq_true rfl⟩ 3 rfl rfl [3, 0, 2] [1, 4] rfl rfl (by decide) (by decide) (by decide) rfl rfl (Nat.le_of_ble_eq_true rfl) ⟨Nat.le_of_ble_eq_true rfl, Nat.le_of_ble_eq_true rfl⟩ (fun r11 _ w12 => ?_)
    refine r_ws [(h3, .inl (gI g, 40, .inl fn1)), (h2, .inl (gI g, 40, .inl fn0)), (h0, .inr (7, [.ref h1, .ref h2, .ref h3, .int x1, .int x2, .int x3])), (h1, .inr (4, [.ref h4, .int x4])), (h4, .inl (gB g, 1500, .inl fn2))] rfl ?_
    have gr11 := fb_rng r11
    refine r_goto 25 34 C dX8_finishOf_25 (by decide) ?_
    exact r_iret 34 Rt dX8_finishOf_34 () trivial [2, 3, 1, 0, 4] (by decide) rfl (Nat.le_of_ble_eq_true rfl) (Nat.le_of_ble_eq_true rfl)
  rcases w4 with ⟨k13, k14, k15, k16⟩ | w4
  · skip
    have k16 := k16.symm
    subst k16
    refine r_if_ne_f 6 11 C dX8_finishOf_6 (by decide) (by decide) ?_
    refine r_iconst 9 0 C dX8_finishOf_9 (by decide) ?_
    exact r_iret 10 Rt dX8_finishOf_10 () trivial [3, 0, 4, 1, 2] (by decide) rfl (Nat.le_of_ble_eq_true rfl) (Nat.le_of_ble_eq_true rfl)
  rcases w4 with ⟨k17, k18, k19, k20⟩ | w4
  · skip
    have k20 := k20.symm
    subst k20
    refine r_if_ne_f 6 11 C dX8_finishOf_6 (by decide) (by decide) ?_
    refine r_iconst 9 0 C dX8_finishOf_9 (by decide) ?_
    exact r_iret 10 Rt dX8_finishOf_10 () trivial [3, 0, 4, 1, 2] (by decide) rfl (Nat.le_of_ble_eq_true rfl) (Nat.le_of_ble_eq_true rfl)
  rcases w4 with ⟨k21, k22, k23, k24⟩ | w4
  · skip
    have k24 := k24.symm
    subst k24
    refine r_if_ne_t 6 11 C dX8_finishOf_6 (by decide) (by decide) ?_
    refine r_aload_n 11 0 C dX8_finishOf_11 rfl ?_
    refine r_get 12 C dX8_finishOf_12 (k := 5) 3 rfl rfl hiX8 (by decide) rfl (mg 1 rfl) (Or.inl rfl) rfl ?_
    refine r_if_le_t 15 28 C dX8_finishOf_15 (by decide) ((fa_le x3 0).mpr (by show (Int32.toInt x3) ≤ 0; omega)) ?_
    refine r_aload_n 28 0 C dX8_finishOf_28 rfl ?_
    refine r_get 29 C dX8_finishOf_29 (k := 2) 3 rfl rfl hiX8 (by decide) rfl (mg 2 rfl) (Or.inl rfl) rfl ?_
    refine r_iload_n 32 1 C dX8_finishOf_32 rfl ?_
    obtain ⟨z25, ez25⟩ : ∃ z_9, fn1 (Int32.toNatClampNeg x0) = z_9 := ⟨_, rfl⟩
    refine r_iald 33 z25 C dX8_finishOf_33 1 rfl (vinI (by omega) (by omega)) ez25 ?_
    have gz25 := fb_rng z25
    exact r_iret 34 Rt dX8_finishOf_34 () trivial [3, 0, 4, 1, 2] (by decide) rfl (Nat.le_of_ble_eq_true rfl) (Nat.le_of_ble_eq_true rfl)
  obtain ⟨k26, k27⟩ := w4
  have k27 := k27.symm
  subst k27
  refine r_if_ne_f 6 11 C dX8_finishOf_6 (by decide) (by decide) ?_
  refine r_iconst 9 0 C dX8_finishOf_9 (by decide) ?_
  exact r_iret 10 Rt dX8_finishOf_10 () trivial [3, 0, 4, 1, 2] (by decide) rfl (Nat.le_of_ble_eq_true rfl) (Nat.le_of_ble_eq_true rfl)
