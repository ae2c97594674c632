set_option maxHeartbeats 4000000 in
set_option maxRecDepth 100000 in
theorem c172_X10_takeProgram (l : Launch) (g : GD) (h0 : Nat) (h1 : Nat) (h2 : Nat) (h3 : Nat) (x0 : Int32) (x1 : Int32) (x2 : Int32) (x3 : Int32) (x4 : Int32) (x5 : Int32) (x6 : Int32) (x7 : Int32) (x8 : Int32) (fn0 : Nat → Int32) (i_x4 : (0 ≤ (Int32.toInt x4) ∧ (Int32.toInt x4) ≤ 1)) (i_x8 : (0 ≤ (Int32.toInt x8) ∧ (Int32.toInt x8) ≤ 1500)) (sz : Nat) : Met l yX10_takeProgram wsX10_takeProgram ({ frames := 6, cells := 0, slots := 0, locals := 129 }) (va_Pc [.ref h0] (PW g [(h0, .inr (9, [.ref h3, .ref h1, .int x0, .int x1, .int x2, .int x3, .int x4, .int x5, .int x6, .int x7])), (h1, .inr (4, [.ref h2, .int x8])), (h2, .inl (gB g, 1500, .inl fn0))] sz)) (va_Qi (fun (r : Int32) (u : (Int32) × (Int32) × (Int32) × (Int32) × (Int32) × (Int32) × (Nat → Int32)) => 0 ≤ (Int32.toInt r) ∧ (Int32.toInt r) ≤ 2) (BW g (va_A [(h0, .inr (9, [.ref h3, .ref h1, .int x0, .int x1, .int x2, .int x3, .int x4, .int x5, .int x6, .int x7])), (h1, .inr (4, [.ref h2, .int x8])), (h2, .inl (gB g, 1500, .inl fn0))] sz) (fun u : (Int32) × (Int32) × (Int32) × (Int32) × (Int32) × (Int32) × (Nat → Int32) => [(h0, .inr (9, [.ref h3, .ref h1, .int u.1, .int u.2.1, .int u.2.2.1, .int x3, .int x4, .int u.2.2.2.1, .int u.2.2.2.2.1, .int u.2.2.2.2.2.1])), (h1, .inr (4, [.ref h2, .int x8])), (h2, .inl (gB g, 1500, .inl u.2.2.2.2.2.2))])) (va_A [(h0, .inr (9, [.ref h3, .ref h1, .int x0, .int x1, .int x2, .int x3, .int x4, .int x5, .int x6, .int x7])), (h1, .inr (4, [.ref h2, .int x8])), (h2, .inl (gB g, 1500, .inl fn0))] sz)) 0 0 (va_A [(h0, .inr (9, [.ref h3, .ref h1, .int x0, .int x1, .int x2, .int x3, .int x4, .int x5, .int x6, .int x7])), (h1, .inr (4, [.ref h2, .int x8])), (h2, .inl (gB g, 1500, .inl fn0))] sz) := by
  refine met_i RX10 (by decide) rfl rfl (Nat.le_of_ble_eq_true rfl) [(0, .ref h0)] rfl ?_
  intro p e s m args below meth c A Q C hnm Rt
  have hiX10 : ∀ w ∈ wsX100, w ∈ wsX10_takeProgram := fun w h => List.mem_cons_of_mem _ (List.mem_append_left _ (List.mem_append_right _ (h)))
  refine r_aload_n 0 0 C dX10_takeProgram_0 rfl ?_
  refine r_callVi 1 C dX10_takeProgram_1 [] [(h0, .inr (9, [.ref h3, .ref h1, .int x0, .int x1, .int x2, .int x3, .int x4, .int x5, .int x6, .int x7])), (h1, .inr (4, [.ref h2, .int x8])), (h2, .inl (gB g, 1500, .inl fn0))] [] (fun sz => c154_X10_takeCount l g h0 h1 h2 h3 x0 x1 x2 x3 x4 x5 x6 x7 x8 fn0 i_x4 i_x8 sz) gX10_takeProgram_X10_takeCount rfl ⟨rfl, rfl⟩ 0 (by decide) ⟨Nat.le_of_ble_eq_true rfl, Nat.le_of_ble_eq_true rfl⟩ 0 rfl rfl [0, 1, 2] [] rfl rfl (by decide) (by decide) (by decide) rfl rfl (Nat.le_of_ble_eq_true rfl) ⟨Nat.le_of_ble_eq_true rfl, Nat.le_of_ble_eq_true rfl⟩ (fun r5 u7 w6 => ?_)
  obtain ⟨z1, z2, z3, z4⟩ := u7
  refine r_ws [(h0, .inr (9, [.ref h3, .ref h1, .int z1, .int z2, .int z3, .int x3, .int x4, .int z4, .int x6, .int x7])), (h1, .inr (4, [.ref h2, .int x8])), (h2, .inl (gB g, 1500, .inl fn0))] rfl ?_
  have gz1 := fb_rng z1
  have gz2 := fb_rng z2
  have gz3 := fb_rng z3
  have gz4 := fb_rng z4
  have p8 : 0 ≤ (Int32.toInt r5) := w6.1
  have p9 : (Int32.toInt r5) ≤ 2 := w6.2
  refine r_istore_n 4 C dX10_takeProgram_4 [(1, .int r5), (0, .ref h0)] (by decide) rfl ?_
  refine r_iload_n 5 0 C dX10_takeProgram_5 rfl ?_
  refine r_if_eq 6 11 C dX10_takeProgram_6 (by decide) (fun c10 => ?_) (fun c10 => ?_)
  · skip
    have k11 : (Int32.toInt r5) = 0 := (fa_eq r5 0).mp c10
    refine r_aload_n 11 1 C dX10_takeProgram_11 rfl ?_
    refine r_get 12 C dX10_takeProgram_12 (k := 7) 0 rfl rfl hiX10 (by decide) rfl (mg 1 rfl) (Or.inl rfl) rfl ?_
    refine r_istore_n 15 C dX10_takeProgram_15 [(2, .int z4), (1, .int r5), (0, .ref h0)] (by decide) rfl ?_
    refine r_aload_n 16 2 C dX10_takeProgram_16 rfl ?_
    refine r_callVi 17 C dX10_takeProgram_17 [] [(h0, .inr (9, [.ref h3, .ref h1, .int z1, .int z2, .int z3, .int x3, .int x4, .int z4, .int x6, .int x7])), (h1, .inr (4, [.ref h2, .int x8])), (h2, .inl (gB g, 1500, .inl fn0))] [] (fun sz => c115_X10_takeWord l g h0 h1 h2 h3 z1 z2 z3 x3 x4 z4 x6 x7 x8 fn0 i_x4 i_x8 sz) gX10_takeProgram_X10_takeWord rfl ⟨rfl, rfl⟩ 0 (by decide) ⟨Nat.le_of_ble_eq_true rfl, Nat.le_of_ble_eq_true rfl⟩ 0 rfl rfl [0, 1, 2] [] rfl rfl (by decide) (by decide) (by decide) rfl rfl (Nat.le_of_ble_eq_true rfl) ⟨Nat.le_of_ble_eq_true rfl, Nat.le_of_ble_eq_true rfl⟩ (fun r15 u17 w16 => ?_)
    obtain ⟨z12, z13, z14⟩ := u17
    refine r_ws [(h0, .inr (9, [.ref h3, .ref h1, .int z12, .int z13, .int z14, .int x3, .int x4, .int z4, .int x6, .int x7])), (h1, .inr (4, [.ref h2, .int x8])), (h2, .inl (gB g, 1500, .inl fn0))] rfl ?_
    have gz12 := fb_rng z12
    have gz13 := fb_rng z13
    have gz14 := fb_rng z14
    have p18 : 0 ≤ (Int32.toInt r15) := w16.1
    have p19 : (Int32.toInt r15) ≤ 1 := w16.2
    refine r_if_ne 20 25 C dX10_takeProgram_20 (by decide) (fun c20 => ?_) (fun c20 => ?_)
    · skip
      have k21 : ¬ ((Int32.toInt r15) = 0) := fun h_9 => c20 ((fa_eq r15 0).mpr h_9)
      refine r_aload_n 25 2 C dX10_takeProgram_25 rfl ?_
      refine r_ldcS 26 9 C rfl (by decide) rfl dX10_takeProgram_26 ?_
      refine r_callVi 28 C dX10_takeProgram_28 [] [(h0, .inr (9, [.ref h3, .ref h1, .int z12, .int z13, .int z14, .int x3, .int x4, .int z4, .int x6, .int x7])), (h1, .inr (4, [.ref h2, .int x8])), (h2, .inl (gB g, 1500, .inl fn0))] [] (fun sz => c164_X10_isWord l g h0 h1 h2 h3 z12 z13 z14 x3 x4 z4 x6 x7 x8 fn0 i_x4 i_x8 sz) gX10_takeProgram_X10_isWord rfl ⟨rfl, rfl⟩ 1 (by decide) ⟨Nat.le_of_ble_eq_true rfl, Nat.le_of_ble_eq_true rfl⟩ 0 rfl rfl [0, 1, 2] [] rfl rfl (by decide) (by decide) (by decide) rfl rfl (Nat.le_of_ble_eq_true rfl) ⟨Nat.le_of_ble_eq_true rfl, Nat.le_of_ble_eq_true rfl⟩ (fun r22 _ w23 => ?_)
      refine r_ws [(h0, .inr (9, [.ref h3, .ref h1, .int z12, .int z13, .int z14, .int x3, .int x4, .int z4, .int x6, .int x7])), (h1, .inr (4, [.ref h2, .int x8])), (h2, .inl (gB g, 1500, .inl fn0))] rfl ?_
      have p24 : 0 ≤ (Int32.toInt r22) := w23.1
      have p25 : (Int32.toInt r22) ≤ 1 := w23.2
      refine r_if_ne 31 45 C dX10_takeProgram_31 (by decide) (fun c26 => ?_) (fun c26 => ?_)
      · skip
        have k27 : ¬ ((Int32.toInt r22) = 0) := fun h_9 => c26 ((fa_eq r22 0).mpr h_9)
        refine r_aload_n 45 2 C dX10_takeProgram_45 rfl ?_
        refine r_get 46 C dX10_takeProgram_46 (k := 2) 0 rfl rfl hiX10 (by decide) rfl (mg 2 rfl) (Or.inl rfl) rfl ?_
        refine r_iconst 49 1 C dX10_takeProgram_49 (by decide) ?_
        obtain ⟨z28, ez28⟩ : ∃ z_9, z12 + 1 = z_9 := ⟨_, rfl⟩
        have gz28 := fb_rng z28
        refine r_iadd 50 z28 C dX10_takeProgram_50 ez28 ?_
        refine r_istore_n 51 C dX10_takeProgram_51 [(3, .int z28), (2, .int z4), (1, .int r5), (0, .ref h0)] (by decide) rfl ?_
        refine r_iload_n 52 0 C dX10_takeProgram_52 rfl ?_
        refine r_iload_n 53 1 C dX10_takeProgram_53 rfl ?_
        obtain ⟨z29, ez29⟩ : ∃ z_9, z28 + z4 = z_9 := ⟨_, rfl⟩
        have gz29 := fb_rng z29
        refine r_iadd 54 z29 C dX10_takeProgram_54 ez29 ?_
        refine r_aload_n 55 3 C dX10_takeProgram_55 rfl ?_
        refine r_get 56 C dX10_takeProgram_56 (k := 1) 0 rfl rfl hiX10 (by decide) rfl (mg 3 rfl) (Or.inl rfl) rfl ?_
        refine r_callVi 59 C dX10_takeProgram_59 [.int z29] [(h1, .inr (4, [.ref h2, .int x8]))] [(h0, .inr (9, [.ref h3, .ref h1, .int z12, .int z13, .int z14, .int x3, .int x4, .int z4, .int x6, .int x7])), (h2, .inl (gB g, 1500, .inl fn0))] (fun sz => c0_X5_size l g h1 h2 x8 i_x8 sz) gX10_takeProgram_X5_size rfl ⟨rfl, rfl⟩ 0 (by decide) ⟨Nat.le_of_ble_eq_true rfl, Nat.le_of_ble_eq_true rfl⟩ 1 rfl rfl [1] [0, 2] rfl rfl (by decide) (by decide) (by decide) rfl rfl (Nat.le_of_ble_eq_true rfl) ⟨Nat.le_of_ble_eq_true rfl, Nat.le_of_ble_eq_true rfl⟩ (fun r30 _ w31 => ?_)
        refine r_ws [(h0, .inr (9, [.ref h3, .ref h1, .int z12, .int z13, .int z14, .int x3, .int x4, .int z4, .int x6, .int x7])), (h2, .inl (gB g, 1500, .inl fn0)), (h1, .inr (4, [.ref h2, .int x8]))] rfl ?_
        have p32 : x8 = r30 := (w31).symm
        subst p32
        refine r_icmp_le 62 67 C dX10_takeProgram_62 (by decide) (fun c33 => ?_) (fun c33 => ?_)
        · skip
          have k34 : (Int32.toInt z29) ≤ (Int32.toInt x8) := (fa_le z29 x8).mp c33
          refine r_aload_n 67 3 C dX10_takeProgram_67 rfl ?_
          refine r_iload_n 68 0 C dX10_takeProgram_68 rfl ?_
          refine r_iload_n 69 1 C dX10_takeProgram_69 rfl ?_
          obtain ⟨z35, ez35⟩ : ∃ z_9, z28 + z4 = z_9 := ⟨_, rfl⟩
          have gz35 := fb_rng z35
          refine r_iadd 70 z35 C dX10_takeProgram_70 ez35 ?_
          refine r_put 71 C dX10_takeProgram_71 (k := 2) 0 rfl rfl hiX10 tyX10 tyX10_ok nmX10 (by decide) rfl (mg 2 rfl) (Or.inl rfl) rfl rfl rfl rfl (Nat.le_of_ble_eq_true rfl) [(h0, .inr (9, [.ref h3, .ref h1, .int z35, .int z13, .int z14, .int x3, .int x4, .int z4, .int x6, .int x7])), (h2, .inl (gB g, 1500, .inl fn0)), (h1, .inr (4, [.ref h2, .int x8]))] rfl ?_
          refine r_aload_n 74 3 C dX10_takeProgram_74 rfl ?_
          refine r_get 75 C dX10_takeProgram_75 (k := 1) 0 rfl rfl hiX10 (by decide) rfl (mg 3 rfl) (Or.inl rfl) rfl ?_
          refine r_sipush 78 4330 C dX10_takeProgram_78 (by decide) ?_
          refine r_iload_n 81 0 C dX10_takeProgram_81 rfl ?_
          refine r_aload_n 82 3 C dX10_takeProgram_82 rfl ?_
          refine r_get 83 C dX10_takeProgram_83 (k := 2) 0 rfl rfl hiX10 (by decide) rfl (mg 2 rfl) (Or.inl rfl) rfl ?_
          refine r_callVv 86 C dX10_takeProgram_86 [] [(h1, .inr (4, [.ref h2, .int x8])), (h2, .inl (gB g, 1500, .inl fn0))] [(h0, .inr (9, [.ref h3, .ref h1, .int z35, .int z13, .int z14, .int x3, .int x4, .int z4, .int x6, .int x7]))] (fun sz => c21_X5_decipher l g h1 h2 4330 z28 z35 x8 fn0 i_x8 sz) gX10_takeProgram_X5_decipher rfl ⟨rfl, rfl⟩ 3 (by decide) ⟨Nat.le_of_ble_eq_true rfl, Nat.le_of_ble_eq_true rfl⟩ 2 rfl rfl [2, 1] [0] rfl rfl (by decide) (by decide) (by decide) rfl rfl (Nat.le_of_ble_eq_true rfl) ⟨Nat.le_of_ble_eq_true rfl, Nat.le_of_ble_eq_true rfl⟩ (fun  f36 w37 => ?_)
          refine r_ws [(h0, .inr (9, [.ref h3, .ref h1, .int z35, .int z13, .int z14, .int x3, .int x4, .int z4, .int x6, .int x7])), (h1, .inr (4, [.ref h2, .int x8])), (h2, .inl (gB g, 1500, .inl f36))] rfl ?_
          refine r_aload_n 89 3 C dX10_takeProgram_89 rfl ?_
          refine r_iload_n 90 0 C dX10_takeProgram_90 rfl ?_
          refine r_aload_n 91 3 C dX10_takeProgram_91 rfl ?_
          refine r_get 92 C dX10_takeProgram_92 (k := 5) 0 rfl rfl hiX10 (by decide) rfl (mg 4 rfl) (Or.inl rfl) rfl ?_
          obtain ⟨z38, ez38⟩ : ∃ z_9, z28 + x3 = z_9 := ⟨_, rfl⟩
          have gz38 := fb_rng z38
          refine r_iadd 95 z38 C dX10_takeProgram_95 ez38 ?_
          refine r_aload_n 96 3 C dX10_takeProgram_96 rfl ?_
          refine r_get 97 C dX10_takeProgram_97 (k := 2) 0 rfl rfl hiX10 (by decide) rfl (mg 2 rfl) (Or.inl rfl) rfl ?_
          obtain ⟨z39, ez39⟩ : ∃ z_9, (if z35 < z38 then z35 else z38) = z_9 := ⟨_, rfl⟩
          have tz39 : ((Int32.toInt z35) < (Int32.toInt z38) ∧ (Int32.toInt z39) = (Int32.toInt z35)) ∨ (¬ ((Int32.toInt z35) < (Int32.toInt z38)) ∧ (Int32.toInt z39) = (Int32.toInt z38)) := by rw [← ez39]; exact mx_or z35 z38 z35 z38
          refine r_mmin 100 z39 C dX10_takeProgram_100 (mg 5 rfl) (mg 6 rfl) (mg 7 rfl) (mg 8 rfl) (Nat.le_of_ble_eq_true rfl) (Nat.le_of_ble_eq_true rfl) (Nat.le_of_ble_eq_true rfl) (Nat.le_of_ble_eq_true rfl) ez39 ?_
          refine r_put 103 C dX10_takeProgram_103 (k := 8) 0 rfl rfl hiX10 tyX10 tyX10_ok nmX10 (by decide) rfl (mg 9 rfl) (Or.inl rfl) rfl rfl rfl rfl (Nat.le_of_ble_eq_true rfl) [(h0, .inr (9, [.ref h3, .ref h1, .int z35, .int z13, .int z14, .int x3, .int x4, .int z4, .int z39, .int x7])), (h1, .inr (4, [.ref h2, .int x8])), (h2, .inl (gB g, 1500, .inl f36))] rfl ?_
          refine r_aload_n 106 3 C dX10_takeProgram_106 rfl ?_
          refine r_aload_n 107 3 C dX10_takeProgram_107 rfl ?_
          refine r_get 108 C dX10_takeProgram_108 (k := 2) 0 rfl rfl hiX10 (by decide) rfl (mg 2 rfl) (Or.inl rfl) rfl ?_
          refine r_put 111 C dX10_takeProgram_111 (k := 9) 0 rfl rfl hiX10 tyX10 tyX10_ok nmX10 (by decide) rfl (mg 10 rfl) (Or.inl rfl) rfl rfl rfl rfl (Nat.le_of_ble_eq_true rfl) [(h0, .inr (9, [.ref h3, .ref h1, .int z35, .int z13, .int z14, .int x3, .int x4, .int z4, .int z39, .int z35])), (h1, .inr (4, [.ref h2, .int x8])), (h2, .inl (gB g, 1500, .inl f36))] rfl ?_
          refine r_iconst 114 0 C dX10_takeProgram_114 (by decide) ?_
          exact r_iret 115 Rt dX10_takeProgram_115 (z35, z13, z14, z4, z39, z35, f36) (show 0 ≤ (Int32.toInt 0) ∧ (Int32.toInt 0) ≤ 2 from ⟨(by ((repeat' apply And.intro) <;> first | trivial | rfl | assumption | omega | decide | exact Or.inl rfl | exact Or.inr (Or.inl rfl) | exact Or.inr (Or.inr rfl))), (by ((repeat' apply And.intro) <;> first | trivial | rfl | assumption | omega | decide | exact Or.inl rfl | exact Or.inr (Or.inl rfl) | exact Or.inr (Or.inr rfl)))⟩) [0, 1, 2] (by decide) rfl (Nat.le_of_ble_eq_true rfl) (Nat.le_of_ble_eq_true rfl)
        · skip
          have k40 : ¬ ((Int32.toInt z29) ≤ (Int32.toInt x8)) := fun h_9 => c33 ((fa_le z29 x8).mpr h_9)
          refine r_iconst 65 1 C dX10_takeProgram_65 (by decide) ?_
          exact r_iret 66 Rt dX10_takeProgram_66 (z12, z13, z14, z4, x6, x7, fn0) (show 0 ≤ (Int32.toInt 1) ∧ (Int32.toInt 1) ≤ 2 from ⟨(by ((repeat' apply And.intro) <;> first | trivial | rfl | assumption | omega | decide | exact Or.inl rfl | exact Or.inr (Or.inl rfl) | exact Or.inr (Or.inr rfl))), (by ((repeat' apply And.intro) <;> first | trivial | rfl | assumption | omega | decide | exact Or.inl rfl | exact Or.inr (Or.inl rfl) | exact Or.inr (Or.inr rfl)))⟩) [0, 2, 1] (by decide) rfl (Nat.le_of_ble_eq_true rfl) (Nat.le_of_ble_eq_true rfl)
      · skip
        have k41 : (Int32.toInt r22) = 0 := (fa_eq r22 0).mp c26
        refine r_aload_n 34 2 C dX10_takeProgram_34 rfl ?_
        refine r_ldcS 35 10 C rfl (by decide) rfl dX10_takeProgram_35 ?_
        refine r_callVi 37 C dX10_takeProgram_37 [] [(h0, .inr (9, [.ref h3, .ref h1, .int z12, .int z13, .int z14, .int x3, .int x4, .int z4, .int x6, .int x7])), (h1, .inr (4, [.ref h2, .int x8])), (h2, .inl (gB g, 1500, .inl fn0))] [] (fun sz => c171_X10_isWord l g h0 h1 h2 h3 z12 z13 z14 x3 x4 z4 x6 x7 x8 fn0 i_x4 i_x8 sz) gX10_takeProgram_X10_isWord rfl ⟨rfl, rfl⟩ 1 (by decide) ⟨Nat.le_of_ble_eq_true rfl, Nat.le_of_ble_eq_true rfl⟩ 0 rfl rfl [0, 1, 2] [] rfl rfl (by decide) (by decide) (by decide) rfl rfl (Nat.le_of_ble_eq_true rfl) ⟨Nat.le_of_ble_eq_true rfl, Nat.le_of_ble_eq_true rfl⟩ (fun r42 _ w43 => ?_)
        refine r_ws [(h0, .inr (9, [.ref h3, .ref h1, .int z12, .int z13, .int z14, .int x3, .int x4, .int z4, .int x6, .int x7])), (h1, .inr (4, [.ref h2, .int x8])), (h2, .inl (gB g, 1500, .inl fn0))] rfl ?_
        have p44 : 0 ≤ (Int32.toInt r42) := w43.1
        have p45 : (Int32.toInt r42) ≤ 1 := w43.2
        refine r_if_ne 40 45 C dX10_takeProgram_40 (by decide) (fun c46 => ?_) (fun c46 => ?_)
        · skip
          have k47 : ¬ ((Int32.toInt r42) = 0) := fun h_9 => c46 ((fa_eq r42 0).mpr h_9)
          refine r_aload_n 45 2 C dX10_takeProgram_45 rfl ?_
          refine r_get 46 C dX10_takeProgram_46 (k := 2) 0 rfl rfl hiX10 (by decide) rfl (mg 2 rfl) (Or.inl rfl) rfl ?_
          refine r_iconst 49 1 C dX10_takeProgram_49 (by decide) ?_
          obtain ⟨z48, ez48⟩ : ∃ z_9, z12 + 1 = z_9 := ⟨_, rfl⟩
          have gz48 := fb_rng z48
          refine r_iadd 50 z48 C dX10_takeProgram_50 ez48 ?_
          refine r_istore_n 51 C dX10_takeProgram_51 [(3, .int z48), (2, .int z4), (1, .int r5), (0, .ref h0)] (by decide) rfl ?_
          refine r_iload_n 52 0 C dX10_takeProgram_52 rfl ?_
          refine r_iload_n 53 1 C dX10_takeProgram_53 rfl ?_
          obtain ⟨z49, ez49⟩ : ∃ z_9, z48 + z4 = z_9 := ⟨_, rfl⟩
          have gz49 := fb_rng z49
          refine r_iadd 54 z49 C dX10_takeProgram_54 ez49 ?_
          refine r_aload_n 55 3 C dX10_takeProgram_55 rfl ?_
          refine r_get 56 C dX10_takeProgram_56 (k := 1) 0 rfl rfl hiX10 (by decide) rfl (mg 3 rfl) (Or.inl rfl) rfl ?_
          refine r_callVi 59 C dX10_takeProgram_59 [.int z49] [(h1, .inr (4, [.ref h2, .int x8]))] [(h0, .inr (9, [.ref h3, .ref h1, .int z12, .int z13, .int z14, .int x3, .int x4, .int z4, .int x6, .int x7])), (h2, .inl (gB g, 1500, .inl fn0))] (fun sz => c0_X5_size l g h1 h2 x8 i_x8 sz) gX10_takeProgram_X5_size rfl ⟨rfl, rfl⟩ 0 (by decide) ⟨Nat.le_of_ble_eq_true rfl, Nat.le_of_ble_eq_true rfl⟩ 1 rfl rfl [1] [0, 2] rfl rfl (by decide) (by decide) (by decide) rfl rfl (Nat.le_of_ble_eq_true rfl) ⟨Nat.le_of_ble_eq_true rfl, Nat.le_of_ble_eq_true rfl⟩ (fun r50 _ w51 => ?_)
          refine r_ws [(h0, .inr (9, [.ref h3, .ref h1, .int z12, .int z13, .int z14, .int x3, .int x4, .int z4, .int x6, .int x7])), (h2, .inl (gB g, 1500, .inl fn0)), (h1, .inr (4, [.ref h2, .int x8]))] rfl ?_
          have p52 : x8 = r50 := (w51).symm
          subst p52
          refine r_icmp_le 62 67 C dX10_takeProgram_62 (by decide) (fun c53 => ?_) (fun c53 => ?_)
          · skip
            have k54 : (Int32.toInt z49) ≤ (Int32.toInt x8) := (fa_le z49 x8).mp c53
            refine r_aload_n 67 3 C dX10_takeProgram_67 rfl ?_
            refine r_iload_n 68 0 C dX10_takeProgram_68 rfl ?_
            refine r_iload_n 69 1 C dX10_takeProgram_69 rfl ?_
            obtain ⟨z55, ez55⟩ : ∃ z_9, z48 + z4 = z_9 := ⟨_, rfl⟩
            have gz55 := fb_rng z55
            refine r_iadd 70 z55 C dX10_takeProgram_70 ez55 ?_
            refine r_put 71 C dX10_takeProgram_71 (k := 2) 0 rfl rfl hiX10 tyX10 tyX10_ok nmX10 (by decide) rfl (mg 2 rfl) (Or.inl rfl) rfl rfl rfl rfl (Nat.le_of_ble_eq_true rfl) [(h0, .inr (9, [.ref h3, .ref h1, .int z55, .int z13, .int z14, .int x3, .int x4, .int z4, .int x6, .int x7])), (h2, .inl (gB g, 1500, .inl fn0)), (h1, .inr (4, [.ref h2, .int x8]))] rfl ?_
            refine r_aload_n 74 3 C dX10_takeProgram_74 rfl ?_
            refine r_get 75 C dX10_takeProgram_75 (k := 1) 0 rfl rfl hiX10 (by decide) rfl (mg 3 rfl) (Or.inl rfl) rfl ?_
            refine r_sipush 78 4330 C dX10_takeProgram_78 (by decide) ?_
            refine r_iload_n 81 0 C dX10_takeProgram_81 rfl ?_
            refine r_aload_n 82 3 C dX10_takeProgram_82 rfl ?_
            refine r_get 83 C dX10_takeProgram_83 (k := 2) 0 rfl rfl hiX10 (by decide) rfl (mg 2 rfl) (Or.inl rfl) rfl ?_
            refine r_callVv 86 C dX10_takeProgram_86 [] [(h1, .inr (4, [.ref h2, .int x8])), (h2, .inl (gB g, 1500, .inl fn0))] [(h0, .inr (9, [.ref h3, .ref h1, .int z55, .int z13, .int z14, .int x3, .int x4, .int z4, .int x6, .int x7]))] (fun sz => c21_X5_decipher l g h1 h2 4330 z48 z55 x8 fn0 i_x8 sz) gX10_takeProgram_X5_decipher rfl ⟨rfl, rfl⟩ 3 (by decide) ⟨Nat.le_of_ble_eq_true rfl, Nat.le_of_ble_eq_true rfl⟩ 2 rfl rfl [2, 1] [0] rfl rfl (by decide) (by decide) (by decide) rfl rfl (Nat.le_of_ble_eq_true rfl) ⟨Nat.le_of_ble_eq_true rfl, Nat.le_of_ble_eq_true rfl⟩ (fun  f56 w57 => ?_)
            refine r_ws [(h0, .inr (9, [.ref h3, .ref h1, .int z55, .int z13, .int z14, .int x3, .int x4, .int z4, .int x6, .int x7])), (h1, .inr (4, [.ref h2, .int x8])), (h2, .inl (gB g, 1500, .inl f56))] rfl ?_
            refine r_aload_n 89 3 C dX10_takeProgram_89 rfl ?_
            refine r_iload_n 90 0 C dX10_takeProgram_90 rfl ?_
            refine r_aload_n 91 3 C dX10_takeProgram_91 rfl ?_
            refine r_get 92 C dX10_takeProgram_92 (k := 5) 0 rfl rfl hiX10 (by decide) rfl (mg 4 rfl) (Or.inl rfl) rfl ?_
            obtain ⟨z58, ez58⟩ : ∃ z_9, z48 + x3 = z_9 := ⟨_, rfl⟩
            have gz58 := fb_rng z58
            refine r_iadd 95 z58 C dX10_takeProgram_95 ez58 ?_
            refine r_aload_n 96 3 C dX10_takeProgram_96 rfl ?_
            refine r_get 97 C dX10_takeProgram_97 (k := 2) 0 rfl rfl hiX10 (by decide) rfl (mg 2 rfl) (Or.inl rfl) rfl ?_
            obtain ⟨z59, ez59⟩ : ∃ z_9, (if z55 < z58 then z55 else z58) = z_9 := ⟨_, rfl⟩
            have tz59 : ((Int32.toInt z55) < (Int32.toInt z58) ∧ (Int32.toInt z59) = (Int32.toInt z55)) ∨ (¬ ((Int32.toInt z55) < (Int32.toInt z58)) ∧ (Int32.toInt z59) = (Int32.toInt z58)) := by rw [← ez59]; exact mx_or z55 z58 z55 z58
            refine r_mmin 100 z59 C dX10_takeProgram_100 (mg 5 rfl) (mg 6 rfl) (mg 7 rfl) (mg 8 rfl) (Nat.le_of_ble_eq_true rfl) (Nat.le_of_ble_eq_true rfl) (Nat.le_of_ble_eq_true rfl) (Nat.le_of_ble_eq_true rfl) ez59 ?_
            refine r_put 103 C dX10_takeProgram_103 (k := 8) 0 rfl rfl hiX10 tyX10 tyX10_ok nmX10 (by decide) rfl (mg 9 rfl) (Or.inl rfl) rfl rfl rfl rfl (Nat.le_of_ble_eq_true rfl) [(h0, .inr (9, [.ref h3, .ref h1, .int z55, .int z13, .int z14, .int x3, .int x4, .int z4, .int z59, .int x7])), (h1, .inr (4, [.ref h2, .int x8])), (h2, .inl (gB g, 1500, .inl f56))] rfl ?_
            refine r_aload_n 106 3 C dX10_takeProgram_106 rfl ?_
            refine r_aload_n 107 3 C dX10_takeProgram_107 rfl ?_
            refine r_get 108 C dX10_takeProgram_108 (k := 2) 0 rfl rfl hiX10 (by decide) rfl (mg 2 rfl) (Or.inl rfl) rfl ?_
            refine r_put 111 C dX10_takeProgram_111 (k := 9) 0 rfl rfl hiX10 tyX10 tyX10_ok nmX10 (by decide) rfl (mg 10 rfl) (Or.inl rfl) rfl rfl rfl rfl (Nat.le_of_ble_eq_true rfl) [(h0, .inr (9, [.ref h3, .ref h1, .int z55, .int z13, .int z14, .int x3, .int x4, .int z4, .int z59, .int z55])), (h1, .inr (4, [.ref h2, .int x8])), (h2, .inl (gB g, 1500, .inl f56))] rfl ?_
            refine r_iconst 114 0 C dX10_takeProgram_114 (by decide) ?_
            exact r_iret 115 Rt dX10_takeProgram_115 (z55, z13, z14, z4, z59, z55, f56) (show 0 ≤ (Int32.toInt 0) ∧ (Int32.toInt 0) ≤ 2 from ⟨(by ((repeat' apply And.intro) <;> first | trivial | rfl | assumption | omega | decide | exact Or.inl rfl | exact Or.inr (Or.inl rfl) | exact Or.inr (Or.inr rfl))), (by ((repeat' apply And.intro) <;> first | trivial | rfl | assumption | omega | decide | exact Or.inl rfl | exact Or.inr (Or.inl rfl) | exact Or.inr (Or.inr rfl)))⟩) [0, 1, 2] (by decide) rfl (Nat.le_of_ble_eq_true rfl) (Nat.le_of_ble_eq_true rfl)
          · skip
            have k60 : ¬ ((Int32.toInt z49) ≤ (Int32.toInt x8)) := fun h_9 => c53 ((fa_le z49 x8).mpr h_9)
            refine r_iconst 65 1 C dX10_takeProgram_65 (by decide) ?_
            exact r_iret 66 Rt dX10_takeProgram_66 (z12, z13, z14, z4, x6, x7, fn0) (show 0 ≤ (Int32.toInt 1) ∧ (Int32.toInt 1) ≤ 2 from ⟨(by ((repeat' apply And.intro) <;> first | trivial | rfl | assumption | omega | decide | exact Or.inl rfl | exact Or.inr (Or.inl rfl) | exact Or.inr (Or.inr rfl))), (by ((repeat' apply And.intro) <;> first | trivial | rfl | assumption | omega | decide | exact Or.inl rfl | exact Or.inr (Or.inl rfl) | exact Or.inr (Or.inr rfl)))⟩) [0, 2, 1] (by decide) rfl (Nat.le_of_ble_eq_true rfl) (Nat.le_of_ble_eq_true rfl)
        · skip
          have k61 : (Int32.toInt r42) = 0 := (fa_eq r42 0).mp c46
          refine r_iconst 43 2 C dX10_takeProgram_43 (by decide) ?_
          exact r_iret 44 Rt dX10_takeProgram_44 (z12, z13, z14, z4, x6, x7, fn0) (show 0 ≤ (Int32.toInt 2) ∧ (Int32.toInt 2) ≤ 2 from ⟨(by ((repeat' apply And.intro) <;> first | trivial | rfl | assumption | omega | decide | exact Or.inl rfl | exact Or.inr (Or.inl rfl) | exact Or.inr (Or.inr rfl))), (by ((repeat' apply And.intro) <;> first | trivial | rfl | assumption | omega | decide | exact Or.inl rfl | exact Or.inr (Or.inl rfl) | exact Or.inr (Or.inr rfl)))⟩) [0, 1, 2] (by decide) rfl (Nat.le_of_ble_eq_true rfl) (Nat.le_of_ble_eq_true rfl)
    · skip
      have k62 : (Int32.toInt r15) = 0 := (fa_eq r15 0).mp c20
      refine r_iconst 23 1 C dX10_takeProgram_23 (by decide) ?_
      exact r_iret 24 Rt dX10_takeProgram_24 (z12, z13, z14, z4, x6, x7, fn0) (show 0 ≤ (Int32.toInt 1) ∧ (Int32.toInt 1) ≤ 2 from ⟨(by ((repeat' apply And.intro) <;> first | trivial | rfl | assumption | omega | decide | exact Or.inl rfl | exact Or.inr (Or.inl rfl) | exact Or.inr (Or.inr rfl))), (by ((repeat' apply And.intro) <;> first | trivial | rfl | assumption | omega | decide | exact Or.inl rfl | exact Or.inr (Or.inl rfl) | exact Or.inr (Or.inr rfl)))⟩) [0, 1, 2] (by decide) rfl (Nat.le_of_ble_eq_true rfl) (Nat.le_of_ble_eq_true rfl)
  · skip
    have k63 : ¬ ((Int32.toInt r5) = 0) := fun h_9 => c10 ((fa_eq r5 0).mpr h_9)
    refine r_iload_n 9 0 C dX10_takeProgram_9 rfl ?_
    exact r_iret 10 Rt dX10_takeProgram_10 (z1, z2, z3, z4, x6, x7, fn0) (show 0 ≤ (Int32.toInt r5) ∧ (Int32.toInt r5) ≤ 2 from ⟨(show _ ∧ _ from ⟨p8, p9⟩).1, (show _ ∧ _ from ⟨p8, p9⟩).2⟩) [0, 1, 2] (by decide) rfl (Nat.le_of_ble_eq_true rfl) (Nat.le_of_ble_eq_true rfl)
set_option maxHeartbeats 4000000 in
set_option maxRecDepth 100000 in
theorem c173_X8_put (l : Launch) (g : GD) (h0 : Nat) (h1 : Nat) (h2 : Nat) (x0 : Int32) (x1 : Int32) (x2 : Int32) (h3 : Nat) (x3 : Int32) (x4 : Int32) (x5 : Int32) (fn0 : Nat → Int32) (fn1 : Nat → Int32) (sz : Nat) : Met l yX8_put wsX8_put ({ frames := 0, cells := 0, slots := 0, locals := 0 }) (va_Pc [.ref h0, .int x0, .int x1, .int x2] (PW g [(h0, .inr (7, [.ref h3, .ref h1, .ref h2, .int x3, .int x4, .int x5])), (h1, .inl (gI g, 200, .inl fn0)), (h2, .inl (gI g, 200, .inl fn1))] sz)) (va_Qv (fun (u : (Nat → Int32) × (Nat → Int32)) => True) (BW g (va_A [(h0, .inr (7, [.ref h3, .ref h1, .ref h2, .int x3, .int x4, .int x5])), (h1, .inl (gI g, 200, .inl fn0)), (h2, .inl (gI g, 200, .inl fn1))] sz) (fun u : (Nat → Int32) × (Nat → Int32) => [(h0, .inr (7, [.ref h3, .ref h1, .ref h2, .int x3, .int x4, .int x5])), (h1, .inl (gI g, 200, .inl u.1)), (h2, .inl (gI g, 200, .inl u.2))])) (va_A [(h0, .inr (7, [.ref h3, .ref h1, .ref h2, .int x3, .int x4, .int x5])), (h1, .inl (gI g, 200, .inl fn0)), (h2, .inl (gI g, 200, .inl fn1))] sz)) 0 0 (va_A [(h0, .inr (7, [.ref h3, .ref h1, .ref h2, .int x3, .int x4, .int x5])), (h1, .inl (gI g, 200, .inl fn0)), (h2, .inl (gI g, 200, .inl fn1))] sz) := by
  refine met_v RX8 (by decide) rfl rfl (Nat.le_of_ble_eq_true rfl) [(0, .ref h0), (1, .int x0), (2, .int x1), (3, .int x2)] rfl ?_
  intro p e s m args below meth c A Q C hnm Rt
  have gx0 := fb_rng x0
  have gx3 := fb_rng x3
  have hiX8 : ∀ w ∈ wsX80, w ∈ wsX8_put := fun w h => List.mem_cons_of_mem _ (List.mem_append_right _ (h))
  refine r_iload_n 0 1 C dX8_put_0 rfl ?_
  refine r_if_lt 1 35 C dX8_put_1 (by decide) (fun c1 => ?_) (fun c1 => ?_)
  · skip
    have k2 : (Int32.toInt x0) < 0 := (fa_lt x0 0).mp c1
    exact r_vret 35 Rt dX8_put_35 (fn0, fn1) trivial [0, 1, 2] (by decide) rfl (Nat.le_of_ble_eq_true rfl) (Nat.le_of_ble_eq_true rfl)
  · skip
    have k3 : ¬ ((Int32.toInt x0) < 0) := fun h_9 => c1 ((fa_lt x0 0).mpr h_9)
    refine r_iload_n 4 1 C dX8_put_4 rfl ?_
    refine r_aload_n 5 0 C dX8_put_5 rfl ?_
    refine r_get 6 C dX8_put_6 (k := 3) 0 rfl rfl hiX8 (by decide) rfl (mg 1 rfl) (Or.inl rfl) rfl ?_
    refine r_icmp_ge 9 35 C dX8_put_9 (by decide) (fun c4 => ?_) (fun c4 => ?_)
    · skip
      have k5 : (Int32.toInt x3) ≤ (Int32.toInt x0) := (fa_le x3 x0).mp c4
      exact r_vret 35 Rt dX8_put_35 (fn0, fn1) trivial [0, 1, 2] (by decide) rfl (Nat.le_of_ble_eq_true rfl) (Nat.le_of_ble_eq_true rfl)
    · skip
      have k6 : ¬ ((Int32.toInt x3) ≤ (Int32.toInt x0)) := fun h_9 => c4 ((fa_le x3 x0).mpr h_9)
      refine r_iload_n 12 1 C dX8_put_12 rfl ?_
      refine r_aload_n 13 0 C dX8_put_13 rfl ?_
      refine r_get 14 C dX8_put_14 (k := 1) 0 rfl rfl hiX8 (by decide) rfl (mg 2 rfl) (Or.inl rfl) rfl ?_
      refine r_ialen 17 200 C dX8_put_17 1 rfl (by decide) ?_
      refine r_icmp_ge 18 35 C dX8_put_18 (by decide) (fun c7 => ?_) (fun c7 => ?_)
      · skip
        have k8 : 200 ≤ (Int32.toInt x0) := (fa_le 200 x0).mp c7
        exact r_vret 35 Rt dX8_put_35 (fn0, fn1) trivial [0, 1, 2] (by decide) rfl (Nat.le_of_ble_eq_true rfl) (Nat.le_of_ble_eq_true rfl)
      · skip
        have k9 : ¬ (200 ≤ (Int32.toInt x0)) := fun h_9 => c7 ((fa_le 200 x0).mpr h_9)
        refine r_aload_n 21 0 C dX8_put_21 rfl ?_
        refine r_get 22 C dX8_put_22 (k := 1) 0 rfl rfl hiX8 (by decide) rfl (mg 2 rfl) (Or.inl rfl) rfl ?_
        refine r_iload_n 25 1 C dX8_put_25 rfl ?_
        refine r_iload_n 26 2 C dX8_put_26 rfl ?_
        obtain ⟨f10, ef10⟩ : ∃ f_9, upd fn0 (Int32.toNatClampNeg x0) x1 = f_9 := ⟨_, rfl⟩
        refine r_iast 27 C dX8_put_27 1 rfl (vinI (by omega) (by omega)) f10 ef10 [(h0, .inr (7, [.ref h3, .ref h1, .ref h2, .int x3, .int x4, .int x5])), (h1, .inl (gI g, 200, .inl f10)), (h2, .inl (gI g, 200, .inl fn1))] rfl ?_
        refine r_aload_n 28 0 C dX8_put_28 rfl ?_
        refine r_get 29 C dX8_put_29 (k := 2) 0 rfl rfl hiX8 (by decide) rfl (mg 3 rfl) (Or.inl rfl) rfl ?_
        refine r_iload_n 32 1 C dX8_put_32 rfl ?_
        refine r_iload_n 33 3 C dX8_put_33 rfl ?_
        obtain ⟨f11, ef11⟩ : ∃ f_9, upd fn1 (Int32.toNatClampNeg x0) x2 = f_9 := ⟨_, rfl⟩
        refine r_iast 34 C dX8_put_34 2 rfl (vinI (by omega) (by omega)) f11 ef11 [(h0, .inr (7, [.ref h3, .ref h1, .ref h2, .int x3, .int x4, .int x5])), (h1, .inl (gI g, 200, .inl f10)), (h2, .inl (gI g, 200, .inl f11))] rfl ?_
        exact r_vret 35 Rt dX8_put_35 (f10, f11) trivial [0, 1, 2] (by decide) rfl (Nat.le_of_ble_eq_true rfl) (Nat.le_of_ble_eq_true rfl)
set_option maxHeartbeats 4000000 in
set_option maxRecDepth 100000 in
theorem c174_X10_takeLocal (l : Launch) (g : GD) (h0 : Nat) (h1 : Nat) (h2 : Nat) (h3 : Nat) (h4 : Nat) (h5 : Nat) (h6 : Nat) (x0 : Int32) (x1 : Int32) (x2 : Int32) (x3 : Int32) (x4 : Int32) (x5 : Int32) (x6 : Int32) (x7 : Int32) (h7 : Nat) (h8 : Nat) (x8 : Int32) (x9 : Int32) (x10 : Int32) (x11 : Int32) (x12 : Int32) (x13 : Int32) (x14 : Int32) (fn0 : Nat → Int32) (fn1 : Nat → Int32) (fn2 : Nat → Int32) (i_x4 : (0 ≤ (Int32.toInt x4) ∧ (Int32.toInt x4) ≤ 1)) (i_x11 : (0 ≤ (Int32.toInt x11) ∧ (Int32.toInt x11) ≤ 1500)) (sz : Nat) : Met l yX10_takeLocal wsX10_takeLocal ({ frames := 7, cells := 0, slots := 0, locals := 152 }) (va_Pc [.ref h0] (PW g [(h0, .inr (9, [.ref h1, .ref h2, .int x0, .int x1, .int x2, .int x3, .int x4, .int x5, .int x6, .int x7])), (h1, .inr (3, [.ref h2, .ref h7, .ref h3, .ref h8, .int x8, .int x9, .int x10])), (h2, .inr (4, [.ref h4, .int x11])), (h3, .inr (7, [.ref h2, .ref h5, .ref h6, .int x12, .int x13, .int x14])), (h4, .inl (gB g, 1500, .inl fn0)), (h5, .inl (gI g, 200, .inl fn1)), (h6, .inl (gI g, 200, .inl fn2))] sz)) (va_Qi (fun (r : Int32) (u : (Int32) × (Int32) × (Int32) × (Int32) × (Int32) × (Int32) × (Nat → Int32) × (Nat → Int32) × (Nat → Int32)) => 0 ≤ (Int32.toInt r) ∧ (Int32.toInt r) ≤ 2) (BW g (va_A [(h0, .inr (9, [.ref h1, .ref h2, .int x0, .int x1, .int x2, .int x3, .int x4, .int x5, .int x6, .int x7])), (h1, .inr (3, [.ref h2, .ref h7, .ref h3, .ref h8, .int x8, .int x9, .int x10])), (h2, .inr (4, [.ref h4, .int x11])), (h3, .inr (7, [.ref h2, .ref h5, .ref h6, .int x12, .int x13, .int x14])), (h4, .inl (gB g, 1500, .inl fn0)), (h5, .inl (gI g, 200, .inl fn1)), (h6, .inl (gI g, 200, .inl fn2))] sz) (fun u : (Int32) × (Int32) × (Int32) × (Int32) × (Int32) × (Int32) × (Nat → Int32) × (Nat → Int32) × (Nat → Int32) => [(h0, .inr (9, [.ref h1, .ref h2, .int u.1, .int u.2.1, .int u.2.2.1, .int x3, .int x4, .int u.2.2.2.1, .int u.2.2.2.2.1, .int u.2.2.2.2.2.1])), (h1, .inr (3, [.ref h2, .ref h7, .ref h3, .ref h8, .int x8, .int x9, .int x10])), (h2, .inr (4, [.ref h4, .int x11])), (h3, .inr (7, [.ref h2, .ref h5, .ref h6, .int x12, .int x13, .int x14])), (h4, .inl (gB g, 1500, .inl u.2.2.2.2.2.2.1)), (h5, .inl (gI g, 200, .inl u.2.2.2.2.2.2.2.1)), (h6, .inl (gI g, 200, .inl u.2.2.2.2.2.2.2.2))])) (va_A [(h0, .inr (9, [.ref h1, .ref h2, .int x0, .int x1, .int x2, .int x3, .int x4, .int x5, .int x6, .int x7])), (h1, .inr (3, [.ref h2, .ref h7, .ref h3, .ref h8, .int x8, .int x9, .int x10])), (h2, .inr (4, [.ref h4, .int x11])), (h3, .inr (7, [.ref h2, .ref h5, .ref h6, .int x12, .int x13, .int x14])), (h4, .inl (gB g, 1500, .inl fn0)), (h5, .inl (gI g, 200, .inl fn1)), (h6, .inl (gI g, 200, .inl fn2))] sz)) 0 0 (va_A [(h0, .inr (9, [.ref h1, .ref h2, .int x0, .int x1, .int x2, .int x3, .int x4, .int x5, .int x6, .int x7])), (h1, .inr (3, [.ref h2, .ref h7, .ref h3, .ref h8, .int x8, .int x9, .int x10])), (h2, .inr (4, [.ref h4, .int x11])), (h3, .inr (7, [.ref h2, .ref h5, .ref h6, .int x12, .int x13, .int x14])), (h4, .inl (gB g, 1500, .inl fn0)), (h5, .inl (gI g, 200, .inl fn1)), (h6, .inl (gI g, 200, .inl fn2))] sz) := by
  refine met_i RX10 (by decide) rfl rfl (Nat.le_of_ble_eq_true rfl) [(0, .ref h0)] rfl ?_
  intro p e s m args below meth c A Q C hnm Rt
  have gx12 := fb_rng x12
  have hiX10 : ∀ w ∈ wsX100, w ∈ wsX10_takeLocal := fun w h => List.mem_cons_of_mem _ (List.mem_append_left _ (List.mem_append_left _ (List.mem_append_left _ (List.mem_append_right _ (h)))))
  have hiX3 : ∀ w ∈ wsX30, w ∈ wsX10_takeLocal := fun w h => List.mem_cons_of_mem _ (List.mem_append_left _ (List.mem_append_left _ (List.mem_append_right _ (h))))
  refine r_aload_n 0 0 C dX10_takeLocal_0 rfl ?_
  refine r_get 1 C dX10_takeLocal_1 (k := 2) 0 rfl rfl hiX10 (by decide) rfl (mg 1 rfl) (Or.inl rfl) rfl ?_
  refine r_istore_n 4 C dX10_takeLocal_4 [(1, .int x0), (0, .ref h0)] (by decide) rfl ?_
  refine r_aload_n 5 1 C dX10_takeLocal_5 rfl ?_
  refine r_callVi 6 C dX10_takeLocal_6 [] [(h0, .inr (9, [.ref h1, .ref h2, .int x0, .int x1, .int x2, .int x3, .int x4, .int x5, .int x6, .int x7])), (h2, .inr (4, [.ref h4, .int x11])), (h4, .inl (gB g, 1500, .inl fn0))] [(h1, .inr (3, [.ref h2, .ref h7, .ref h3, .ref h8, .int x8, .int x9, .int x10])), (h3, .inr (7, [.ref h2, .ref h5, .ref h6, .int x12, .int x13, .int x14])), (h5, .inl (gI g, 200, .inl fn1)), (h6, .inl (gI g, 200, .inl fn2))] (fun sz => c115_X10_takeWord l g h0 h2 h4 h1 x0 x1 x2 x3 x4 x5 x6 x7 x11 fn0 i_x4 i_x11 sz) gX10_takeLocal_X10_takeWord rfl ⟨rfl, rfl⟩ 0 (by decide) ⟨Nat.le_of_ble_eq_true rfl, Nat.le_of_ble_eq_true rfl⟩ 0 rfl rfl [0, 2, 4] [1, 3, 5, 6] rfl rfl (by decide) (by decide) (by decide) rfl rfl (Nat.le_of_ble_eq_true rfl) ⟨Nat.le_of_ble_eq_true rfl, Nat.le_of_ble_eq_true rfl⟩ (fun r4 u6 w5 => ?_)
  obtain ⟨z1, z2, z3⟩ := u6
  refine r_ws [(h1, .inr (3, [.ref h2, .ref h7, .ref h3, .ref h8, .int x8, .int x9, .int x10])), (h3, .inr (7, [.ref h2, .ref h5, .ref h6, .int x12, .int x13, .int x14])), (h5, .inl (gI g, 200, .inl fn1)), (h6, .inl (gI g, 200, .inl fn2)), (h0, .inr (9, [.ref h1, .ref h2, .int z1, .int z2, .int z3, .int x3, .int x4, .int x5, .int x6, .int x7])), (h2, .inr (4, [.ref h4, .int x11])), (h4, .inl (gB g, 1500, .inl fn0))] rfl ?_
  have gz1 := fb_rng z1
  have gz2 := fb_rng z2
  have gz3 := fb_rng z3
  have p7 : 0 ≤ (Int32.toInt r4) := w5.1
  have p8 : (Int32.toInt r4) ≤ 1 := w5.2
  refine r_if_ne 9 14 C dX10_takeLocal_9 (by decide) (fun c9 => ?_) (fun c9 => ?_)
  · skip
    have k10 : ¬ ((Int32.toInt r4) = 0) := fun h_9 => c9 ((fa_eq r4 0).mpr h_9)
    refine r_aload_n 14 1 C dX10_takeLocal_14 rfl ?_
    refine r_callVi 15 C dX10_takeLocal_15 [] [(h0, .inr (9, [.ref h1, .ref h2, .int z1, .int z2, .int z3, .int x3, .int x4, .int x5, .int x6, .int x7])), (h2, .inr (4, [.ref h4, .int x11])), (h4, .inl (gB g, 1500, .inl fn0))] [(h1, .inr (3, [.ref h2, .ref h7, .ref h3, .ref h8, .int x8, .int x9, .int x10])), (h3, .inr (7, [.ref h2, .ref h5, .ref h6, .int x12, .int x13, .int x14])), (h5, .inl (gI g, 200, .inl fn1)), (h6, .inl (gI g, 200, .inl fn2))] (fun sz => c153_X10_countOfWord l g h0 h2 h4 h1 z1 z2 z3 x3 x4 x5 x6 x7 x11 fn0 i_x4 i_x11 sz) gX10_takeLocal_X10_countOfWord rfl ⟨rfl, rfl⟩ 0 (by decide) ⟨Nat.le_of_ble_eq_true rfl, Nat.le_of_ble_eq_true rfl⟩ 4 rfl rfl [4, 5, 6] [0, 1, 2, 3] rfl rfl (by decide) (by decide) (by decide) rfl rfl (Nat.le_of_ble_eq_true rfl) ⟨Nat.le_of_ble_eq_true rfl, Nat.le_of_ble_eq_true rfl⟩ (fun r11 _ w12 => ?_)
    refine r_ws [(h1, .inr (3, [.ref h2, .ref h7, .ref h3, .ref h8, .int x8, .int x9, .int x10])), (h3, .inr (7, [.ref h2, .ref h5, .ref h6, .int x12, .int x13, .int x14])), (h5, .inl (gI g, 200, .inl fn1)), (h6, .inl (gI g, 200, .inl fn2)), (h0, .inr (9, [.ref h1, .ref h2, .int z1, .int z2, .int z3, .int x3, .int x4, .int x5, .int x6, .int x7])), (h2, .inr (4, [.ref h4, .int x11])), (h4, .inl (gB g, 1500, .inl fn0))] rfl ?_
    have p13 : -1 ≤ (Int32.toInt r11) := w12.1
    have p14 : (Int32.toInt r11) ≤ 9999 := w12.2
    refine r_istore_n 18 C dX10_takeLocal_18 [(2, .int r11), (1, .int x0), (0, .ref h0)] (by decide) rfl ?_
    refine r_iload_n 19 0 C dX10_takeLocal_19 rfl ?_
    refine r_iconst 20 (-1) C dX10_takeLocal_20 (by decide) ?_
    refine r_icmp_ne 21 31 C dX10_takeLocal_21 (by decide) (fun c15 => ?_) (fun c15 => ?_)
    · skip
      have k16 : ¬ ((Int32.toInt r11) = (-1)) := fun h_9 => c15 ((fa_eq r11 (-1)).mpr h_9)
      refine r_iload_n 31 0 C dX10_takeLocal_31 rfl ?_
      refine r_aload_n 32 2 C dX10_takeLocal_32 rfl ?_
      refine r_get 33 C dX10_takeLocal_33 (k := 0) 4 rfl rfl hiX10 (by decide) rfl (mg 2 rfl) (Or.inl rfl) rfl ?_
      refine r_getN 36 C dX10_takeLocal_36 (k := 2) 0 rfl rfl hiX3 (by decide) rfl (mg 22 rfl) rfl rfl ?_
      refine r_callVi 39 C dX10_takeLocal_39 [.int r11] [(h3, .inr (7, [.ref h2, .ref h5, .ref h6, .int x12, .int x13, .int x14]))] [(h1, .inr (3, [.ref h2, .ref h7, .ref h3, .ref h8, .int x8, .int x9, .int x10])), (h5, .inl (gI g, 200, .inl fn1)), (h6, .inl (gI g, 200, .inl fn2)), (h0, .inr (9, [.ref h1, .ref h2, .int z1, .int z2, .int z3, .int x3, .int x4, .int x5, .int x6, .int x7])), (h2, .inr (4, [.ref h4, .int x11])), (h4, .inl (gB g, 1500, .inl fn0))] (fun sz => c6_X8_size l g h3 h2 h5 h6 x12 x13 x14  sz) gX10_takeLocal_X8_size rfl ⟨rfl, rfl⟩ 0 (by decide) ⟨Nat.le_of_ble_eq_true rfl, Nat.le_of_ble_eq_true rfl⟩ 1 rfl rfl [1] [0, 2, 3, 4, 5, 6] rfl rfl (by decide) (by decide) (by decide) rfl rfl (Nat.le_of_ble_eq_true rfl) ⟨Nat.le_of_ble_eq_true rfl, Nat.le_of_ble_eq_true rfl⟩ (fun r17 _ w18 => ?_)
      refine r_ws [(h1, .inr (3, [.ref h2, .ref h7, .ref h3, .ref h8, .int x8, .int x9, .int x10])), (h5, .inl (gI g, 200, .inl fn1)), (h6, .inl (gI g, 200, .inl fn2)), (h0, .inr (9, [.ref h1, .ref h2, .int z1, .int z2, .int z3, .int x3, .int x4, .int x5, .int x6, .int x7])), (h2, .inr (4, [.ref h4, .int x11])), (h4, .inl (gB g, 1500, .inl fn0)), (h3, .inr (7, [.ref h2, .ref h5, .ref h6, .int x12, .int x13, .int x14]))] rfl ?_
      have p19 : x12 = r17 := (w18).symm
      subst p19
      refine r_icmp_lt 42 47 C dX10_takeLocal_42 (by decide) (fun c20 => ?_) (fun c20 => ?_)
      · skip
        have k21 : (Int32.toInt r11) < (Int32.toInt x12) := (fa_lt r11 x12).mp c20
        refine r_aload_n 47 2 C dX10_takeLocal_47 rfl ?_
        refine r_callVi 48 C dX10_takeLocal_48 [] [(h0, .inr (9, [.ref h1, .ref h2, .int z1, .int z2, .int z3, .int x3, .int x4, .int x5, .int x6, .int x7])), (h2, .inr (4, [.ref h4, .int x11])), (h4, .inl (gB g, 1500, .inl fn0))] [(h1, .inr (3, [.ref h2, .ref h7, .ref h3, .ref h8, .int x8, .int x9, .int x10])), (h5, .inl (gI g, 200, .inl fn1)), (h6, .inl (gI g, 200, .inl fn2)), (h3, .inr (7, [.ref h2, .ref h5, .ref h6, .int x12, .int x13, .int x14]))] (fun sz => c172_X10_takeProgram l g h0 h2 h4 h1 z1 z2 z3 x3 x4 x5 x6 x7 x11 fn0 i_x4 i_x11 sz) gX10_takeLocal_X10_takeProgram rfl ⟨rfl, rfl⟩ 0 (by decide) ⟨Nat.le_of_ble_eq_true rfl, Nat.le_of_ble_eq_true rfl⟩ 3 rfl rfl [3, 4, 5] [0, 1, 2, 6] rfl rfl (by decide) (by decide) (by decide) rfl rfl (Nat.le_of_ble_eq_true rfl) ⟨Nat.le_of_ble_eq_true rfl, Nat.le_of_ble_eq_true rfl⟩ (fun r29 u31 w30 => ?_)
        obtain ⟨z22, z23, z24, z25, z26, z27, f28⟩ := u31
        refine r_ws [(h1, .inr (3, [.ref h2, .ref h7, .ref h3, .ref h8, .int x8, .int x9, .int x10])), (h5, .inl (gI g, 200, .inl fn1)), (h6, .inl (gI g, 200, .inl fn2)), (h3, .inr (7, [.ref h2, .ref h5, .ref h6, .int x12, .int x13, .int x14])), (h0, .inr (9, [.ref h1, .ref h2, .int z22, .int z23, .int z24, .int x3, .int x4, .int z25, .int z26, .int z27])), (h2, .inr (4, [.ref h4, .int x11])), (h4, .inl (gB g, 1500, .inl f28))] rfl ?_
        have gz22 := fb_rng z22
        have gz23 := fb_rng z23
        have gz24 := fb_rng z24
        have gz25 := fb_rng z25
        have gz26 := fb_rng z26
        have gz27 := fb_rng z27
        have p32 : 0 ≤ (Int32.toInt r29) := w30.1
        have p33 : (Int32.toInt r29) ≤ 2 := w30.2
        refine r_istore_n 51 C dX10_takeLocal_51 [(3, .int r29), (2, .int r11), (1, .int x0), (0, .ref h0)] (by decide) rfl ?_
        refine r_iload_n 52 0 C dX10_takeLocal_52 rfl ?_
        refine r_if_ne 53 75 C dX10_takeLocal_53 (by decide) (fun c34 => ?_) (fun c34 => ?_)
        · skip
          have k35 : ¬ ((Int32.toInt r29) = 0) := fun h_9 => c34 ((fa_eq r29 0).mpr h_9)
          refine r_iload_n 75 0 C dX10_takeLocal_75 rfl ?_
          exact r_iret 76 Rt dX10_takeLocal_76 (z22, z23, z24, z25, z26, z27, f28, fn1, fn2) (show 0 ≤ (Int32.toInt r29) ∧ (Int32.toInt r29) ≤ 2 from ⟨(show _ ∧ _ from ⟨p32, p33⟩).1, (show _ ∧ _ from ⟨p32, p33⟩).2⟩) [4, 0, 5, 3, 6, 1, 2] (by decide) rfl (Nat.le_of_ble_eq_true rfl) (Nat.le_of_ble_eq_true rfl)
        · skip
          have k36 : (Int32.toInt r29) = 0 := (fa_eq r29 0).mp c34
          refine r_aload_n 56 3 C dX10_takeLocal_56 rfl ?_
          refine r_get 57 C dX10_takeLocal_57 (k := 0) 4 rfl rfl hiX10 (by decide) rfl (mg 2 rfl) (Or.inl rfl) rfl ?_
          refine r_getN 60 C dX10_takeLocal_60 (k := 2) 0 rfl rfl hiX3 (by decide) rfl (mg 22 rfl) rfl rfl ?_
          refine r_iload_n 63 1 C dX10_takeLocal_63 rfl ?_
          refine r_aload_n 64 3 C dX10_takeLocal_64 rfl ?_
          refine r_get 65 C dX10_takeLocal_65 (k := 8) 4 rfl rfl hiX10 (by decide) rfl (mg 3 rfl) (Or.inl rfl) rfl ?_
          refine r_aload_n 68 3 C dX10_takeLocal_68 rfl ?_
          refine r_get 69 C dX10_takeLocal_69 (k := 9) 4 rfl rfl hiX10 (by decide) rfl (mg 4 rfl) (Or.inl rfl) rfl ?_
          refine r_callVv 72 C dX10_takeLocal_72 [] [(h3, .inr (7, [.ref h2, .ref h5, .ref h6, .int x12, .int x13, .int x14])), (h5, .inl (gI g, 200, .inl fn1)), (h6, .inl (gI g, 200, .inl fn2))] [(h1, .inr (3, [.ref h2, .ref h7, .ref h3, .ref h8, .int x8, .int x9, .int x10])), (h0, .inr (9, [.ref h1, .ref h2, .int z22, .int z23, .int z24, .int x3, .int x4, .int z25, .int z26, .int z27])), (h2, .inr (4, [.ref h4, .int x11])), (h4, .inl (gB g, 1500, .inl f28))] (fun sz => c173_X8_put l g h3 h5 h6 r11 z26 z27 h2 x12 x13 x14 fn1 fn2  sz) gX10_takeLocal_X8_put rfl ⟨rfl, rfl⟩ 3 (by decide) ⟨Nat.le_of_ble_eq_true rfl, Nat.le_of_ble_eq_true rfl⟩ 3 rfl rfl [3, 1, 2] [0, 4, 5, 6] rfl rfl (by decide) (by decide) (by decide) rfl rfl (Nat.le_of_ble_eq_true rfl) ⟨Nat.le_of_ble_eq_true rfl, Nat.le_of_ble_eq_true rfl⟩ (fun  u40 w39 => ?_)
          obtain ⟨f37, f38⟩ := u40
          refine r_ws [(h1, .inr (3, [.ref h2, .ref h7, .ref h3, .ref h8, .int x8, .int x9, .int x10])), (h0, .inr (9, [.ref h1, .ref h2, .int z22, .int z23, .int z24, .int x3, .int x4, .int z25, .int z26, .int z27])), (h2, .inr (4, [.ref h4, .int x11])), (h4, .inl (gB g, 1500, .inl f28)), (h3, .inr (7, [.ref h2, .ref h5, .ref h6, .int x12, .int x13, .int x14])), (h5, .inl (gI g, 200, .inl f37)), (h6, .inl (gI g, 200, .inl f38))] rfl ?_
          refine r_iload_n 75 0 C dX10_takeLocal_75 rfl ?_
          exact r_iret 76 Rt dX10_takeLocal_76 (z22, z23, z24, z25, z26, z27, f28, f37, f38) (show 0 ≤ (Int32.toInt r29) ∧ (Int32.toInt r29) ≤ 2 from ⟨(show _ ∧ _ from ⟨p32, p33⟩).1, (show _ ∧ _ from ⟨p32, p33⟩).2⟩) [1, 0, 2, 4, 3, 5, 6] (by decide) rfl (Nat.le_of_ble_eq_true rfl) (Nat.le_of_ble_eq_true rfl)
      · skip
        have k41 : ¬ ((Int32.toInt r11) < (Int32.toInt x12)) := fun h_9 => c20 ((fa_lt r11 x12).mpr h_9)
        refine r_iconst 45 2 C dX10_takeLocal_45 (by decide) ?_
        exact r_iret 46 Rt dX10_takeLocal_46 (z1, z2, z3, x5, x6, x7, fn0, fn1, fn2) (show 0 ≤ (Int32.toInt 2) ∧ (Int32.toInt 2) ≤ 2 from ⟨(by ((repeat' apply And.intro) <;> first | trivial | rfl | assumption | omega | decide | exact Or.inl rfl | exact Or.inr (Or.inl rfl) | exact Or.inr (Or.inr rfl))), (by ((repeat' apply And.intro) <;> first | trivial | rfl | assumption | omega | decide | exact Or.inl rfl | exact Or.inr (Or.inl rfl) | exact Or.inr (Or.inr rfl)))⟩) [3, 0, 4, 6, 5, 1, 2] (by decide) rfl (Nat.le_of_ble_eq_true rfl) (Nat.le_of_ble_eq_true rfl)
    · skip
      have k42 : (Int32.toInt r11) = (-1) := (fa_eq r11 (-1)).mp c15
      refine r_aload_n 24 2 C dX10_takeLocal_24 rfl ?_
      refine r_iload_n 25 1 C dX10_takeLocal_25 rfl ?_
      refine r_put 26 C dX10_takeLocal_26 (k := 2) 4 rfl rfl hiX10 tyX10 tyX10_ok nmX10 (by decide) rfl (mg 1 rfl) (Or.inl rfl) rfl rfl rfl rfl (Nat.le_of_ble_eq_true rfl) [(h1, .inr (3, [.ref h2, .ref h7, .ref h3, .ref h8, .int x8, .int x9, .int x10])), (h3, .inr (7, [.ref h2, .ref h5, .ref h6, .int x12, .int x13, .int x14])), (h5, .inl (gI g, 200, .inl fn1)), (h6, .inl (gI g, 200, .inl fn2)), (h0, .inr (9, [.ref h1, .ref h2, .int x0, .int z2, .int z3, .int x3, .int x4, .int x5, .int x6, .int x7])), (h2, .inr (4, [.ref h4, .int x11])), (h4, .inl (gB g, 1500, .inl fn0))] rfl ?_
      refine r_iconst 29 0 C dX10_takeLocal_29 (by decide) ?_
      exact r_iret 30 Rt dX10_takeLocal_30 (x0, z2, z3, x5, x6, x7, fn0, fn1, fn2) (show 0 ≤ (Int32.toInt 0) ∧ (Int32.toInt 0) ≤ 2 from ⟨(by ((repeat' apply And.intro) <;> first | trivial | rfl | assumption | omega | decide | exact Or.inl rfl | exact Or.inr (Or.inl rfl) | exact Or.inr (Or.inr rfl))), (by ((repeat' apply And.intro) <;> first | trivial | rfl | assumption | omega | decide | exact Or.inl rfl | exact Or.inr (Or.inl rfl) | exact Or.inr (Or.inr rfl)))⟩) [4, 0, 5, 1, 6, 2, 3] (by decide) rfl (Nat.le_of_ble_eq_true rfl) (Nat.le_of_ble_eq_true rfl)
  · skip
    have k43 : (Int32.toInt r4) = 0 := (fa_eq r4 0).mp c9
    refine r_iconst 12 1 C dX10_takeLocal_12 (by decide) ?_
    exact r_iret 13 Rt dX10_takeLocal_13 (z1, z2, z3, x5, x6, x7, fn0, fn1, fn2) (show 0 ≤ (Int32.toInt 1) ∧ (Int32.toInt 1) ≤ 2 from ⟨(by ((repeat' apply And.intro) <;> first | trivial | rfl | assumption | omega | decide | exact Or.inl rfl | exact Or.inr (Or.inl rfl) | exact Or.inr (Or.inr rfl))), (by ((repeat' apply And.intro) <;> first | trivial | rfl | assumption | omega | decide | exact Or.inl rfl | exact Or.inr (Or.inl rfl) | exact Or.inr (Or.inr rfl)))⟩) [4, 0, 5, 1, 6, 2, 3] (by decide) rfl (Nat.le_of_ble_eq_true rfl) (Nat.le_of_ble_eq_true rfl)
set_option maxHeartbeats 4000000 in
set_option maxRecDepth 100000 in
theorem c175_J0_coder_7d493 (l : Launch) (g : GD) (sz : Nat) : Met l yJ0_coder_7d493 wsJ0_coder_7d493 ({ frames := 0, cells := 0, slots := 0, locals := 0 }) (va_Pc [.ref (g.2.2.1 5)] (PW g [] sz)) (va_Qi (fun (r : Int32) (_ : Unit) => r = 0) (BW g (va_A [] sz) (fun _ : Unit => [])) (va_A [] sz)) 0 0 (va_A [] sz) := by
  refine met_b RJ0 (by decide) rfl rfl (Nat.le_of_ble_eq_true rfl) [(0, .ref (g.2.2.1 5))] rfl ?_
  intro p e s m args below meth c A Q C hnm Rt
  refine r_gets 0 C dJ0_coder_7d493_0 C.2.2.2.2.2.1.2.2.2.2.1 (mg 1 rfl) ?_
  refine r_if_eq_f 3 13 C dJ0_coder_7d493_3 (by decide) (by decide) ?_
  refine r_aload_n 6 0 C dJ0_coder_7d493_6 rfl ?_
  refine r_sget 7 5 C dJ0_coder_7d493_7 ((C.2.2.2.2.2.1.2.2.1.1 5 (by decide)).2.1) (mg 2 rfl) ?_
  refine r_goto 10 14 C dJ0_coder_7d493_10 (by decide) ?_
  exact r_bret 14 Rt dJ0_coder_7d493_14 (by decide) () (show 0 = 0 from (by ((repeat' apply And.intro) <;> first | trivial | rfl | assumption | omega | decide | exact Or.inl rfl | exact Or.inr (Or.inl rfl) | exact Or.inr (Or.inr rfl)))) [] (by decide) rfl (Nat.le_of_ble_eq_true rfl) (Nat.le_of_ble_eq_true rfl)
set_option maxHeartbeats 4000000 in
set_option maxRecDepth 100000 in
theorem c176_J0_length_8abf5 (l : Launch) (g : GD) (sz : Nat) : Met l yJ0_length_8abf5 wsJ0_length_8abf5 ({ frames := 1, cells := 0, slots := 0, locals := 20 }) (va_Pc [.ref (g.2.2.1 5)] (PW g [] sz)) (va_Qi (fun (r : Int32) (_ : Unit) => r = 5) (BW g (va_A [] sz) (fun _ : Unit => [])) (va_A [] sz)) 0 0 (va_A [] sz) := by
  refine met_i RJ0 (by decide) rfl rfl (Nat.le_of_ble_eq_true rfl) [(0, .ref (g.2.2.1 5))] rfl ?_
  intro p e s m args below meth c A Q C hnm Rt
  refine r_aload_n 0 0 C dJ0_length_8abf5_0 rfl ?_
  refine r_sget 1 5 C dJ0_length_8abf5_1 ((C.2.2.2.2.2.1.2.2.1.1 5 (by decide)).2.2.1) (mg 1 rfl) ?_
  refine r_stlen 4 5 C dJ0_length_8abf5_4 ((C.2.2.2.2.2.1.2.2.1.1 5 (by decide)).2.2.2) (by decide) ?_
  refine r_aload_n 5 0 C dJ0_length_8abf5_5 rfl ?_
  refine r_scallVi 6 C dJ0_length_8abf5_6 [.int 5] 5 (by decide) [] [] (fun sz => c175_J0_coder_7d493 l g   sz) gJ0_length_8abf5_J0_coder_7d493 rfl ⟨rfl, rfl⟩ 0 (by decide) ⟨Nat.le_of_ble_eq_true rfl, Nat.le_of_ble_eq_true rfl⟩ [] [] rfl rfl (by decide) (by decide) (by decide) rfl rfl (Nat.le_of_ble_eq_true rfl) ⟨Nat.le_of_ble_eq_true rfl, Nat.le_of_ble_eq_true rfl⟩ (fun r1 _ w2 => ?_)
  refine r_ws [] rfl ?_
  have p3 : 0 = r1 := (w2).symm
  subst p3
  refine r_ishr 9 5 C dJ0_length_8abf5_9 (by decide) ?_
  exact r_iret 10 Rt dJ0_length_8abf5_10 () (show 5 = 5 from (by ((repeat' apply And.intro) <;> first | trivial | rfl | assumption | omega | decide | exact Or.inl rfl | exact Or.inr (Or.inl rfl) | exact Or.inr (Or.inr rfl)))) [] (by decide) rfl (Nat.le_of_ble_eq_true rfl) (Nat.le_of_ble_eq_true rfl)
set_option maxHeartbeats 4000000 in
set_option maxRecDepth 100000 in
theorem c177_J0_isLatin1_aae02 (l : Launch) (g : GD) (sz : Nat) : Met l yJ0_isLatin1_aae02 wsJ0_isLatin1_aae02 ({ frames := 0, cells := 0, slots := 0, locals := 0 }) (va_Pc [.ref (g.2.2.1 5)] (PW g [] sz)) (va_Qi (fun (r : Int32) (_ : Unit) => r = 1) (BW g (va_A [] sz) (fun _ : Unit => [])) (va_A [] sz)) 0 0 (va_A [] sz) := by
  refine met_z RJ0 (by decide) rfl rfl (Nat.le_of_ble_eq_true rfl) [(0, .ref (g.2.2.1 5))] rfl ?_
  intro p e s m args below meth c A Q C hnm Rt
  refine r_gets 0 C dJ0_isLatin1_aae02_0 C.2.2.2.2.2.1.2.2.2.2.1 (mg 1 rfl) ?_
  refine r_if_eq_f 3 17 C dJ0_isLatin1_aae02_3 (by decide) (by decide) ?_
  refine r_aload_n 6 0 C dJ0_isLatin1_aae02_6 rfl ?_
  refine r_sget 7 5 C dJ0_isLatin1_aae02_7 ((C.2.2.2.2.2.1.2.2.1.1 5 (by decide)).2.1) (mg 2 rfl) ?_
  refine r_if_ne_f 10 17 C dJ0_isLatin1_aae02_10 (by decide) (by decide) ?_
  refine r_iconst 13 1 C dJ0_isLatin1_aae02_13 (by decide) ?_
  refine r_goto 14 18 C dJ0_isLatin1_aae02_14 (by decide) ?_
  exact r_zret 18 Rt dJ0_isLatin1_aae02_18 (by decide) () (show 1 = 1 from (by ((repeat' apply And.intro) <;> first | trivial | rfl | assumption | omega | decide | exact Or.inl rfl | exact Or.inr (Or.inl rfl) | exact Or.inr (Or.inr rfl)))) [] (by decide) rfl (Nat.le_of_ble_eq_true rfl) (Nat.le_of_ble_eq_true rfl)
set_option maxHeartbeats 4000000 in
set_option maxRecDepth 100000 in
theorem c178_J1_charAt_3b067 (l : Launch) (g : GD) (x0 : Int32) (i_x0 : (0 ≤ (Int32.toInt x0) ∧ (Int32.toInt x0) ≤ 4)) (sz : Nat) : Met l yJ1_charAt_3b067 wsJ1_charAt_3b067 ({ frames := 2, cells := 0, slots := 0, locals := 43 }) (va_Pc [.ref (g.2.2.2 5), .int x0] (PW g [] sz)) (va_Qi (fun (r : Int32) (_ : Unit) => 0 ≤ (Int32.toInt r) ∧ (Int32.toInt r) ≤ 65535) (BW g (va_A [] sz) (fun _ : Unit => [])) (va_A [] sz)) 0 0 (va_A [] sz) := by
  refine met_c RJ1 (by decide) rfl rfl (Nat.le_of_ble_eq_true rfl) [(0, .ref (g.2.2.2 5)), (1, .int x0)] rfl ?_
  intro p e s m args below meth c A Q C hnm Rt
  refine r_iload_n 0 1 C dJ1_charAt_3b067_0 rfl ?_
  refine r_aload_n 1 0 C dJ1_charAt_3b067_1 rfl ?_
  refine r_stlen 2 5 C dJ1_charAt_3b067_2 ((C.2.2.2.2.2.1.2.2.1.1 5 (by decide)).2.2.2) (by decide) ?_
  refine r_callSv 3 C dJ1_charAt_3b067_3 [] [] [] (fun sz => c107_J0_checkIndex_df160 l g x0 i_x0 sz) gJ1_charAt_3b067_J0_checkIndex_df160 rfl ⟨rfl, rfl⟩ 2 (by decide) ⟨Nat.le_of_ble_eq_true rfl, Nat.le_of_ble_eq_true rfl⟩ [] [] rfl rfl (by decide) (by decide) (by decide) rfl rfl (Nat.le_of_ble_eq_true rfl) ⟨Nat.le_of_ble_eq_true rfl, Nat.le_of_ble_eq_true rfl⟩ (fun  _ w1 => ?_)
  refine r_ws [] rfl ?_
  refine r_aload_n 6 0 C dJ1_charAt_3b067_6 rfl ?_
  refine r_iload_n 7 1 C dJ1_charAt_3b067_7 rfl ?_
  obtain ⟨z2, ez2⟩ : ∃ z_9, (stB.getD 5 []).getD (Int32.toNatClampNeg x0) 0 = z_9 := ⟨_, rfl⟩
  refine r_stb 8 (.int z2) C dJ1_charAt_3b067_8 ((C.2.2.2.2.2.1.2.2.1.1 5 (by decide)).2.2.2) (vinI (n := 5) (by omega) (by omega)) (by rw [← ez2]) ?_
  have gz2 := fb_rng z2
  refine r_sipush 9 255 C dJ1_charAt_3b067_9 (by decide) ?_
  obtain ⟨z3, ez3⟩ : ∃ z_9, z2 &&& 255 = z_9 := ⟨_, rfl⟩
  have tz3 : 0 ≤ (Int32.toInt z3) ∧ (Int32.toInt z3) ≤ 255 := by rw [← ez3]; exact and_255 z2
  refine r_iand 12 z3 C dJ1_charAt_3b067_12 ez3 ?_
  obtain ⟨z4, ez4⟩ : ∃ z_9, (Int32.toUInt32 z3 % 65536).toInt32 = z_9 := ⟨_, rfl⟩
  have tz4 : 0 ≤ (Int32.toInt z4) ∧ (Int32.toInt z4) ≤ 65535 := by rw [← ez4]; exact chr_in _
  refine r_i2c 13 z4 C dJ1_charAt_3b067_13 ez4 ?_
  exact r_cret 14 Rt dJ1_charAt_3b067_14 (by rw [← ez4]; exact pk_nc _) () (show 0 ≤ (Int32.toInt z4) ∧ (Int32.toInt z4) ≤ 65535 from ⟨(by ((repeat' apply And.intro) <;> first | trivial | rfl | assumption | omega | decide | exact Or.inl rfl | exact Or.inr (Or.inl rfl) | exact Or.inr (Or.inr rfl))), (by ((repeat' apply And.intro) <;> first | trivial | rfl | assumption | omega | decide | exact Or.inl rfl | exact Or.inr (Or.inl rfl) | exact Or.inr (Or.inr rfl)))⟩) [] (by decide) rfl (Nat.le_of_ble_eq_true rfl) (Nat.le_of_ble_eq_true rfl)
set_option maxHeartbeats 4000000 in
set_option maxRecDepth 100000 in
theorem c179_J0_charAt_5068e (l : Launch) (g : GD) (x0 : Int32) (i_x0 : (0 ≤ (Int32.toInt x0) ∧ (Int32.toInt x0) ≤ 4)) (sz : Nat) : Met l yJ0_charAt_5068e wsJ0_charAt_5068e ({ frames := 3, cells := 0, slots := 0, locals := 64 }) (va_Pc [.ref (g.2.2.1 5), .int x0] (PW g [] sz)) (va_Qi (fun (r : Int32) (_ : Unit) => 0 ≤ (Int32.toInt r) ∧ (Int32.toInt r) ≤ 65535) (BW g (va_A [] sz) (fun _ : Unit => [])) (va_A [] sz)) 0 0 (va_A [] sz) := by
  refine met_c RJ0 (by decide) rfl rfl (Nat.le_of_ble_eq_true rfl) [(0, .ref (g.2.2.1 5)), (1, .int x0)] rfl ?_
  intro p e s m args below meth c A Q C hnm Rt
  refine r_aload_n 0 0 C dJ0_charAt_5068e_0 rfl ?_
  refine r_scallVi 1 C dJ0_charAt_5068e_1 [] 5 (by decide) [] [] (fun sz => c177_J0_isLatin1_aae02 l g   sz) gJ0_charAt_5068e_J0_isLatin1_aae02 rfl ⟨rfl, rfl⟩ 0 (by decide) ⟨Nat.le_of_ble_eq_true rfl, Nat.le_of_ble_eq_true rfl⟩ [] [] rfl rfl (by decide) (by decide) (by decide) rfl rfl (Nat.le_of_ble_eq_true rfl) ⟨Nat.le_of_ble_eq_true rfl, Nat.le_of_ble_eq_true rfl⟩ (fun r1 _ w2 => ?_)
  refine r_ws [] rfl ?_
  have p3 : 1 = r1 := (w2).symm
  subst p3
  refine r_if_eq_f 4 16 C dJ0_charAt_5068e_4 (by decide) (by decide) ?_
  refine r_aload_n 7 0 C dJ0_charAt_5068e_7 rfl ?_
  refine r_sget 8 5 C dJ0_charAt_5068e_8 ((C.2.2.2.2.2.1.2.2.1.1 5 (by decide)).2.2.1) (mg 1 rfl) ?_
  refine r_iload_n 11 1 C dJ0_charAt_5068e_11 rfl ?_
  refine r_callSi 12 C dJ0_charAt_5068e_12 [] [] [] (fun sz => c178_J1_charAt_3b067 l g x0 i_x0 sz) gJ0_charAt_5068e_J1_charAt_3b067 rfl ⟨rfl, rfl⟩ 2 (by decide) ⟨Nat.le_of_ble_eq_true rfl, Nat.le_of_ble_eq_true rfl⟩ [] [] rfl rfl (by decide) (by decide) (by decide) rfl rfl (Nat.le_of_ble_eq_true rfl) ⟨Nat.le_of_ble_eq_true rfl, Nat.le_of_ble_eq_true rfl⟩ (fun r4 _ w5 => ?_)
  refine r_ws [] rfl ?_
  have p6 : 0 ≤ (Int32.toInt r4) := w5.1
  have p7 : (Int32.toInt r4) ≤ 65535 := w5.2
  exact r_cret 15 Rt dJ0_charAt_5068e_15 (nc_in (by omega) (by omega)) () (show 0 ≤ (Int32.toInt r4) ∧ (Int32.toInt r4) ≤ 65535 from ⟨(show _ ∧ _ from ⟨p6, p7⟩).1, (show _ ∧ _ from ⟨p6, p7⟩).2⟩) [] (by decide) rfl (Nat.le_of_ble_eq_true rfl) (Nat.le_of_ble_eq_true rfl)
set_option maxHeartbeats 4000000 in
set_option maxRecDepth 100000 in
theorem c180_X10_isAt (l : Launch) (g : GD) (h0 : Nat) (h1 : Nat) (x0 : Int32) (x1 : Int32) (fn0 : Nat → Int32) (i_x1 : (0 ≤ (Int32.toInt x1) ∧ (Int32.toInt x1) ≤ 1500)) (sz : Nat) : Met l yX10_isAt wsX10_isAt ({ frames := 4, cells := 0, slots := 0, locals := 85 }) (va_Pc [.ref h0, .int x0, .ref (g.2.2.1 5)] (PW g [(h0, .inr (4, [.ref h1, .int x1])), (h1, .inl (gB g, 1500, .inl fn0))] sz)) (va_Qi (fun (r : Int32) (_ : Unit) => 0 ≤ (Int32.toInt r) ∧ (Int32.toInt r) ≤ 1) (BW g (va_A [(h0, .inr (4, [.ref h1, .int x1])), (h1, .inl (gB g, 1500, .inl fn0))] sz) (fun _ : Unit => [(h0, .inr (4, [.ref h1, .int x1])), (h1, .inl (gB g, 1500, .inl fn0))])) (va_A [(h0, .inr (4, [.ref h1, .int x1])), (h1, .inl (gB g, 1500, .inl fn0))] sz)) 0 0 (va_A [(h0, .inr (4, [.ref h1, .int x1])), (h1, .inl (gB g, 1500, .inl fn0))] sz) := by
  refine met_z RX10 (by decide) rfl rfl (Nat.le_of_ble_eq_true rfl) [(0, .ref h0), (1, .int x0), (2, .ref (g.2.2.1 5))] rfl ?_
  intro p e s m args below meth c A Q C hnm Rt
  refine r_iconst 0 0 C dX10_isAt_0 (by decide) ?_
  refine r_istore_n 1 C dX10_isAt_1 [(3, .int 0), (0, .ref h0), (1, .int x0), (2, .ref (g.2.2.1 5))] (by decide) rfl ?_
  have lp3 : ∀ (n2 : Nat) (z1 : Int32), (0 ≤ (Int32.toInt z1) ∧ (Int32.toInt z1) ≤ 5) → Int.toNat (5 - (Int32.toInt z1)) < n2 → WW p l e ({ frames := 4, cells := 0, slots := 0, locals := 85 } : Room) s m args below meth c A Q g 4 0 0 [(h0, .inr (4, [.ref h1, .int x1])), (h1, .inl (gB g, 1500, .inl fn0))] 2 [(3, .int z1), (0, .ref h0), (1, .int x0), (2, .ref (g.2.2.1 5))] [] := by
    intro n2
    induction n2 with
    | zero => intro z1 i6 hm5; exact absurd hm5 (Nat.not_lt_zero _)
    | succ n2 ih4 =>
      intro z1 i6 hm5
      obtain ⟨i6a, i6b⟩ := i6
      refine r_iload_n 2 0 C dX10_isAt_2 rfl ?_
      refine r_aload_n 3 3 C dX10_isAt_3 rfl ?_
      refine r_scallVi 4 C dX10_isAt_4 [.int z1] 5 (by decide) [] [(h0, .inr (4, [.ref h1, .int x1])), (h1, .inl (gB g, 1500, .inl fn0))] (fun sz => c176_J0_length_8abf5 l g   sz) gX10_isAt_J0_length_8abf5 rfl ⟨rfl, rfl⟩ 0 (by decide) ⟨Nat.le_of_ble_eq_true rfl, Nat.le_of_ble_eq_true rfl⟩ [] [0, 1] rfl rfl (by decide) (by decide) (by decide) rfl rfl (Nat.le_of_ble_eq_true rfl) ⟨Nat.le_of_ble_eq_true rfl, Nat.le_of_ble_eq_true rfl⟩ (fun r7 _ w8 => ?_)
      refine r_ws [(h0, .inr (4, [.ref h1, .int x1])), (h1, .inl (gB g, 1500, .inl fn0))] rfl ?_
      have p9 : 5 = r7 := (w8).symm
      subst p9
      refine r_icmp_ge 7 34 C dX10_isAt_7 (by decide) (fun c10 => ?_) (fun c10 => ?_)
      · skip
        have k11 : 5 ≤ (Int32.toInt z1) := (fa_le 5 z1).mp c10
        refine r_iconst 34 1 C dX10_isAt_34 (by decide) ?_
        exact r_zret 35 Rt dX10_isAt_35 (by decide) () (show 0 ≤ (Int32.toInt 1) ∧ (Int32.toInt 1) ≤ 1 from ⟨(by ((repeat' apply And.intro) <;> first | trivial | rfl | assumption | omega | decide | exact Or.inl rfl | exact Or.inr (Or.inl rfl) | exact Or.inr (Or.inr rfl))), (by ((repeat' apply And.intro) <;> first | trivial | rfl | assumption | omega | decide | exact Or.inl rfl | exact Or.inr (Or.inl rfl) | exact Or.inr (Or.inr rfl)))⟩) [0, 1] (by decide) rfl (Nat.le_of_ble_eq_true rfl) (Nat.le_of_ble_eq_true rfl)
      · skip
        have k12 : ¬ (5 ≤ (Int32.toInt z1)) := fun h_9 => c10 ((fa_le 5 z1).mpr h_9)
        refine r_aload_n 10 1 C dX10_isAt_10 rfl ?_
        refine r_iload_n 11 2 C dX10_isAt_11 rfl ?_
        refine r_iload_n 12 0 C dX10_isAt_12 rfl ?_
        obtain ⟨z13, ez13⟩ : ∃ z_9, x0 + z1 = z_9 := ⟨_, rfl⟩
        have gz13 := fb_rng z13
        refine r_iadd 13 z13 C dX10_isAt_13 ez13 ?_
        obtain ⟨z14, ez14⟩ : ∃ z_9, Int32.toInt64 z13 = z_9 := ⟨_, rfl⟩
        have tz14 : (Int64.toInt z14) = (Int32.toInt z13) := by rw [← ez14]; exact Int32.toInt_toInt64 _
        refine r_i2l 14 z14 C dX10_isAt_14 ez14 ?_
        refine r_callVi 15 C dX10_isAt_15 [] [(h0, .inr (4, [.ref h1, .int x1])), (h1, .inl (gB g, 1500, .inl fn0))] [] (fun sz => c14_X5_get l g h0 h1 z14 x1 fn0 i_x1 sz) gX10_isAt_X5_get rfl ⟨rfl, rfl⟩ 1 (by decide) ⟨Nat.le_of_ble_eq_true rfl, Nat.le_of_ble_eq_true rfl⟩ 0 rfl rfl [0, 1] [] rfl rfl (by decide) (by decide) (by decide) rfl rfl (Nat.le_of_ble_eq_true rfl) ⟨Nat.le_of_ble_eq_true rfl, Nat.le_of_ble_eq_true rfl⟩ (fun r15 _ w16 => ?_)
        refine r_ws [(h0, .inr (4, [.ref h1, .int x1])), (h1, .inl (gB g, 1500, .inl fn0))] rfl ?_
        have p17 : -1 ≤ (Int32.toInt r15) := w16.1
        have p18 : (Int32.toInt r15) ≤ 255 := w16.2
        refine r_aload_n 18 3 C dX10_isAt_18 rfl ?_
        refine r_iload_n 19 0 C dX10_isAt_19 rfl ?_
        refine r_scallVi 20 C dX10_isAt_20 [.int r15] 5 (by decide) [] [(h0, .inr (4, [.ref h1, .int x1])), (h1, .inl (gB g, 1500, .inl fn0))] (fun sz => c179_J0_charAt_5068e l g z1 ⟨by omega, by omega⟩ sz) gX10_isAt_J0_charAt_5068e rfl ⟨rfl, rfl⟩ 1 (by decide) ⟨Nat.le_of_ble_eq_true rfl, Nat.le_of_ble_eq_true rfl⟩ [] [0, 1] rfl rfl (by decide) (by decide) (by decide) rfl rfl (Nat.le_of_ble_eq_true rfl) ⟨Nat.le_of_ble_eq_true rfl, Nat.le_of_ble_eq_true rfl⟩ (fun r19 _ w20 => ?_)
        refine r_ws [(h0, .inr (4, [.ref h1, .int x1])), (h1, .inl (gB g, 1500, .inl fn0))] rfl ?_
        have p21 : 0 ≤ (Int32.toInt r19) := w20.1
        have p22 : (Int32.toInt r19) ≤ 65535 := w20.2
        refine r_icmp_eq 23 28 C dX10_isAt_23 (by decide) (fun c23 => ?_) (fun c23 => ?_)
        · skip
          have k24 : (Int32.toInt r15) = (Int32.toInt r19) := (fa_eq r15 r19).mp c23
          obtain ⟨z25, ez25⟩ : ∃ z_9, z1 + Int32.ofInt 1 = z_9 := ⟨_, rfl⟩
          have tz25 : (Int32.toInt z25) = (Int32.toInt z1) + 1 := by rw [← ez25]; exact fb_addIv (a := 0) (b := 5) (c := 1) (d := 1) ⟨i6a, i6b⟩ ⟨by decide, by decide⟩ (by decide) (by decide)
          refine r_iinc 28 0 z25 C dX10_isAt_28 rfl ez25 [(3, .int z25), (0, .ref h0), (1, .int x0), (2, .ref (g.2.2.1 5))] (by decide) rfl ?_
          refine r_goto 31 2 C dX10_isAt_31 (by decide) ?_
          exact ih4 z25 ⟨by omega, by omega⟩ (by omega)
        · skip
          have k26 : ¬ ((Int32.toInt r15) = (Int32.toInt r19)) := fun h_9 => c23 ((fa_eq r15 r19).mpr h_9)
          refine r_iconst 26 0 C dX10_isAt_26 (by decide) ?_
          exact r_zret 27 Rt dX10_isAt_27 (by decide) () (show 0 ≤ (Int32.toInt 0) ∧ (Int32.toInt 0) ≤ 1 from ⟨(by ((repeat' apply And.intro) <;> first | trivial | rfl | assumption | omega | decide | exact Or.inl rfl | exact Or.inr (Or.inl rfl) | exact Or.inr (Or.inr rfl))), (by ((repeat' apply And.intro) <;> first | trivial | rfl | assumption | omega | decide | exact Or.inl rfl | exact Or.inr (Or.inl rfl) | exact Or.inr (Or.inr rfl)))⟩) [0, 1] (by decide) rfl (Nat.le_of_ble_eq_true rfl) (Nat.le_of_ble_eq_true rfl)
  exact lp3 _ 0 (by decide) (Nat.lt_succ_self _)
set_option maxHeartbeats 4000000 in
set_option maxRecDepth 100000 in
theorem c181_X10_isWord (l : Launch) (g : GD) (h0 : Nat) (h1 : Nat) (h2 : Nat) (h3 : Nat) (x0 : Int32) (x1 : Int32) (x2 : Int32) (x3 : Int32) (x4 : Int32) (x5 : Int32) (x6 : Int32) (x7 : Int32) (x8 : Int32) (fn0 : Nat → Int32) (i_x4 : (0 ≤ (Int32.toInt x4) ∧ (Int32.toInt x4) ≤ 1)) (i_x8 : (0 ≤ (Int32.toInt x8) ∧ (Int32.toInt x8) ≤ 1500)) (sz : Nat) : Met l yX10_isWord wsX10_isWord ({ frames := 5, cells := 0, slots := 0, locals := 108 }) (va_Pc [.ref h0, .ref (g.2.2.1 5)] (PW g [(h0, .inr (9, [.ref h3, .ref h1, .int x0, .int x1, .int x2, .int x3, .int x4, .int x5, .int x6, .int x7])), (h1, .inr (4, [.ref h2, .int x8])), (h2, .inl (gB g, 1500, .inl fn0))] sz)) (va_Qi (fun (r : Int32) (_ : Unit) => 0 ≤ (Int32.toInt r) ∧ (Int32.toInt r) ≤ 1) (BW g (va_A [(h0, .inr (9, [.ref h3, .ref h1, .int x0, .int x1, .int x2, .int x3, .int x4, .int x5, .int x6, .int x7])), (h1, .inr (4, [.ref h2, .int x8])), (h2, .inl (gB g, 1500, .inl fn0))] sz) (fun _ : Unit => [(h0, .inr (9, [.ref h3, .ref h1, .int x0, .int x1, .int x2, .int x3, .int x4, .int x5, .int x6, .int x7])), (h1, .inr (4, [.ref h2, .int x8])), (h2, .inl (gB g, 1500, .inl fn0))])) (va_A [(h0, .inr (9, [.ref h3, .ref h1, .int x0, .int x1, .int x2, .int x3, .int x4, .int x5, .int x6, .int x7])), (h1, .inr (4, [.ref h2, .int x8])), (h2, .inl (gB g, 1500, .inl fn0))] sz)) 0 0 (va_A [(h0, .inr (9, [.ref h3, .ref h1, .int x0, .int x1, .int x2, .int x3, .int x4, .int x5, .int x6, .int x7])), (h1, .inr (4, [.ref h2, .int x8])), (h2, .inl (gB g, 1500, .inl fn0))] sz) := by
  refine met_z RX10 (by decide) rfl rfl (Nat.le_of_ble_eq_true rfl) [(0, .ref h0), (1, .ref (g.2.2.1 5))] rfl ?_
  intro p e s m args below meth c A Q C hnm Rt
  have hiX10 : ∀ w ∈ wsX100, w ∈ wsX10_isWord := fun w h => List.mem_cons_of_mem _ (List.mem_append_left _ (List.mem_append_right _ (h)))
  refine r_aload_n 0 0 C dX10_isWord_0 rfl ?_
  refine r_get 1 C dX10_isWord_1 (k := 4) 0 rfl rfl hiX10 (by decide) rfl (mg 1 rfl) (Or.inl rfl) rfl ?_
  refine r_aload_n 4 0 C dX10_isWord_4 rfl ?_
  refine r_get 5 C dX10_isWord_5 (k := 3) 0 rfl rfl hiX10 (by decide) rfl (mg 2 rfl) (Or.inl rfl) rfl ?_
  obtain ⟨z1, ez1⟩ : ∃ z_9, x2 - x1 = z_9 := ⟨_, rfl⟩
  have gz1 := fb_rng z1
  refine r_isub 8 z1 C dX10_isWord_8 ez1 ?_
  refine r_aload_n 9 1 C dX10_isWord_9 rfl ?_
  refine r_scallVi 10 C dX10_isWord_10 [.int z1] 5 (by decide) [] [(h0, .inr (9, [.ref h3, .ref h1, .int x0, .int x1, .int x2, .int x3, .int x4, .int x5, .int x6, .int x7])), (h1, .inr (4, [.ref h2, .int x8])), (h2, .inl (gB g, 1500, .inl fn0))] (fun sz => c176_J0_length_8abf5 l g   sz) gX10_isWord_J0_length_8abf5 rfl ⟨rfl, rfl⟩ 0 (by decide) ⟨Nat.le_of_ble_eq_true rfl, Nat.le_of_ble_eq_true rfl⟩ [] [0, 1, 2] rfl rfl (by decide) (by decide) (by decide) rfl rfl (Nat.le_of_ble_eq_true rfl) ⟨Nat.le_of_ble_eq_true rfl, Nat.le_of_ble_eq_true rfl⟩ (fun r2 _ w3 => ?_)
  refine r_ws [(h0, .inr (9, [.ref h3, .ref h1, .int x0, .int x1, .int x2, .int x3, .int x4, .int x5, .int x6, .int x7])), (h1, .inr (4, [.ref h2, .int x8])), (h2, .inl (gB g, 1500, .inl fn0))] rfl ?_
  have p4 : 5 = r2 := (w3).symm
  subst p4
  refine r_icmp_ne 13 35 C dX10_isWord_13 (by decide) (fun c5 => ?_) (fun c5 => ?_)
  · skip
    have k6 : ¬ ((Int32.toInt z1) = 5) := fun h_9 => c5 ((fa_eq z1 5).mpr h_9)
    refine r_iconst 35 0 C dX10_isWord_35 (by decide) ?_
    exact r_zret 36 Rt dX10_isWord_36 (by decide) () (show 0 ≤ (Int32.toInt 0) ∧ (Int32.toInt 0) ≤ 1 from ⟨(by ((repeat' apply And.intro) <;> first | trivial | rfl | assumption | omega | decide | exact Or.inl rfl | exact Or.inr (Or.inl rfl) | exact Or.inr (Or.inr rfl))), (by ((repeat' apply And.intro) <;> first | trivial | rfl | assumption | omega | decide | exact Or.inl rfl | exact Or.inr (Or.inl rfl) | exact Or.inr (Or.inr rfl)))⟩) [0, 1, 2] (by decide) rfl (Nat.le_of_ble_eq_true rfl) (Nat.le_of_ble_eq_true rfl)
  · skip
    have k7 : (Int32.toInt z1) = 5 := (fa_eq z1 5).mp c5
    refine r_aload_n 16 0 C dX10_isWord_16 rfl ?_
    refine r_get 17 C dX10_isWord_17 (k := 1) 0 rfl rfl hiX10 (by decide) rfl (mg 3 rfl) (Or.inl rfl) rfl ?_
    refine r_aload_n 20 0 C dX10_isWord_20 rfl ?_
    refine r_get 21 C dX10_isWord_21 (k := 3) 0 rfl rfl hiX10 (by decide) rfl (mg 2 rfl) (Or.inl rfl) rfl ?_
    refine r_aload_n 24 1 C dX10_isWord_24 rfl ?_
    refine r_callSi 25 C dX10_isWord_25 [] [(h1, .inr (4, [.ref h2, .int x8])), (h2, .inl (gB g, 1500, .inl fn0))] [(h0, .inr (9, [.ref h3, .ref h1, .int x0, .int x1, .int x2, .int x3, .int x4, .int x5, .int x6, .int x7]))] (fun sz => c180_X10_isAt l g h1 h2 x1 x8 fn0 i_x8 sz) gX10_isWord_X10_isAt rfl ⟨rfl, rfl⟩ 3 (by decide) ⟨Nat.le_of_ble_eq_true rfl, Nat.le_of_ble_eq_true rfl⟩ [1, 2] [0] rfl rfl (by decide) (by decide) (by decide) rfl rfl (Nat.le_of_ble_eq_true rfl) ⟨Nat.le_of_ble_eq_true rfl, Nat.le_of_ble_eq_true rfl⟩ (fun r8 _ w9 => ?_)
    refine r_ws [(h0, .inr (9, [.ref h3, .ref h1, .int x0, .int x1, .int x2, .int x3, .int x4, .int x5, .int x6, .int x7])), (h1, .inr (4, [.ref h2, .int x8])), (h2, .inl (gB g, 1500, .inl fn0))] rfl ?_
    have p10 : 0 ≤ (Int32.toInt r8) := w9.1
    have p11 : (Int32.toInt r8) ≤ 1 := w9.2
    refine r_if_eq 28 35 C dX10_isWord_28 (by decide) (fun c12 => ?_) (fun c12 => ?_)
    · skip
      have k13 : (Int32.toInt r8) = 0 := (fa_eq r8 0).mp c12
      refine r_iconst 35 0 C dX10_isWord_35 (by decide) ?_
      exact r_zret 36 Rt dX10_isWord_36 (by decide) () (show 0 ≤ (Int32.toInt 0) ∧ (Int32.toInt 0) ≤ 1 from ⟨(by ((repeat' apply And.intro) <;> first | trivial | rfl | assumption | omega | decide | exact Or.inl rfl | exact Or.inr (Or.inl rfl) | exact Or.inr (Or.inr rfl))), (by ((repeat' apply And.intro) <;> first | trivial | rfl | assumption | omega | decide | exact Or.inl rfl | exact Or.inr (Or.inl rfl) | exact Or.inr (Or.inr rfl)))⟩) [0, 1, 2] (by decide) rfl (Nat.le_of_ble_eq_true rfl) (Nat.le_of_ble_eq_true rfl)
    · skip
      have k14 : ¬ ((Int32.toInt r8) = 0) := fun h_9 => c12 ((fa_eq r8 0).mpr h_9)
      refine r_iconst 31 1 C dX10_isWord_31 (by decide) ?_
      refine r_goto 32 36 C dX10_isWord_32 (by decide) ?_
      exact r_zret 36 Rt dX10_isWord_36 (by decide) () (show 0 ≤ (Int32.toInt 1) ∧ (Int32.toInt 1) ≤ 1 from ⟨(by ((repeat' apply And.intro) <;> first | trivial | rfl | assumption | omega | decide | exact Or.inl rfl | exact Or.inr (Or.inl rfl) | exact Or.inr (Or.inr rfl))), (by ((repeat' apply And.intro) <;> first | trivial | rfl | assumption | omega | decide | exact Or.inl rfl | exact Or.inr (Or.inl rfl) | exact Or.inr (Or.inr rfl)))⟩) [0, 1, 2] (by decide) rfl (Nat.le_of_ble_eq_true rfl) (Nat.le_of_ble_eq_true rfl)
set_option maxHeartbeats 4000000 in
set_option maxRecDepth 100000 in
theorem c182_X10_takeThisWord (l : Launch) (g : GD) (h0 : Nat) (h1 : Nat) (h2 : Nat) (h3 : Nat) (x0 : Int32) (x1 : Int32) (x2 : Int32) (x3 : Int32) (x4 : Int32) (x5 : Int32) (x6 : Int32) (x7 : Int32) (x8 : Int32) (fn0 : Nat → Int32) (i_x4 : (0 ≤ (Int32.toInt x4) ∧ (Int32.toInt x4) ≤ 1)) (i_x8 : (0 ≤ (Int32.toInt x8) ∧ (Int32.toInt x8) ≤ 1500)) (sz : Nat) : Met l yX10_takeThisWord wsX10_takeThisWord ({ frames := 6, cells := 0, slots := 0, locals := 129 }) (va_Pc [.ref h0, .ref (g.2.2.1 5)] (PW g [(h0, .inr (9, [.ref h3, .ref h1, .int x0, .int x1, .int x2, .int x3, .int x4, .int x5, .int x6, .int x7])), (h1, .inr (4, [.ref h2, .int x8])), (h2, .inl (gB g, 1500, .inl fn0))] sz)) (va_Qi (fun (r : Int32) (u : (Int32) × (Int32) × (Int32)) => 0 ≤ (Int32.toInt r) ∧ (Int32.toInt r) ≤ 2) (BW g (va_A [(h0, .inr (9, [.ref h3, .ref h1, .int x0, .int x1, .int x2, .int x3, .int x4, .int x5, .int x6, .int x7])), (h1, .inr (4, [.ref h2, .int x8])), (h2, .inl (gB g, 1500, .inl fn0))] sz) (fun u : (Int32) × (Int32) × (Int32) => [(h0, .inr (9, [.ref h3, .ref h1, .int u.1, .int u.2.1, .int u.2.2, .int x3, .int x4, .int x5, .int x6, .int x7])), (h1, .inr (4, [.ref h2, .int x8])), (h2, .inl (gB g, 1500, .inl fn0))])) (va_A [(h0, .inr (9, [.ref h3, .ref h1, .int x0, .int x1, .int x2, .int x3, .int x4, .int x5, .int x6, .int x7])), (h1, .inr (4, [.ref h2, .int x8])), (h2, .inl (gB g, 1500, .inl fn0))] sz)) 0 0 (va_A [(h0, .inr (9, [.ref h3, .ref h1, .int x0, .int x1, .int x2, .int x3, .int x4, .int x5, .int x6, .int x7])), (h1, .inr (4, [.ref h2, .int x8])), (h2, .inl (gB g, 1500, .inl fn0))] sz) := by
  refine met_i RX10 (by decide) rfl rfl (Nat.le_of_ble_eq_true rfl) [(0, .ref h0), (1, .ref (g.2.2.1 5))] rfl ?_
  intro p e s m args below meth c A Q C hnm Rt
  refine r_aload_n 0 0 C dX10_takeThisWord_0 rfl ?_
  refine r_callVi 1 C dX10_takeThisWord_1 [] [(h0, .inr (9, [.ref h3, .ref h1, .int x0, .int x1, .int x2, .int x3, .int x4, .int x5, .int x6, .int x7])), (h1, .inr (4, [.ref h2, .int x8])), (h2, .inl (gB g, 1500, .inl fn0))] [] (fun sz => c115_X10_takeWord l g h0 h1 h2 h3 x0 x1 x2 x3 x4 x5 x6 x7 x8 fn0 i_x4 i_x8 sz) gX10_takeThisWord_X10_takeWord rfl ⟨rfl, rfl⟩ 0 (by decide) ⟨Nat.le_of_ble_eq_true rfl, Nat.le_of_ble_eq_true rfl⟩ 0 rfl rfl [0, 1, 2] [] rfl rfl (by decide) (by decide) (by decide) rfl rfl (Nat.le_of_ble_eq_true rfl) ⟨Nat.le_of_ble_eq_true rfl, Nat.le_of_ble_eq_true rfl⟩ (fun r4 u6 w5 => ?_)
  obtain ⟨z1, z2, z3⟩ := u6
  refine r_ws [(h0, .inr (9, [.ref h3, .ref h1, .int z1, .int z2, .int z3, .int x3, .int x4, .int x5, .int x6, .int x7])), (h1, .inr (4, [.ref h2, .int x8])), (h2, .inl (gB g, 1500, .inl fn0))] rfl ?_
  have gz1 := fb_rng z1
  have gz2 := fb_rng z2
  have gz3 := fb_rng z3
  have p7 : 0 ≤ (Int32.toInt r4) := w5.1
  have p8 : (Int32.toInt r4) ≤ 1 := w5.2
  refine r_if_ne 4 9 C dX10_takeThisWord_4 (by decide) (fun c9 => ?_) (fun c9 => ?_)
  · skip
    have k10 : ¬ ((Int32.toInt r4) = 0) := fun h_9 => c9 ((fa_eq r4 0).mpr h_9)
    refine r_aload_n 9 0 C dX10_takeThisWord_9 rfl ?_
    refine r_aload_n 10 1 C dX10_takeThisWord_10 rfl ?_
    refine r_callVi 11 C dX10_takeThisWord_11 [] [(h0, .inr (9, [.ref h3, .ref h1, .int z1, .int z2, .int z3, .int x3, .int x4, .int x5, .int x6, .int x7])), (h1, .inr (4, [.ref h2, .int x8])), (h2, .inl (gB g, 1500, .inl fn0))] [] (fun sz => c181_X10_isWord l g h0 h1 h2 h3 z1 z2 z3 x3 x4 x5 x6 x7 x8 fn0 i_x4 i_x8 sz) gX10_takeThisWord_X10_isWord rfl ⟨rfl, rfl⟩ 1 (by decide) ⟨Nat.le_of_ble_eq_true rfl, Nat.le_of_ble_eq_true rfl⟩ 0 rfl rfl [0, 1, 2] [] rfl rfl (by decide) (by decide) (by decide) rfl rfl (Nat.le_of_ble_eq_true rfl) ⟨Nat.le_of_ble_eq_true rfl, Nat.le_of_ble_eq_true rfl⟩ (fun r11 _ w12 => ?_)
    refine r_ws [(h0, .inr (9, [.ref h3, .ref h1, .int z1, .int z2, .int z3, .int x3, .int x4, .int x5, .int x6, .int x7])), (h1, .inr (4, [.ref h2, .int x8])), (h2, .inl (gB g, 1500, .inl fn0))] rfl ?_
    have p13 : 0 ≤ (Int32.toInt r11) := w12.1
    have p14 : (Int32.toInt r11) ≤ 1 := w12.2
    refine r_if_eq 14 21 C dX10_takeThisWord_14 (by decide) (fun c15 => ?_) (fun c15 => ?_)
    · skip
      have k16 : (Int32.toInt r11) = 0 := (fa_eq r11 0).mp c15
      refine r_iconst 21 2 C dX10_takeThisWord_21 (by decide) ?_
      exact r_iret 22 Rt dX10_takeThisWord_22 (z1, z2, z3) (show 0 ≤ (Int32.toInt 2) ∧ (Int32.toInt 2) ≤ 2 from ⟨(by ((repeat' apply And.intro) <;> first | trivial | rfl | assumption | omega | decide | exact Or.inl rfl | exact Or.inr (Or.inl rfl) | exact Or.inr (Or.inr rfl))), (by ((repeat' apply And.intro) <;> first | trivial | rfl | assumption | omega | decide | exact Or.inl rfl | exact Or.inr (Or.inl rfl) | exact Or.inr (Or.inr rfl)))⟩) [0, 1, 2] (by decide) rfl (Nat.le_of_ble_eq_true rfl) (Nat.le_of_ble_eq_true rfl)
    · skip
      have k17 : ¬ ((Int32.toInt r11) = 0) := fun h_9 => c15 ((fa_eq r11 0).mpr h_9)
      refine r_iconst 17 0 C dX10_takeThisWord_17 (by decide) ?_
      refine r_goto 18 22 C dX10_takeThisWord_18 (by decide) ?_
      exact r_iret 22 Rt dX10_takeThisWord_22 (z1, z2, z3) (show 0 ≤ (Int32.toInt 0) ∧ (Int32.toInt 0) ≤ 2 from ⟨(by ((repeat' apply And.intro) <;> first | trivial | rfl | assumption | omega | decide | exact Or.inl rfl | exact Or.inr (Or.inl rfl) | exact Or.inr (Or.inr rfl))), (by ((repeat' apply And.intro) <;> first | trivial | rfl | assumption | omega | decide | exact Or.inl rfl | exact Or.inr (Or.inl rfl) | exact Or.inr (Or.inr rfl)))⟩) [0, 1, 2] (by decide) rfl (Nat.le_of_ble_eq_true rfl) (Nat.le_of_ble_eq_true rfl)
  · skip
    have k18 : (Int32.toInt r4) = 0 := (fa_eq r4 0).mp c9
    refine r_iconst 7 1 C dX10_takeThisWord_7 (by decide) ?_
    exact r_iret 8 Rt dX10_takeThisWord_8 (z1, z2, z3) (show 0 ≤ (Int32.toInt 1) ∧ (Int32.toInt 1) ≤ 2 from ⟨(by ((repeat' apply And.intro) <;> first | trivial | rfl | assumption | omega | decide | exact Or.inl rfl | exact Or.inr (Or.inl rfl) | exact Or.inr (Or.inr rfl))), (by ((repeat' apply And.intro) <;> first | trivial | rfl | assumption | omega | decide | exact Or.inl rfl | exact Or.inr (Or.inl rfl) | exact Or.inr (Or.inr rfl)))⟩) [0, 1, 2] (by decide) rfl (Nat.le_of_ble_eq_true rfl) (Nat.le_of_ble_eq_true rfl)
set_option maxHeartbeats 4000000 in
set_option maxRecDepth 100000 in
theorem c183_X10_takeLocals (l : Launch) (g : GD) (h0 : Nat) (h1 : Nat) (h2 : Nat) (h3 : Nat) (h4 : Nat) (h5 : Nat) (x0 : Int32) (x1 : Int32) (x2 : Int32) (x3 : Int32) (x4 : Int32) (x5 : Int32) (x6 : Int32) (x7 : Int32) (h6 : Nat) (h7 : Nat) (x8 : Int32) (x9 : Int32) (x10 : Int32) (x11 : Int32) (h8 : Nat) (x12 : Int32) (x13 : Int32) (x14 : Int32) (fn0 : Nat → Int32) (fn1 : Nat → Int32) (i_x4 : (0 ≤ (Int32.toInt x4) ∧ (Int32.toInt x4) ≤ 1)) (i_x11 : (0 ≤ (Int32.toInt x11) ∧ (Int32.toInt x11) ≤ 1500)) (sz : Nat) : Met l yX10_takeLocals wsX10_takeLocals ({ frames := 7, cells := 0, slots := 0, locals := 150 }) (va_Pc [.ref h0] (PW g [(h0, .inr (9, [.ref h1, .ref h2, .int x0, .int x1, .int x2, .int x3, .int x4, .int x5, .int x6, .int x7])), (h1, .inr (3, [.ref h2, .ref h6, .ref h3, .ref h7, .int x8, .int x9, .int x10])), (h2, .inr (4, [.ref h4, .int x11])), (h3, .inr (7, [.ref h2, .ref h5, .ref h8, .int x12, .int x13, .int x14])), (h4, .inl (gB g, 1500, .inl fn0)), (h5, .inl (gI g, 200, .inl fn1))] sz)) (va_Qi (fun (r : Int32) (u : (Int32) × (Int32) × (Int32) × (Int32) × (Int32) × (Int32) × (Int32) × (Nat → Int32)) => 0 ≤ (Int32.toInt r) ∧ (Int32.toInt r) ≤ 2 ∧ 0 ≤ (Int32.toInt (u.2.2.2.1)) ∧ (Int32.toInt (u.2.2.2.1)) ≤ 1) (BW g (va_A [(h0, .inr (9, [.ref h1, .ref h2, .int x0, .int x1, .int x2, .int x3, .int x4, .int x5, .int x6, .int x7])), (h1, .inr (3, [.ref h2, .ref h6, .ref h3, .ref h7, .int x8, .int x9, .int x10])), (h2, .inr (4, [.ref h4, .int x11])), (h3, .inr (7, [.ref h2, .ref h5, .ref h8, .int x12, .int x13, .int x14])), (h4, .inl (gB g, 1500, .inl fn0)), (h5, .inl (gI g, 200, .inl fn1))] sz) (fun u : (Int32) × (Int32) × (Int32) × (Int32) × (Int32) × (Int32) × (Int32) × (Nat → Int32) => [(h0, .inr (9, [.ref h1, .ref h2, .int u.1, .int u.2.1, .int u.2.2.1, .int x3, .int u.2.2.2.1, .int u.2.2.2.2.1, .int x6, .int x7])), (h1, .inr (3, [.ref h2, .ref h6, .ref h3, .ref h7, .int x8, .int x9, .int x10])), (h2, .inr (4, [.ref h4, .int x11])), (h3, .inr (7, [.ref h2, .ref h5, .ref h8, .int u.2.2.2.2.2.1, .int x13, .int u.2.2.2.2.2.2.1])), (h4, .inl (gB g, 1500, .inl fn0)), (h5, .inl (gI g, 200, .inl u.2.2.2.2.2.2.2))])) (va_A [(h0, .inr (9, [.ref h1, .ref h2, .int x0, .int x1, .int x2, .int x3, .int x4, .int x5, .int x6, .int x7])), (h1, .inr (3, [.ref h2, .ref h6, .ref h3, .ref h7, .int x8, .int x9, .int x10])), (h2, .inr (4, [.ref h4, .int x11])), (h3, .inr (7, [.ref h2, .ref h5, .ref h8, .int x12, .int x13, .int x14])), (h4, .inl (gB g, 1500, .inl fn0)), (h5, .inl (gI g, 200, .inl fn1))] sz)) 0 0 (va_A [(h0, .inr (9, [.ref h1, .ref h2, .int x0, .int x1, .int x2, .int x3, .int x4, .int x5, .int x6, .int x7])), (h1, .inr (3, [.ref h2, .ref h6, .ref h3, .ref h7, .int x8, .int x9, .int x10])), (h2, .inr (4, [.ref h4, .int x11])), (h3, .inr (7, [.ref h2, .ref h5, .ref h8, .int x12, .int x13, .int x14])), (h4, .inl (gB g, 1500, .inl fn0)), (h5, .inl (gI g, 200, .inl fn1))] sz) := by
  refine met_i RX10 (by decide) rfl rfl (Nat.le_of_ble_eq_true rfl) [(0, .ref h0)] rfl ?_
  intro p e s m args below meth c A Q C hnm Rt
  have hiX10 : ∀ w ∈ wsX100, w ∈ wsX10_takeLocals := fun w h => List.mem_cons_of_mem _ (List.mem_append_left _ (List.mem_append_left _ (List.mem_append_left _ (List.mem_append_right _ (h)))))
  have hiX3 : ∀ w ∈ wsX30, w ∈ wsX10_takeLocals := fun w h => List.mem_cons_of_mem _ (List.mem_append_left _ (List.mem_append_left _ (List.mem_append_right _ (h))))
  refine r_aload_n 0 0 C dX10_takeLocals_0 rfl ?_
  refine r_callVi 1 C dX10_takeLocals_1 [] [(h0, .inr (9, [.ref h1, .ref h2, .int x0, .int x1, .int x2, .int x3, .int x4, .int x5, .int x6, .int x7])), (h2, .inr (4, [.ref h4, .int x11])), (h4, .inl (gB g, 1500, .inl fn0))] [(h1, .inr (3, [.ref h2, .ref h6, .ref h3, .ref h7, .int x8, .int x9, .int x10])), (h3, .inr (7, [.ref h2, .ref h5, .ref h8, .int x12, .int x13, .int x14])), (h5, .inl (gI g, 200, .inl fn1))] (fun sz => c154_X10_takeCount l g h0 h2 h4 h1 x0 x1 x2 x3 x4 x5 x6 x7 x11 fn0 i_x4 i_x11 sz) gX10_takeLocals_X10_takeCount rfl ⟨rfl, rfl⟩ 0 (by decide) ⟨Nat.le_of_ble_eq_true rfl, Nat.le_of_ble_eq_true rfl⟩ 0 rfl rfl [0, 2, 4] [1, 3, 5] rfl rfl (by decide) (by decide) (by decide) rfl rfl (Nat.le_of_ble_eq_true rfl) ⟨Nat.le_of_ble_eq_true rfl, Nat.le_of_ble_eq_true rfl⟩ (fun r5 u7 w6 => ?_)
  obtain ⟨z1, z2, z3, z4⟩ := u7
  refine r_ws [(h1, .inr (3, [.ref h2, .ref h6, .ref h3, .ref h7, .int x8, .int x9, .int x10])), (h3, .inr (7, [.ref h2, .ref h5, .ref h8, .int x12, .int x13, .int x14])), (h5, .inl (gI g, 200, .inl fn1)), (h0, .inr (9, [.ref h1, .ref h2, .int z1, .int z2, .int z3, .int x3, .int x4, .int z4, .int x6, .int x7])), (h2, .inr (4, [.ref h4, .int x11])), (h4, .inl (gB g, 1500, .inl fn0))] rfl ?_
  have gz1 := fb_rng z1
  have gz2 := fb_rng z2
  have gz3 := fb_rng z3
  have gz4 := fb_rng z4
  have p8 : 0 ≤ (Int32.toInt r5) := w6.1
  have p9 : (Int32.toInt r5) ≤ 2 := w6.2
  refine r_istore_n 4 C dX10_takeLocals_4 [(1, .int r5), (0, .ref h0)] (by decide) rfl ?_
  refine r_iload_n 5 0 C dX10_takeLocals_5 rfl ?_
  refine r_if_eq 6 11 C dX10_takeLocals_6 (by decide) (fun c10 => ?_) (fun c10 => ?_)
  · skip
    have k11 : (Int32.toInt r5) = 0 := (fa_eq r5 0).mp c10
    refine r_aload_n 11 1 C dX10_takeLocals_11 rfl ?_
    refine r_get 12 C dX10_takeLocals_12 (k := 7) 3 rfl rfl hiX10 (by decide) rfl (mg 1 rfl) (Or.inl rfl) rfl ?_
    refine r_sipush 15 200 C dX10_takeLocals_15 (by decide) ?_
    refine r_icmp_le 18 23 C dX10_takeLocals_18 (by decide) (fun c12 => ?_) (fun c12 => ?_)
    · skip
      have k13 : (Int32.toInt z4) ≤ 200 := (fa_le z4 200).mp c12
      refine r_aload_n 23 1 C dX10_takeLocals_23 rfl ?_
      refine r_get 24 C dX10_takeLocals_24 (k := 0) 3 rfl rfl hiX10 (by decide) rfl (mg 2 rfl) (Or.inl rfl) rfl ?_
      refine r_getN 27 C dX10_takeLocals_27 (k := 2) 0 rfl rfl hiX3 (by decide) rfl (mg 22 rfl) rfl rfl ?_
      refine r_aload_n 30 1 C dX10_takeLocals_30 rfl ?_
      refine r_get 31 C dX10_takeLocals_31 (k := 7) 3 rfl rfl hiX10 (by decide) rfl (mg 1 rfl) (Or.inl rfl) rfl ?_
      refine r_callVv 34 C dX10_takeLocals_34 [] [(h3, .inr (7, [.ref h2, .ref h5, .ref h8, .int x12, .int x13, .int x14])), (h5, .inl (gI g, 200, .inl fn1))] [(h1, .inr (3, [.ref h2, .ref h6, .ref h3, .ref h7, .int x8, .int x9, .int x10])), (h0, .inr (9, [.ref h1, .ref h2, .int z1, .int z2, .int z3, .int x3, .int x4, .int z4, .int x6, .int x7])), (h2, .inr (4, [.ref h4, .int x11])), (h4, .inl (gB g, 1500, .inl fn0))] (fun sz => c46_X8_lay l g h3 h5 z4 h2 h8 x12 x13 x14 fn1  sz) gX10_takeLocals_X8_lay rfl ⟨rfl, rfl⟩ 1 (by decide) ⟨Nat.le_of_ble_eq_true rfl, Nat.le_of_ble_eq_true rfl⟩ 1 rfl rfl [1, 2] [0, 3, 4, 5] rfl rfl (by decide) (by decide) (by decide) rfl rfl (Nat.le_of_ble_eq_true rfl) ⟨Nat.le_of_ble_eq_true rfl, Nat.le_of_ble_eq_true rfl⟩ (fun  u17 w16 => ?_)
      obtain ⟨z14, f15⟩ := u17
      refine r_ws [(h1, .inr (3, [.ref h2, .ref h6, .ref h3, .ref h7, .int x8, .int x9, .int x10])), (h0, .inr (9, [.ref h1, .ref h2, .int z1, .int z2, .int z3, .int x3, .int x4, .int z4, .int x6, .int x7])), (h2, .inr (4, [.ref h4, .int x11])), (h4, .inl (gB g, 1500, .inl fn0)), (h3, .inr (7, [.ref h2, .ref h5, .ref h8, .int z14, .int x13, .int 0])), (h5, .inl (gI g, 200, .inl f15))] rfl ?_
      have gz14 := fb_rng z14
      refine r_aload_n 37 1 C dX10_takeLocals_37 rfl ?_
      refine r_iconst 38 1 C dX10_takeLocals_38 (by decide) ?_
      refine r_put 39 C dX10_takeLocals_39 (k := 6) 1 rfl rfl hiX10 tyX10 tyX10_ok nmX10 (by decide) rfl (mg 3 rfl) (Or.inl rfl) rfl rfl rfl rfl (Nat.le_of_ble_eq_true rfl) [(h1, .inr (3, [.ref h2, .ref h6, .ref h3, .ref h7, .int x8, .int x9, .int x10])), (h0, .inr (9, [.ref h1, .ref h2, .int z1, .int z2, .int z3, .int x3, .int 1, .int z4, .int x6, .int x7])), (h2, .inr (4, [.ref h4, .int x11])), (h4, .inl (gB g, 1500, .inl fn0)), (h3, .inr (7, [.ref h2, .ref h5, .ref h8, .int z14, .int x13, .int 0])), (h5, .inl (gI g, 200, .inl f15))] rfl ?_
      refine r_aload_n 42 1 C dX10_takeLocals_42 rfl ?_
      refine r_ldcS 43 5 C rfl (by decide) rfl dX10_takeLocals_43 ?_
      refine r_callVi 45 C dX10_takeLocals_45 [] [(h0, .inr (9, [.ref h1, .ref h2, .int z1, .int z2, .int z3, .int x3, .int 1, .int z4, .int x6, .int x7])), (h2, .inr (4, [.ref h4, .int x11])), (h4, .inl (gB g, 1500, .inl fn0))] [(h1, .inr (3, [.ref h2, .ref h6, .ref h3, .ref h7, .int x8, .int x9, .int x10])), (h3, .inr (7, [.ref h2, .ref h5, .ref h8, .int z14, .int x13, .int 0])), (h5, .inl (gI g, 200, .inl f15))] (fun sz => c182_X10_takeThisWord l g h0 h2 h4 h1 z1 z2 z3 x3 1 z4 x6 x7 x11 fn0 (by decide) i_x11 sz) gX10_takeLocals_X10_takeThisWord rfl ⟨rfl, rfl⟩ 1 (by decide) ⟨Nat.le_of_ble_eq_true rfl, Nat.le_of_ble_eq_true rfl⟩ 1 rfl rfl [1, 2, 3] [0, 4, 5] rfl rfl (by decide) (by decide) (by decide) rfl rfl (Nat.le_of_ble_eq_true rfl) ⟨Nat.le_of_ble_eq_true rfl, Nat.le_of_ble_eq_true rfl⟩ (fun r21 u23 w22 => ?_)
      obtain ⟨z18, z19, z20⟩ := u23
      refine r_ws [(h1, .inr (3, [.ref h2, .ref h6, .ref h3, .ref h7, .int x8, .int x9, .int x10])), (h3, .inr (7, [.ref h2, .ref h5, .ref h8, .int z14, .int x13, .int 0])), (h5, .inl (gI g, 200, .inl f15)), (h0, .inr (9, [.ref h1, .ref h2, .int z18, .int z19, .int z20, .int x3, .int 1, .int z4, .int x6, .int x7])), (h2, .inr (4, [.ref h4, .int x11])), (h4, .inl (gB g, 1500, .inl fn0))] rfl ?_
      have gz18 := fb_rng z18
      have gz19 := fb_rng z19
      have gz20 := fb_rng z20
      have p24 : 0 ≤ (Int32.toInt r21) := w22.1
      have p25 : (Int32.toInt r21) ≤ 2 := w22.2
      exact r_iret 48 Rt dX10_takeLocals_48 (z18, z19, z20, 1, z4, z14, 0, f15) (show 0 ≤ (Int32.toInt r21) ∧ (Int32.toInt r21) ≤ 2 ∧ 0 ≤ (Int32.toInt 1) ∧ (Int32.toInt 1) ≤ 1 from ⟨(show _ ∧ _ from ⟨p24, p25⟩).1, (show _ ∧ _ from ⟨p24, p25⟩).2, (by ((repeat' apply And.intro) <;> first | trivial | rfl | assumption | omega | decide | exact Or.inl rfl | exact Or.inr (Or.inl rfl) | exact Or.inr (Or.inr rfl))), (by ((repeat' apply And.intro) <;> first | trivial | rfl | assumption | omega | decide | exact Or.inl rfl | exact Or.inr (Or.inl rfl) | exact Or.inr (Or.inr rfl)))⟩) [3, 0, 4, 1, 5, 2] (by decide) rfl (Nat.le_of_ble_eq_true rfl) (Nat.le_of_ble_eq_true rfl)
    · skip
      have k26 : ¬ ((Int32.toInt z4) ≤ 200) := fun h_9 => c12 ((fa_le z4 200).mpr h_9)
      refine r_iconst 21 2 C dX10_takeLocals_21 (by decide) ?_
      exact r_iret 22 Rt dX10_takeLocals_22 (z1, z2, z3, x4, z4, x12, x14, fn1) (show 0 ≤ (Int32.toInt 2) ∧ (Int32.toInt 2) ≤ 2 ∧ 0 ≤ (Int32.toInt x4) ∧ (Int32.toInt x4) ≤ 1 from ⟨(by ((repeat' apply And.intro) <;> first | trivial | rfl | assumption | omega | decide | exact Or.inl rfl | exact Or.inr (Or.inl rfl) | exact Or.inr (Or.inr rfl))), (by ((repeat' apply And.intro) <;> first | trivial | rfl | assumption | omega | decide | exact Or.inl rfl | exact Or.inr (Or.inl rfl) | exact Or.inr (Or.inr rfl))), i_x4.1, i_x4.2⟩) [3, 0, 4, 1, 5, 2] (by decide) rfl (Nat.le_of_ble_eq_true rfl) (Nat.le_of_ble_eq_true rfl)
  · skip
    have k27 : ¬ ((Int32.toInt r5) = 0) := fun h_9 => c10 ((fa_eq r5 0).mpr h_9)
    refine r_iload_n 9 0 C dX10_takeLocals_9 rfl ?_
    exact r_iret 10 Rt dX10_takeLocals_10 (z1, z2, z3, x4, z4, x12, x14, fn1) (show 0 ≤ (Int32.toInt r5) ∧ (Int32.toInt r5) ≤ 2 ∧ 0 ≤ (Int32.toInt x4) ∧ (Int32.toInt x4) ≤ 1 from ⟨(show _ ∧ _ from ⟨p8, p9⟩).1, (show _ ∧ _ from ⟨p8, p9⟩).2, i_x4.1, i_x4.2⟩) [3, 0, 4, 1, 5, 2] (by decide) rfl (Nat.le_of_ble_eq_true rfl) (Nat.le_of_ble_eq_true rfl)
set_option maxHeartbeats 4000000 in
set_option maxRecDepth 100000 in
theorem c184_X10_takeSettings (l : Launch) (g : GD) (h0 : Nat) (h1 : Nat) (h2 : Nat) (h3 : Nat) (h4 : Nat) (h5 : Nat) (h6 : Nat) (x0 : Int32) (x1 : Int32) (x2 : Int32) (x3 : Int32) (x4 : Int32) (x5 : Int32) (x6 : Int32) (x7 : Int32) (h7 : Nat) (h8 : Nat) (x8 : Int32) (x9 : Int32) (x10 : Int32) (x11 : Int32) (x12 : Int32) (x13 : Int32) (x14 : Int32) (fn0 : Nat → Int32) (fn1 : Nat → Int32) (fn2 : Nat → Int32) (i_x4 : (0 ≤ (Int32.toInt x4) ∧ (Int32.toInt x4) ≤ 1)) (i_x11 : (0 ≤ (Int32.toInt x11) ∧ (Int32.toInt x11) ≤ 1500)) (sz : Nat) : Met l yX10_takeSettings wsX10_takeSettings ({ frames := 8, cells := 0, slots := 0, locals := 175 }) (va_Pc [.ref h0] (PW g [(h0, .inr (9, [.ref h1, .ref h2, .int x0, .int x1, .int x2, .int x3, .int x4, .int x5, .int x6, .int x7])), (h1, .inr (3, [.ref h2, .ref h7, .ref h3, .ref h8, .int x8, .int x9, .int x10])), (h2, .inr (4, [.ref h4, .int x11])), (h3, .inr (7, [.ref h2, .ref h5, .ref h6, .int x12, .int x13, .int x14])), (h4, .inl (gB g, 1500, .inl fn0)), (h5, .inl (gI g, 200, .inl fn1)), (h6, .inl (gI g, 200, .inl fn2))] sz)) (va_Qi (fun (r : Int32) (u : (Int32) × (Int32) × (Int32) × (Int32) × (Int32) × (Int32) × (Int32) × (Int32) × (Int32) × (Int32) × (Nat → Int32) × (Nat → Int32) × (Nat → Int32)) => 0 ≤ (Int32.toInt r) ∧ (Int32.toInt r) ≤ 2 ∧ 0 ≤ (Int32.toInt (u.2.2.2.2.1)) ∧ (Int32.toInt (u.2.2.2.2.1)) ≤ 1) (BW g (va_A [(h0, .inr (9, [.ref h1, .ref h2, .int x0, .int x1, .int x2, .int x3, .int x4, .int x5, .int x6, .int x7])), (h1, .inr (3, [.ref h2, .ref h7, .ref h3, .ref h8, .int x8, .int x9, .int x10])), (h2, .inr (4, [.ref h4, .int x11])), (h3, .inr (7, [.ref h2, .ref h5, .ref h6, .int x12, .int x13, .int x14])), (h4, .inl (gB g, 1500, .inl fn0)), (h5, .inl (gI g, 200, .inl fn1)), (h6, .inl (gI g, 200, .inl fn2))] sz) (fun u : (Int32) × (Int32) × (Int32) × (Int32) × (Int32) × (Int32) × (Int32) × (Int32) × (Int32) × (Int32) × (Nat → Int32) × (Nat → Int32) × (Nat → Int32) => [(h0, .inr (9, [.ref h1, .ref h2, .int u.1, .int u.2.1, .int u.2.2.1, .int u.2.2.2.1, .int u.2.2.2.2.1, .int u.2.2.2.2.2.1, .int u.2.2.2.2.2.2.1, .int u.2.2.2.2.2.2.2.1])), (h1, .inr (3, [.ref h2, .ref h7, .ref h3, .ref h8, .int x8, .int x9, .int x10])), (h2, .inr (4, [.ref h4, .int x11])), (h3, .inr (7, [.ref h2, .ref h5, .ref h6, .int u.2.2.2.2.2.2.2.2.1, .int x13, .int u.2.2.2.2.2.2.2.2.2.1])), (h4, .inl (gB g, 1500, .inl u.2.2.2.2.2.2.2.2.2.2.1)), (h5, .inl (gI g, 200, .inl u.2.2.2.2.2.2.2.2.2.2.2.1)), (h6, .inl (gI g, 200, .inl u.2.2.2.2.2.2.2.2.2.2.2.2))])) (va_A [(h0, .inr (9, [.ref h1, .ref h2, .int x0, .int x1, .int x2, .int x3, .int x4, .int x5, .int x6, .int x7])), (h1, .inr (3, [.ref h2, .ref h7, .ref h3, .ref h8, .int x8, .int x9, .int x10])), (h2, .inr (4, [.ref h4, .int x11])), (h3, .inr (7, [.ref h2, .ref h5, .ref h6, .int x12, .int x13, .int x14])), (h4, .inl (gB g, 1500, .inl fn0)), (h5, .inl (gI g, 200, .inl fn1)), (h6, .inl (gI g, 200, .inl fn2))] sz)) 0 0 (va_A [(h0, .inr (9, [.ref h1, .ref h2, .int x0, .int x1, .int x2, .int x3, .int x4, .int x5, .int x6, .int x7])), (h1, .inr (3, [.ref h2, .ref h7, .ref h3, .ref h8, .int x8, .int x9, .int x10])), (h2, .inr (4, [.ref h4, .int x11])), (h3, .inr (7, [.ref h2, .ref h5, .ref h6, .int x12, .int x13, .int x14])), (h4, .inl (gB g, 1500, .inl fn0)), (h5, .inl (gI g, 200, .inl fn1)), (h6, .inl (gI g, 200, .inl fn2))] sz) := by
  refine met_i RX10 (by decide) rfl rfl (Nat.le_of_ble_eq_true rfl) [(0, .ref h0)] rfl ?_
  intro p e s m args below meth c A Q C hnm Rt
  have hiX10 : ∀ w ∈ wsX100, w ∈ wsX10_takeSettings := fun w h => List.mem_cons_of_mem _ (List.mem_append_left _ (List.mem_append_left _ (List.mem_append_left _ (List.mem_append_right _ (h)))))
  refine r_aload_n 0 0 C dX10_takeSettings_0 rfl ?_
  refine r_get 1 C dX10_takeSettings_1 (k := 1) 0 rfl rfl hiX10 (by decide) rfl (mg 1 rfl) (Or.inl rfl) rfl ?_
  refine r_callVi 4 C dX10_takeSettings_4 [] [(h2, .inr (4, [.ref h4, .int x11]))] [(h0, .inr (9, [.ref h1, .ref h2, .int x0, .int x1, .int x2, .int x3, .int x4, .int x5, .int x6, .int x7])), (h1, .inr (3, [.ref h2, .ref h7, .ref h3, .ref h8, .int x8, .int x9, .int x10])), (h3, .inr (7, [.ref h2, .ref h5, .ref h6, .int x12, .int x13, .int x14])), (h4, .inl (gB g, 1500, .inl fn0)), (h5, .inl (gI g, 200, .inl fn1)), (h6, .inl (gI g, 200, .inl fn2))] (fun sz => c0_X5_size l g h2 h4 x11 i_x11 sz) gX10_takeSettings_X5_size rfl ⟨rfl, rfl⟩ 0 (by decide) ⟨Nat.le_of_ble_eq_true rfl, Nat.le_of_ble_eq_true rfl⟩ 2 rfl rfl [2] [0, 1, 3, 4, 5, 6] rfl rfl (by decide) (by decide) (by decide) rfl rfl (Nat.le_of_ble_eq_true rfl) ⟨Nat.le_of_ble_eq_true rfl, Nat.le_of_ble_eq_true rfl⟩ (fun r1 _ w2 => ?_)
  refine r_ws [(h0, .inr (9, [.ref h1, .ref h2, .int x0, .int x1, .int x2, .int x3, .int x4, .int x5, .int x6, .int x7])), (h1, .inr (3, [.ref h2, .ref h7, .ref h3, .ref h8, .int x8, .int x9, .int x10])), (h3, .inr (7, [.ref h2, .ref h5, .ref h6, .int x12, .int x13, .int x14])), (h4, .inl (gB g, 1500, .inl fn0)), (h5, .inl (gI g, 200, .inl fn1)), (h6, .inl (gI g, 200, .inl fn2)), (h2, .inr (4, [.ref h4, .int x11]))] rfl ?_
  have p3 : x11 = r1 := (w2).symm
  subst p3
  refine r_istore_n 7 C dX10_takeSettings_7 [(1, .int x11), (0, .ref h0)] (by decide) rfl ?_
  refine r_iconst 8 0 C dX10_takeSettings_8 (by decide) ?_
  refine r_istore_n 9 C dX10_takeSettings_9 [(2, .int 0), (1, .int x11), (0, .ref h0)] (by decide) rfl ?_
  refine r_iconst 10 0 C dX10_takeSettings_10 (by decide) ?_
  refine r_istore_n 11 C dX10_takeSettings_11 [(3, .int 0), (2, .int 0), (1, .int x11), (0, .ref h0)] (by decide) rfl ?_
  have lp20 : ∀ (n19 : Nat) (z4 : Int32) (z5 : Int32) (z6 : Int32) (z7 : Int32) (z8 : Int32) (z9 : Int32) (z10 : Int32) (z11 : Int32) (z12 : Int32) (z13 : Int32) (z14 : Int32) (z15 : Int32) (f16 : Nat → Int32) (f17 : Nat → Int32) (f18 : Nat → Int32), (0 ≤ (Int32.toInt z4) ∧ (Int32.toInt z4) ≤ 1501) → (0 ≤ (Int32.toInt z5) ∧ (Int32.toInt z5) ≤ 2) → (0 ≤ (Int32.toInt z10) ∧ (Int32.toInt z10) ≤ 1) → Int.toNat (1501 - (Int32.toInt z4)) < n19 → WW p l e ({ frames := 8, cells := 0, slots := 0, locals := 175 } : Room) s m args below meth c A Q g 4 0 0 [(h0, .inr (9, [.ref h1, .ref h2, .int z6, .int z7, .int z8, .int z9, .int z10, .int z11, .int z12, .int z13])), (h1, .inr (3, [.ref h2, .ref h7, .ref h3, .ref h8, .int x8, .int x9, .int x10])), (h3, .inr (7, [.ref h2, .ref h5, .ref h6, .int z14, .int x13, .int z15])), (h4, .inl (gB g, 1500, .inl f16)), (h5, .inl (gI g, 200, .inl f17)), (h6, .inl (gI g, 200, .inl f18)), (h2, .inr (4, [.ref h4, .int x11]))] 12 [(3, .int z4), (2, .int z5), (1, .int x11), (0, .ref h0)] [] := by
    intro n19
    induction n19 with
    | zero => intro z4 z5 z6 z7 z8 z9 z10 z11 z12 z13 z14 z15 f16 f17 f18 i23 i24 i25 hm22; exact absurd hm22 (Nat.not_lt_zero _)
    | succ n19 ih21 =>
      intro z4 z5 z6 z7 z8 z9 z10 z11 z12 z13 z14 z15 f16 f17 f18 i23 i24 i25 hm22
      obtain ⟨i23a, i23b⟩ := i23
      obtain ⟨i24a, i24b⟩ := i24
      obtain ⟨i25a, i25b⟩ := i25
      have gz6 := fb_rng z6
      have gz7 := fb_rng z7
      have gz8 := fb_rng z8
      have gz9 := fb_rng z9
      have gz11 := fb_rng z11
      have gz12 := fb_rng z12
      have gz13 := fb_rng z13
      have gz14 := fb_rng z14
      have gz15 := fb_rng z15
      refine r_iload_n 12 0 C dX10_takeSettings_12 rfl ?_
      refine r_iload_n 13 2 C dX10_takeSettings_13 rfl ?_
      refine r_icmp_gt 14 121 C dX10_takeSettings_14 (by decide) (fun c26 => ?_) (fun c26 => ?_)
      · skip
        have k27 : (Int32.toInt x11) < (Int32.toInt z4) := (fa_lt x11 z4).mp c26
        refine r_iload_n 121 1 C dX10_takeSettings_121 rfl ?_
        exact r_iret 122 Rt dX10_takeSettings_122 (z6, z7, z8, z9, z10, z11, z12, z13, z14, z15, f16, f17, f18) (show 0 ≤ (Int32.toInt z5) ∧ (Int32.toInt z5) ≤ 2 ∧ 0 ≤ (Int32.toInt z10) ∧ (Int32.toInt z10) ≤ 1 from ⟨(show _ ∧ _ from ⟨i24a, i24b⟩).1, (show _ ∧ _ from ⟨i24a, i24b⟩).2, (show _ ∧ _ from ⟨i25a, i25b⟩).1, (show _ ∧ _ from ⟨i25a, i25b⟩).2⟩) [0, 1, 6, 2, 3, 4, 5] (by decide) rfl (Nat.le_of_ble_eq_true rfl) (Nat.le_of_ble_eq_true rfl)
      · skip
        have k28 : ¬ ((Int32.toInt x11) < (Int32.toInt z4)) := fun h_9 => c26 ((fa_lt x11 z4).mpr h_9)
        refine r_iload_n 17 1 C dX10_takeSettings_17 rfl ?_
        refine r_if_ne 18 121 C dX10_takeSettings_18 (by decide) (fun c29 => ?_) (fun c29 => ?_)
        · skip
          have k30 : ¬ ((Int32.toInt z5) = 0) := fun h_9 => c29 ((fa_eq z5 0).mpr h_9)
          refine r_iload_n 121 1 C dX10_takeSettings_121 rfl ?_
          exact r_iret 122 Rt dX10_takeSettings_122 (z6, z7, z8, z9, z10, z11, z12, z13, z14, z15, f16, f17, f18) (show 0 ≤ (Int32.toInt z5) ∧ (Int32.toInt z5) ≤ 2 ∧ 0 ≤ (Int32.toInt z10) ∧ (Int32.toInt z10) ≤ 1 from ⟨(show _ ∧ _ from ⟨i24a, i24b⟩).1, (show _ ∧ _ from ⟨i24a, i24b⟩).2, (show _ ∧ _ from ⟨i25a, i25b⟩).1, (show _ ∧ _ from ⟨i25a, i25b⟩).2⟩) [0, 1, 6, 2, 3, 4, 5] (by decide) rfl (Nat.le_of_ble_eq_true rfl) (Nat.le_of_ble_eq_true rfl)
        · skip
          have k31 : (Int32.toInt z5) = 0 := (fa_eq z5 0).mp c29
          refine r_aload_n 21 3 C dX10_takeSettings_21 rfl ?_
          refine r_callVi 22 C dX10_takeSettings_22 [] [(h0, .inr (9, [.ref h1, .ref h2, .int z6, .int z7, .int z8, .int z9, .int z10, .int z11, .int z12, .int z13])), (h2, .inr (4, [.ref h4, .int x11])), (h4, .inl (gB g, 1500, .inl f16))] [(h1, .inr (3, [.ref h2, .ref h7, .ref h3, .ref h8, .int x8, .int x9, .int x10])), (h3, .inr (7, [.ref h2, .ref h5, .ref h6, .int z14, .int x13, .int z15])), (h5, .inl (gI g, 200, .inl f17)), (h6, .inl (gI g, 200, .inl f18))] (fun sz => c115_X10_takeWord l g h0 h2 h4 h1 z6 z7 z8 z9 z10 z11 z12 z13 x11 f16 ⟨i25a, i25b⟩ i_x11 sz) gX10_takeSettings_X10_takeWord rfl ⟨rfl, rfl⟩ 0 (by decide) ⟨Nat.le_of_ble_eq_true rfl, Nat.le_of_ble_eq_true rfl⟩ 0 rfl rfl [0, 6, 3] [1, 2, 4, 5] rfl rfl (by decide) (by decide) (by decide) rfl rfl (Nat.le_of_ble_eq_true rfl) ⟨Nat.le_of_ble_eq_true rfl, Nat.le_of_ble_eq_true rfl⟩ (fun r35 u37 w36 => ?_)
          obtain ⟨z32, z33, z34⟩ := u37
          refine r_ws [(h1, .inr (3, [.ref h2, .ref h7, .ref h3, .ref h8, .int x8, .int x9, .int x10])), (h3, .inr (7, [.ref h2, .ref h5, .ref h6, .int z14, .int x13, .int z15])), (h5, .inl (gI g, 200, .inl f17)), (h6, .inl (gI g, 200, .inl f18)), (h0, .inr (9, [.ref h1, .ref h2, .int z32, .int z33, .int z34, .int z9, .int z10, .int z11, .int z12, .int z13])), (h2, .inr (4, [.ref h4, .int x11])), (h4, .inl (gB g, 1500, .inl f16))] rfl ?_
          have gz32 := fb_rng z32
          have gz33 := fb_rng z33
          have gz34 := fb_rng z34
          have p38 : 0 ≤ (Int32.toInt r35) := w36.1
          have p39 : (Int32.toInt r35) ≤ 1 := w36.2
          refine r_if_ne 25 30 C dX10_takeSettings_25 (by decide) (fun c40 => ?_) (fun c40 => ?_)
          · skip
            have k41 : ¬ ((Int32.toInt r35) = 0) := fun h_9 => c40 ((fa_eq r35 0).mpr h_9)
            refine r_aload_n 30 3 C dX10_takeSettings_30 rfl ?_
            refine r_ldcS 31 1 C rfl (by decide) rfl dX10_takeSettings_31 ?_
            refine r_callVi 33 C dX10_takeSettings_33 [] [(h0, .inr (9, [.ref h1, .ref h2, .int z32, .int z33, .int z34, .int z9, .int z10, .int z11, .int z12, .int z13])), (h2, .inr (4, [.ref h4, .int x11])), (h4, .inl (gB g, 1500, .inl f16))] [(h1, .inr (3, [.ref h2, .ref h7, .ref h3, .ref h8, .int x8, .int x9, .int x10])), (h3, .inr (7, [.ref h2, .ref h5, .ref h6, .int z14, .int x13, .int z15])), (h5, .inl (gI g, 200, .inl f17)), (h6, .inl (gI g, 200, .inl f18))] (fun sz => c125_X10_isWord l g h0 h2 h4 h1 z32 z33 z34 z9 z10 z11 z12 z13 x11 f16 ⟨i25a, i25b⟩ i_x11 sz) gX10_takeSettings_X10_isWord rfl ⟨rfl, rfl⟩ 1 (by decide) ⟨Nat.le_of_ble_eq_true rfl, Nat.le_of_ble_eq_true rfl⟩ 4 rfl rfl [4, 5, 6] [0, 1, 2, 3] rfl rfl (by decide) (by decide) (by decide) rfl rfl (Nat.le_of_ble_eq_true rfl) ⟨Nat.le_of_ble_eq_true rfl, Nat.le_of_ble_eq_true rfl⟩ (fun r42 _ w43 => ?_)
            refine r_ws [(h1, .inr (3, [.ref h2, .ref h7, .ref h3, .ref h8, .int x8, .int x9, .int x10])), (h3, .inr (7, [.ref h2, .ref h5, .ref h6, .int z14, .int x13, .int z15])), (h5, .inl (gI g, 200, .inl f17)), (h6, .inl (gI g, 200, .inl f18)), (h0, .inr (9, [.ref h1, .ref h2, .int z32, .int z33, .int z34, .int z9, .int z10, .int z11, .int z12, .int z13])), (h2, .inr (4, [.ref h4, .int x11])), (h4, .inl (gB g, 1500, .inl f16))] rfl ?_
            have p44 : 0 ≤ (Int32.toInt r42) := w43.1
            have p45 : (Int32.toInt r42) ≤ 1 := w43.2
            refine r_if_eq 36 41 C dX10_takeSettings_36 (by decide) (fun c46 => ?_) (fun c46 => ?_)
            · skip
              have k47 : (Int32.toInt r42) = 0 := (fa_eq r42 0).mp c46
              refine r_aload_n 41 3 C dX10_takeSettings_41 rfl ?_
              refine r_ldcS 42 2 C rfl (by decide) rfl dX10_takeSettings_42 ?_
              refine r_callVi 44 C dX10_takeSettings_44 [] [(h0, .inr (9, [.ref h1, .ref h2, .int z32, .int z33, .int z34, .int z9, .int z10, .int z11, .int z12, .int z13])), (h2, .inr (4, [.ref h4, .int x11])), (h4, .inl (gB g, 1500, .inl f16))] [(h1, .inr (3, [.ref h2, .ref h7, .ref h3, .ref h8, .int x8, .int x9, .int x10])), (h3, .inr (7, [.ref h2, .ref h5, .ref h6, .int z14, .int x13, .int z15])), (h5, .inl (gI g, 200, .inl f17)), (h6, .inl (gI g, 200, .inl f18))] (fun sz => c135_X10_isWord l g h0 h2 h4 h1 z32 z33 z34 z9 z10 z11 z12 z13 x11 f16 ⟨i25a, i25b⟩ i_x11 sz) gX10_takeSettings_X10_isWord rfl ⟨rfl, rfl⟩ 1 (by decide) ⟨Nat.le_of_ble_eq_true rfl, Nat.le_of_ble_eq_true rfl⟩ 4 rfl rfl [4, 5, 6] [0, 1, 2, 3] rfl rfl (by decide) (by decide) (by decide) rfl rfl (Nat.le_of_ble_eq_true rfl) ⟨Nat.le_of_ble_eq_true rfl, Nat.le_of_ble_eq_true rfl⟩ (fun r48 _ w49 => ?_)
              refine r_ws [(h1, .inr (3, [.ref h2, .ref h7, .ref h3, .ref h8, .int x8, .int x9, .int x10])), (h3, .inr (7, [.ref h2, .ref h5, .ref h6, .int z14, .int x13, .int z15])), (h5, .inl (gI g, 200, .inl f17)), (h6, .inl (gI g, 200, .inl f18)), (h0, .inr (9, [.ref h1, .ref h2, .int z32, .int z33, .int z34, .int z9, .int z10, .int z11, .int z12, .int z13])), (h2, .inr (4, [.ref h4, .int x11])), (h4, .inl (gB g, 1500, .inl f16))] rfl ?_
              have p50 : 0 ≤ (Int32.toInt r48) := w49.1
              have p51 : (Int32.toInt r48) ≤ 1 := w49.2
              refine r_if_eq 47 77 C dX10_takeSettings_47 (by decide) (fun c52 => ?_) (fun c52 => ?_)
              · skip
                have k53 : (Int32.toInt r48) = 0 := (fa_eq r48 0).mp c52
                refine r_aload_n 77 3 C dX10_takeSettings_77 rfl ?_
                refine r_ldcS 78 3 C rfl (by decide) rfl dX10_takeSettings_78 ?_
                refine r_callVi 80 C dX10_takeSettings_80 [] [(h0, .inr (9, [.ref h1, .ref h2, .int z32, .int z33, .int z34, .int z9, .int z10, .int z11, .int z12, .int z13])), (h2, .inr (4, [.ref h4, .int x11])), (h4, .inl (gB g, 1500, .inl f16))] [(h1, .inr (3, [.ref h2, .ref h7, .ref h3, .ref h8, .int x8, .int x9, .int x10])), (h3, .inr (7, [.ref h2, .ref h5, .ref h6, .int z14, .int x13, .int z15])), (h5, .inl (gI g, 200, .inl f17)), (h6, .inl (gI g, 200, .inl f18))] (fun sz => c142_X10_isWord l g h0 h2 h4 h1 z32 z33 z34 z9 z10 z11 z12 z13 x11 f16 ⟨i25a, i25b⟩ i_x11 sz) gX10_takeSettings_X10_isWord rfl ⟨rfl, rfl⟩ 1 (by decide) ⟨Nat.le_of_ble_eq_true rfl, Nat.le_of_ble_eq_true rfl⟩ 4 rfl rfl [4, 5, 6] [0, 1, 2, 3] rfl rfl (by decide) (by decide) (by decide) rfl rfl (Nat.le_of_ble_eq_true rfl) ⟨Nat.le_of_ble_eq_true rfl, Nat.le_of_ble_eq_true rfl⟩ (fun r54 _ w55 => ?_)
                refine r_ws [(h1, .inr (3, [.ref h2, .ref h7, .ref h3, .ref h8, .int x8, .int x9, .int x10])), (h3, .inr (7, [.ref h2, .ref h5, .ref h6, .int z14, .int x13, .int z15])), (h5, .inl (gI g, 200, .inl f17)), (h6, .inl (gI g, 200, .inl f18)), (h0, .inr (9, [.ref h1, .ref h2, .int z32, .int z33, .int z34, .int z9, .int z10, .int z11, .int z12, .int z13])), (h2, .inr (4, [.ref h4, .int x11])), (h4, .inl (gB g, 1500, .inl f16))] rfl ?_
                have p56 : 0 ≤ (Int32.toInt r54) := w55.1
                have p57 : (Int32.toInt r54) ≤ 1 := w55.2
                refine r_if_eq 83 94 C dX10_takeSettings_83 (by decide) (fun c58 => ?_) (fun c58 => ?_)
                · skip
                  have k59 : (Int32.toInt r54) = 0 := (fa_eq r54 0).mp c58
                  refine r_aload_n 94 3 C dX10_takeSettings_94 rfl ?_
                  refine r_ldcS 95 4 C rfl (by decide) rfl dX10_takeSettings_95 ?_
                  refine r_callVi 97 C dX10_takeSettings_97 [] [(h0, .inr (9, [.ref h1, .ref h2, .int z32, .int z33, .int z34, .int z9, .int z10, .int z11, .int z12, .int z13])), (h2, .inr (4, [.ref h4, .int x11])), (h4, .inl (gB g, 1500, .inl f16))] [(h1, .inr (3, [.ref h2, .ref h7, .ref h3, .ref h8, .int x8, .int x9, .int x10])), (h3, .inr (7, [.ref h2, .ref h5, .ref h6, .int z14, .int x13, .int z15])), (h5, .inl (gI g, 200, .inl f17)), (h6, .inl (gI g, 200, .inl f18))] (fun sz => c152_X10_isWord l g h0 h2 h4 h1 z32 z33 z34 z9 z10 z11 z12 z13 x11 f16 ⟨i25a, i25b⟩ i_x11 sz) gX10_takeSettings_X10_isWord rfl ⟨rfl, rfl⟩ 1 (by decide) ⟨Nat.le_of_ble_eq_true rfl, Nat.le_of_ble_eq_true rfl⟩ 4 rfl rfl [4, 5, 6] [0, 1, 2, 3] rfl rfl (by decide) (by decide) (by decide) rfl rfl (Nat.le_of_ble_eq_true rfl) ⟨Nat.le_of_ble_eq_true rfl, Nat.le_of_ble_eq_true rfl⟩ (fun r60 _ w61 => ?_)
                  refine r_ws [(h1, .inr (3, [.ref h2, .ref h7, .ref h3, .ref h8, .int x8, .int x9, .int x10])), (h3, .inr (7, [.ref h2, .ref h5, .ref h6, .int z14, .int x13, .int z15])), (h5, .inl (gI g, 200, .inl f17)), (h6, .inl (gI g, 200, .inl f18)), (h0, .inr (9, [.ref h1, .ref h2, .int z32, .int z33, .int z34, .int z9, .int z10, .int z11, .int z12, .int z13])), (h2, .inr (4, [.ref h4, .int x11])), (h4, .inl (gB g, 1500, .inl f16))] rfl ?_
                  have p62 : 0 ≤ (Int32.toInt r60) := w61.1
                  have p63 : (Int32.toInt r60) ≤ 1 := w61.2
                  refine r_if_eq 100 115 C dX10_takeSettings_100 (by decide) (fun c64 => ?_) (fun c64 => ?_)
                  · skip
                    have k65 : (Int32.toInt r60) = 0 := (fa_eq r60 0).mp c64
                    obtain ⟨z66, ez66⟩ : ∃ z_9, z4 + Int32.ofInt 1 = z_9 := ⟨_, rfl⟩
                    have tz66 : (Int32.toInt z66) = (Int32.toInt z4) + 1 := by rw [← ez66]; exact fb_addIv (a := 0) (b := 1501) (c := 1) (d := 1) ⟨i23a, i23b⟩ ⟨by decide, by decide⟩ (by decide) (by decide)
                    refine r_iinc 115 0 z66 C dX10_takeSettings_115 rfl ez66 [(3, .int z66), (2, .int z5), (1, .int x11), (0, .ref h0)] (by decide) rfl ?_
                    refine r_goto 118 12 C dX10_takeSettings_118 (by decide) ?_
                    refine r_pick [(h0, .inr (9, [.ref h1, .ref h2, .int z32, .int z33, .int z34, .int z9, .int z10, .int z11, .int z12, .int z13])), (h1, .inr (3, [.ref h2, .ref h7, .ref h3, .ref h8, .int x8, .int x9, .int x10])), (h3, .inr (7, [.ref h2, .ref h5, .ref h6, .int z14, .int x13, .int z15])), (h4, .inl (gB g, 1500, .inl f16)), (h5, .inl (gI g, 200, .inl f17)), (h6, .inl (gI g, 200, .inl f18)), (h2, .inr (4, [.ref h4, .int x11]))] [4, 0, 1, 6, 2, 3, 5] (by decide) rfl ?_
                    exact ih21 z66 z5 z32 z33 z34 z9 z10 z11 z12 z13 z14 z15 f16 f17 f18 ⟨by omega, by omega⟩ ⟨i24a, i24b⟩ ⟨i25a, i25b⟩ (by omega)
                  · skip
                    have k67 : ¬ ((Int32.toInt r60) = 0) := fun h_9 => c64 ((fa_eq r60 0).mpr h_9)
                    refine r_aload_n 103 3 C dX10_takeSettings_103 rfl ?_
                    refine r_get 104 C dX10_takeSettings_104 (k := 6) 4 rfl rfl hiX10 (by decide) rfl (mg 4 rfl) (Or.inl rfl) rfl ?_
                    refine r_if_eq 107 115 C dX10_takeSettings_107 (by decide) (fun c68 => ?_) (fun c68 => ?_)
                    · skip
                      have k69 : (Int32.toInt z10) = 0 := (fa_eq z10 0).mp c68
                      obtain ⟨z70, ez70⟩ : ∃ z_9, z4 + Int32.ofInt 1 = z_9 := ⟨_, rfl⟩
                      have tz70 : (Int32.toInt z70) = (Int32.toInt z4) + 1 := by rw [← ez70]; exact fb_addIv (a := 0) (b := 1501) (c := 1) (d := 1) ⟨i23a, i23b⟩ ⟨by decide, by decide⟩ (by decide) (by decide)
                      refine r_iinc 115 0 z70 C dX10_takeSettings_115 rfl ez70 [(3, .int z70), (2, .int z5), (1, .int x11), (0, .ref h0)] (by decide) rfl ?_
                      refine r_goto 118 12 C dX10_takeSettings_118 (by decide) ?_
                      refine r_pick [(h0, .inr (9, [.ref h1, .ref h2, .int z32, .int z33, .int z34, .int z9, .int z10, .int z11, .int z12, .int z13])), (h1, .inr (3, [.ref h2, .ref h7, .ref h3, .ref h8, .int x8, .int x9, .int x10])), (h3, .inr (7, [.ref h2, .ref h5, .ref h6, .int z14, .int x13, .int z15])), (h4, .inl (gB g, 1500, .inl f16)), (h5, .inl (gI g, 200, .inl f17)), (h6, .inl (gI g, 200, .inl f18)), (h2, .inr (4, [.ref h4, .int x11]))] [4, 0, 1, 6, 2, 3, 5] (by decide) rfl ?_
                      exact ih21 z70 z5 z32 z33 z34 z9 z10 z11 z12 z13 z14 z15 f16 f17 f18 ⟨by omega, by omega⟩ ⟨i24a, i24b⟩ ⟨i25a, i25b⟩ (by omega)
                    · skip
                      have k71 : ¬ ((Int32.toInt z10) = 0) := fun h_9 => c68 ((fa_eq z10 0).mpr h_9)
                      refine r_aload_n 110 3 C dX10_takeSettings_110 rfl ?_
                      refine r_callVi 111 C dX10_takeSettings_111 [] [(h0, .inr (9, [.ref h1, .ref h2, .int z32, .int z33, .int z34, .int z9, .int z10, .int z11, .int z12, .int z13])), (h1, .inr (3, [.ref h2, .ref h7, .ref h3, .ref h8, .int x8, .int x9, .int x10])), (h2, .inr (4, [.ref h4, .int x11])), (h3, .inr (7, [.ref h2, .ref h5, .ref h6, .int z14, .int x13, .int z15])), (h4, .inl (gB g, 1500, .inl f16)), (h5, .inl (gI g, 200, .inl f17)), (h6, .inl (gI g, 200, .inl f18))] [] (fun sz => c174_X10_takeLocal l g h0 h1 h2 h3 h4 h5 h6 z32 z33 z34 z9 z10 z11 z12 z13 h7 h8 x8 x9 x10 x11 z14 x13 z15 f16 f17 f18 ⟨i25a, i25b⟩ i_x11 sz) gX10_takeSettings_X10_takeLocal rfl ⟨rfl, rfl⟩ 0 (by decide) ⟨Nat.le_of_ble_eq_true rfl, Nat.le_of_ble_eq_true rfl⟩ 4 rfl rfl [4, 0, 5, 1, 6, 2, 3] [] rfl rfl (by decide) (by decide) (by decide) rfl rfl (Nat.le_of_ble_eq_true rfl) ⟨Nat.le_of_ble_eq_true rfl, Nat.le_of_ble_eq_true rfl⟩ (fun r81 u83 w82 => ?_)
                      obtain ⟨z72, z73, z74, z75, z76, z77, f78, f79, f80⟩ := u83
                      refine r_ws [(h0, .inr (9, [.ref h1, .ref h2, .int z72, .int z73, .int z74, .int z9, .int z10, .int z75, .int z76, .int z77])), (h1, .inr (3, [.ref h2, .ref h7, .ref h3, .ref h8, .int x8, .int x9, .int x10])), (h2, .inr (4, [.ref h4, .int x11])), (h3, .inr (7, [.ref h2, .ref h5, .ref h6, .int z14, .int x13, .int z15])), (h4, .inl (gB g, 1500, .inl f78)), (h5, .inl (gI g, 200, .inl f79)), (h6, .inl (gI g, 200, .inl f80))] rfl ?_
                      have gz72 := fb_rng z72
                      have gz73 := fb_rng z73
                      have gz74 := fb_rng z74
                      have gz75 := fb_rng z75
                      have gz76 := fb_rng z76
                      have gz77 := fb_rng z77
                      have p84 : 0 ≤ (Int32.toInt r81) := w82.1
                      have p85 : (Int32.toInt r81) ≤ 2 := w82.2
                      refine r_istore_n 114 C dX10_takeSettings_114 [(2, .int r81), (3, .int z4), (1, .int x11), (0, .ref h0)] (by decide) rfl ?_
                      obtain ⟨z86, ez86⟩ : ∃ z_9, z4 + Int32.ofInt 1 = z_9 := ⟨_, rfl⟩
                      have tz86 : (Int32.toInt z86) = (Int32.toInt z4) + 1 := by rw [← ez86]; exact fb_addIv (a := 0) (b := 1501) (c := 1) (d := 1) ⟨i23a, i23b⟩ ⟨by decide, by decide⟩ (by decide) (by decide)
                      refine r_iinc 115 1 z86 C dX10_takeSettings_115 rfl ez86 [(3, .int z86), (2, .int r81), (1, .int x11), (0, .ref h0)] (by decide) rfl ?_
                      refine r_goto 118 12 C dX10_takeSettings_118 (by decide) ?_
                      refine r_pick [(h0, .inr (9, [.ref h1, .ref h2, .int z72, .int z73, .int z74, .int z9, .int z10, .int z75, .int z76, .int z77])), (h1, .inr (3, [.ref h2, .ref h7, .ref h3, .ref h8, .int x8, .int x9, .int x10])), (h3, .inr (7, [.ref h2, .ref h5, .ref h6, .int z14, .int x13, .int z15])), (h4, .inl (gB g, 1500, .inl f78)), (h5, .inl (gI g, 200, .inl f79)), (h6, .inl (gI g, 200, .inl f80)), (h2, .inr (4, [.ref h4, .int x11]))] [0, 1, 3, 4, 5, 6, 2] (by decide) rfl ?_
                      exact ih21 z86 r81 z72 z73 z74 z9 z10 z75 z76 z77 z14 z15 f78 f79 f80 ⟨by omega, by omega⟩ ⟨p84, p85⟩ ⟨i25a, i25b⟩ (by omega)
                · skip
                  have k87 : ¬ ((Int32.toInt r54) = 0) := fun h_9 => c58 ((fa_eq r54 0).mpr h_9)
                  refine r_aload_n 86 3 C dX10_takeSettings_86 rfl ?_
                  refine r_callVi 87 C dX10_takeSettings_87 [] [(h0, .inr (9, [.ref h1, .ref h2, .int z32, .int z33, .int z34, .int z9, .int z10, .int z11, .int z12, .int z13])), (h1, .inr (3, [.ref h2, .ref h7, .ref h3, .ref h8, .int x8, .int x9, .int x10])), (h2, .inr (4, [.ref h4, .int x11])), (h3, .inr (7, [.ref h2, .ref h5, .ref h6, .int z14, .int x13, .int z15])), (h4, .inl (gB g, 1500, .inl f16)), (h5, .inl (gI g, 200, .inl f17))] [(h6, .inl (gI g, 200, .inl f18))] (fun sz => c183_X10_takeLocals l g h0 h1 h2 h3 h4 h5 z32 z33 z34 z9 z10 z11 z12 z13 h7 h8 x8 x9 x10 x11 h6 z14 x13 z15 f16 f17 ⟨i25a, i25b⟩ i_x11 sz) gX10_takeSettings_X10_takeLocals rfl ⟨rfl, rfl⟩ 0 (by decide) ⟨Nat.le_of_ble_eq_true rfl, Nat.le_of_ble_eq_true rfl⟩ 4 rfl rfl [4, 0, 5, 1, 6, 2] [3] rfl rfl (by decide) (by decide) (by decide) rfl rfl (Nat.le_of_ble_eq_true rfl) ⟨Nat.le_of_ble_eq_true rfl, Nat.le_of_ble_eq_true rfl⟩ (fun r96 u98 w97 => ?_)
                  obtain ⟨z88, z89, z90, z91, z92, z93, z94, f95⟩ := u98
                  refine r_ws [(h6, .inl (gI g, 200, .inl f18)), (h0, .inr (9, [.ref h1, .ref h2, .int z88, .int z89, .int z90, .int z9, .int z91, .int z92, .int z12, .int z13])), (h1, .inr (3, [.ref h2, .ref h7, .ref h3, .ref h8, .int x8, .int x9, .int x10])), (h2, .inr (4, [.ref h4, .int x11])), (h3, .inr (7, [.ref h2, .ref h5, .ref h6, .int z93, .int x13, .int z94])), (h4, .inl (gB g, 1500, .inl f16)), (h5, .inl (gI g, 200, .inl f95))] rfl ?_
                  have gz88 := fb_rng z88
                  have gz89 := fb_rng z89
                  have gz90 := fb_rng z90
                  have gz92 := fb_rng z92
                  have gz93 := fb_rng z93
                  have gz94 := fb_rng z94
                  have p99 : 0 ≤ (Int32.toInt r96) := w97.1
                  have p100 : (Int32.toInt r96) ≤ 2 := w97.2.1
                  have p101 : 0 ≤ (Int32.toInt z91) := w97.2.2.1
                  have p102 : (Int32.toInt z91) ≤ 1 := w97.2.2.2
                  refine r_istore_n 90 C dX10_takeSettings_90 [(2, .int r96), (3, .int z4), (1, .int x11), (0, .ref h0)] (by decide) rfl ?_
                  refine r_goto 91 115 C dX10_takeSettings_91 (by decide) ?_
                  obtain ⟨z103, ez103⟩ : ∃ z_9, z4 + Int32.ofInt 1 = z_9 := ⟨_, rfl⟩
                  have tz103 : (Int32.toInt z103) = (Int32.toInt z4) + 1 := by rw [← ez103]; exact fb_addIv (a := 0) (b := 1501) (c := 1) (d := 1) ⟨i23a, i23b⟩ ⟨by decide, by decide⟩ (by decide) (by decide)
                  refine r_iinc 115 1 z103 C dX10_takeSettings_115 rfl ez103 [(3, .int z103), (2, .int r96), (1, .int x11), (0, .ref h0)] (by decide) rfl ?_
                  refine r_goto 118 12 C dX10_takeSettings_118 (by decide) ?_
                  refine r_pick [(h0, .inr (9, [.ref h1, .ref h2, .int z88, .int z89, .int z90, .int z9, .int z91, .int z92, .int z12, .int z13])), (h1, .inr (3, [.ref h2, .ref h7, .ref h3, .ref h8, .int x8, .int x9, .int x10])), (h3, .inr (7, [.ref h2, .ref h5, .ref h6, .int z93, .int x13, .int z94])), (h4, .inl (gB g, 1500, .inl f16)), (h5, .inl (gI g, 200, .inl f95)), (h6, .inl (gI g, 200, .inl f18)), (h2, .inr (4, [.ref h4, .int x11]))] [1, 2, 4, 5, 6, 0, 3] (by decide) rfl ?_
                  exact ih21 z103 r96 z88 z89 z90 z9 z91 z92 z12 z13 z93 z94 f16 f95 f18 ⟨by omega, by omega⟩ ⟨p99, p100⟩ ⟨p101, p102⟩ (by omega)
              · skip
                have k104 : ¬ ((Int32.toInt r48) = 0) := fun h_9 => c52 ((fa_eq r48 0).mpr h_9)
                refine r_aload_n 50 3 C dX10_takeSettings_50 rfl ?_
                refine r_callVi 51 C dX10_takeSettings_51 [] [(h0, .inr (9, [.ref h1, .ref h2, .int z32, .int z33, .int z34, .int z9, .int z10, .int z11, .int z12, .int z13])), (h2, .inr (4, [.ref h4, .int x11])), (h4, .inl (gB g, 1500, .inl f16))] [(h1, .inr (3, [.ref h2, .ref h7, .ref h3, .ref h8, .int x8, .int x9, .int x10])), (h3, .inr (7, [.ref h2, .ref h5, .ref h6, .int z14, .int x13, .int z15])), (h5, .inl (gI g, 200, .inl f17)), (h6, .inl (gI g, 200, .inl f18))] (fun sz => c154_X10_takeCount l g h0 h2 h4 h1 z32 z33 z34 z9 z10 z11 z12 z13 x11 f16 ⟨i25a, i25b⟩ i_x11 sz) gX10_takeSettings_X10_takeCount rfl ⟨rfl, rfl⟩ 0 (by decide) ⟨Nat.le_of_ble_eq_true rfl, Nat.le_of_ble_eq_true rfl⟩ 4 rfl rfl [4, 5, 6] [0, 1, 2, 3] rfl rfl (by decide) (by decide) (by decide) rfl rfl (Nat.le_of_ble_eq_true rfl) ⟨Nat.le_of_ble_eq_true rfl, Nat.le_of_ble_eq_true rfl⟩ (fun r109 u111 w110 => ?_)
                obtain ⟨z105, z106, z107, z108⟩ := u111
                refine r_ws [(h1, .inr (3, [.ref h2, .ref h7, .ref h3, .ref h8, .int x8, .int x9, .int x10])), (h3, .inr (7, [.ref h2, .ref h5, .ref h6, .int z14, .int x13, .int z15])), (h5, .inl (gI g, 200, .inl f17)), (h6, .inl (gI g, 200, .inl f18)), (h0, .inr (9, [.ref h1, .ref h2, .int z105, .int z106, .int z107, .int z9, .int z10, .int z108, .int z12, .int z13])), (h2, .inr (4, [.ref h4, .int x11])), (h4, .inl (gB g, 1500, .inl f16))] rfl ?_
                have gz105 := fb_rng z105
                have gz106 := fb_rng z106
                have gz107 := fb_rng z107
                have gz108 := fb_rng z108
                have p112 : 0 ≤ (Int32.toInt r109) := w110.1
                have p113 : (Int32.toInt r109) ≤ 2 := w110.2
                refine r_istore_n 54 C dX10_takeSettings_54 [(2, .int r109), (3, .int z4), (1, .int x11), (0, .ref h0)] (by decide) rfl ?_
                refine r_aload_n 55 3 C dX10_takeSettings_55 rfl ?_
                refine r_iload_n 56 0 C dX10_takeSettings_56 rfl ?_
                refine r_if_ne 57 67 C dX10_takeSettings_57 (by decide) (fun c114 => ?_) (fun c114 => ?_)
                · skip
                  have k115 : ¬ ((Int32.toInt r109) = 0) := fun h_9 => c114 ((fa_eq r109 0).mpr h_9)
                  refine r_aload_n 67 3 C dX10_takeSettings_67 rfl ?_
                  refine r_get 68 C dX10_takeSettings_68 (k := 5) 4 rfl rfl hiX10 (by decide) rfl (mg 3 rfl) (Or.inl rfl) rfl ?_
                  refine r_put 71 C dX10_takeSettings_71 (k := 5) 4 rfl rfl hiX10 tyX10 tyX10_ok nmX10 (by decide) rfl (mg 3 rfl) (Or.inl rfl) rfl rfl rfl rfl (Nat.le_of_ble_eq_true rfl) [(h1, .inr (3, [.ref h2, .ref h7, .ref h3, .ref h8, .int x8, .int x9, .int x10])), (h3, .inr (7, [.ref h2, .ref h5, .ref h6, .int z14, .int x13, .int z15])), (h5, .inl (gI g, 200, .inl f17)), (h6, .inl (gI g, 200, .inl f18)), (h0, .inr (9, [.ref h1, .ref h2, .int z105, .int z106, .int z107, .int z9, .int z10, .int z108, .int z12, .int z13])), (h2, .inr (4, [.ref h4, .int x11])), (h4, .inl (gB g, 1500, .inl f16))] rfl ?_
                  refine r_goto 74 115 C dX10_takeSettings_74 (by decide) ?_
                  obtain ⟨z116, ez116⟩ : ∃ z_9, z4 + Int32.ofInt 1 = z_9 := ⟨_, rfl⟩
                  have tz116 : (Int32.toInt z116) = (Int32.toInt z4) + 1 := by rw [← ez116]; exact fb_addIv (a := 0) (b := 1501) (c := 1) (d := 1) ⟨i23a, i23b⟩ ⟨by decide, by decide⟩ (by decide) (by decide)
                  refine r_iinc 115 1 z116 C dX10_takeSettings_115 rfl ez116 [(3, .int z116), (2, .int r109), (1, .int x11), (0, .ref h0)] (by decide) rfl ?_
                  refine r_goto 118 12 C dX10_takeSettings_118 (by decide) ?_
                  refine r_pick [(h0, .inr (9, [.ref h1, .ref h2, .int z105, .int z106, .int z107, .int z9, .int z10, .int z108, .int z12, .int z13])), (h1, .inr (3, [.ref h2, .ref h7, .ref h3, .ref h8, .int x8, .int x9, .int x10])), (h3, .inr (7, [.ref h2, .ref h5, .ref h6, .int z14, .int x13, .int z15])), (h4, .inl (gB g, 1500, .inl f16)), (h5, .inl (gI g, 200, .inl f17)), (h6, .inl (gI g, 200, .inl f18)), (h2, .inr (4, [.ref h4, .int x11]))] [4, 0, 1, 6, 2, 3, 5] (by decide) rfl ?_
                  exact ih21 z116 r109 z105 z106 z107 z9 z10 z108 z12 z13 z14 z15 f16 f17 f18 ⟨by omega, by omega⟩ ⟨p112, p113⟩ ⟨i25a, i25b⟩ (by omega)
                · skip
                  have k117 : (Int32.toInt r109) = 0 := (fa_eq r109 0).mp c114
                  refine r_aload_n 60 3 C dX10_takeSettings_60 rfl ?_
                  refine r_get 61 C dX10_takeSettings_61 (k := 7) 4 rfl rfl hiX10 (by decide) rfl (mg 2 rfl) (Or.inl rfl) rfl ?_
                  refine r_goto 64 71 C dX10_takeSettings_64 (by decide) ?_
                  refine r_put 71 C dX10_takeSettings_71 (k := 5) 4 rfl rfl hiX10 tyX10 tyX10_ok nmX10 (by decide) rfl (mg 3 rfl) (Or.inl rfl) rfl rfl rfl rfl (Nat.le_of_ble_eq_true rfl) [(h1, .inr (3, [.ref h2, .ref h7, .ref h3, .ref h8, .int x8, .int x9, .int x10])), (h3, .inr (7, [.ref h2, .ref h5, .ref h6, .int z14, .int x13, .int z15])), (h5, .inl (gI g, 200, .inl f17)), (h6, .inl (gI g, 200, .inl f18)), (h0, .inr (9, [.ref h1, .ref h2, .int z105, .int z106, .int z107, .int z108, .int z10, .int z108, .int z12, .int z13])), (h2, .inr (4, [.ref h4, .int x11])), (h4, .inl (gB g, 1500, .inl f16))] rfl ?_
                  refine r_goto 74 115 C dX10_takeSettings_74 (by decide) ?_
                  obtain ⟨z118, ez118⟩ : ∃ z_9, z4 + Int32.ofInt 1 = z_9 := ⟨_, rfl⟩
                  have tz118 : (Int32.toInt z118) = (Int32.toInt z4) + 1 := by rw [← ez118]; exact fb_addIv (a := 0) (b := 1501) (c := 1) (d := 1) ⟨i23a, i23b⟩ ⟨by decide, by decide⟩ (by decide) (by decide)
                  refine r_iinc 115 1 z118 C dX10_takeSettings_115 rfl ez118 [(3, .int z118), (2, .int r109), (1, .int x11), (0, .ref h0)] (by decide) rfl ?_
                  refine r_goto 118 12 C dX10_takeSettings_118 (by decide) ?_
                  refine r_pick [(h0, .inr (9, [.ref h1, .ref h2, .int z105, .int z106, .int z107, .int z108, .int z10, .int z108, .int z12, .int z13])), (h1, .inr (3, [.ref h2, .ref h7, .ref h3, .ref h8, .int x8, .int x9, .int x10])), (h3, .inr (7, [.ref h2, .ref h5, .ref h6, .int z14, .int x13, .int z15])), (h4, .inl (gB g, 1500, .inl f16)), (h5, .inl (gI g, 200, .inl f17)), (h6, .inl (gI g, 200, .inl f18)), (h2, .inr (4, [.ref h4, .int x11]))] [4, 0, 1, 6, 2, 3, 5] (by decide) rfl ?_
                  exact ih21 z118 r109 z105 z106 z107 z108 z10 z108 z12 z13 z14 z15 f16 f17 f18 ⟨by omega, by omega⟩ ⟨p112, p113⟩ ⟨i25a, i25b⟩ (by omega)
            · skip
              have k119 : ¬ ((Int32.toInt r42) = 0) := fun h_9 => c46 ((fa_eq r42 0).mpr h_9)
              refine r_iconst 39 0 C dX10_takeSettings_39 (by decide) ?_
              exact r_iret 40 Rt dX10_takeSettings_40 (z32, z33, z34, z9, z10, z11, z12, z13, z14, z15, f16, f17, f18) (show 0 ≤ (Int32.toInt 0) ∧ (Int32.toInt 0) ≤ 2 ∧ 0 ≤ (Int32.toInt z10) ∧ (Int32.toInt z10) ≤ 1 from ⟨(by ((repeat' apply And.intro) <;> first | trivial | rfl | assumption | omega | decide | exact Or.inl rfl | exact Or.inr (Or.inl rfl) | exact Or.inr (Or.inr rfl))), (by ((repeat' apply And.intro) <;> first | trivial | rfl | assumption | omega | decide | exact Or.inl rfl | exact Or.inr (Or.inl rfl) | exact Or.inr (Or.inr rfl))), (show _ ∧ _ from ⟨i25a, i25b⟩).1, (show _ ∧ _ from ⟨i25a, i25b⟩).2⟩) [4, 0, 5, 1, 6, 2, 3] (by decide) rfl (Nat.le_of_ble_eq_true rfl) (Nat.le_of_ble_eq_true rfl)
          · skip
            have k120 : (Int32.toInt r35) = 0 := (fa_eq r35 0).mp c40
            refine r_iconst 28 1 C dX10_takeSettings_28 (by decide) ?_
            exact r_iret 29 Rt dX10_takeSettings_29 (z32, z33, z34, z9, z10, z11, z12, z13, z14, z15, f16, f17, f18) (show 0 ≤ (Int32.toInt 1) ∧ (Int32.toInt 1) ≤ 2 ∧ 0 ≤ (Int32.toInt z10) ∧ (Int32.toInt z10) ≤ 1 from ⟨(by ((repeat' apply And.intro) <;> first | trivial | rfl | assumption | omega | decide | exact Or.inl rfl | exact Or.inr (Or.inl rfl) | exact Or.inr (Or.inr rfl))), (by ((repeat' apply And.intro) <;> first | trivial | rfl | assumption | omega | decide | exact Or.inl rfl | exact Or.inr (Or.inl rfl) | exact Or.inr (Or.inr rfl))), (show _ ∧ _ from ⟨i25a, i25b⟩).1, (show _ ∧ _ from ⟨i25a, i25b⟩).2⟩) [4, 0, 5, 1, 6, 2, 3] (by decide) rfl (Nat.le_of_ble_eq_true rfl) (Nat.le_of_ble_eq_true rfl)
  exact lp20 _ 0 0 x0 x1 x2 x3 x4 x5 x6 x7 x12 x14 fn0 fn1 fn2 (by decide) (by decide) i_x4 (Nat.lt_succ_self _)
set_option maxHeartbeats 4000000 in
set_option maxRecDepth 100000 in
theorem c185_J0_coder_7d493 (l : Launch) (g : GD) (sz : Nat) : Met l yJ0_coder_7d493 wsJ0_coder_7d493 ({ frames := 0, cells := 0, slots := 0, locals := 0 }) (va_Pc [.ref (g.2.2.1 6)] (PW g [] sz)) (va_Qi (fun (r : Int32) (_ : Unit) => r = 0) (BW g (va_A [] sz) (fun _ : Unit => [])) (va_A [] sz)) 0 0 (va_A [] sz) := by
  refine met_b RJ0 (by decide) rfl rfl (Nat.le_of_ble_eq_true rfl) [(0, .ref (g.2.2.1 6))] rfl ?_
  intro p e s m args below meth c A Q C hnm Rt
  refine r_gets 0 C dJ0_coder_7d493_0 C.2.2.2.2.2.1.2.2.2.2.1 (mg 1 rfl) ?_
  refine r_if_eq_f 3 13 C dJ0_coder_7d493_3 (by decide) (by decide) ?_
  refine r_aload_n 6 0 C dJ0_coder_7d493_6 rfl ?_
  refine r_sget 7 6 C dJ0_coder_7d493_7 ((C.2.2.2.2.2.1.2.2.1.1 6 (by decide)).2.1) (mg 2 rfl) ?_
  refine r_goto 10 14 C dJ0_coder_7d493_10 (by decide) ?_
  exact r_bret 14 Rt dJ0_coder_7d493_14 (by decide) () (show 0 = 0 from (by ((repeat' apply And.intro) <;> first | trivial | rfl | assumption | omega | decide | exact Or.inl rfl | exact Or.inr (Or.inl rfl) | exact Or.inr (Or.inr rfl)))) [] (by decide) rfl (Nat.le_of_ble_eq_true rfl) (Nat.le_of_ble_eq_true rfl)
set_option maxHeartbeats 4000000 in
set_option maxRecDepth 100000 in
theorem c186_J0_length_8abf5 (l : Launch) (g : GD) (sz : Nat) : Met l yJ0_length_8abf5 wsJ0_length_8abf5 ({ frames := 1, cells := 0, slots := 0, locals := 20 }) (va_Pc [.ref (g.2.2.1 6)] (PW g [] sz)) (va_Qi (fun (r : Int32) (_ : Unit) => r = 4) (BW g (va_A [] sz) (fun _ : Unit => [])) (va_A [] sz)) 0 0 (va_A [] sz) := by
  refine met_i RJ0 (by decide) rfl rfl (Nat.le_of_ble_eq_true rfl) [(0, .ref (g.2.2.1 6))] rfl ?_
  intro p e s m args below meth c A Q C hnm Rt
  refine r_aload_n 0 0 C dJ0_length_8abf5_0 rfl ?_
  refine r_sget 1 6 C dJ0_length_8abf5_1 ((C.2.2.2.2.2.1.2.2.1.1 6 (by decide)).2.2.1) (mg 1 rfl) ?_
  refine r_stlen 4 4 C dJ0_length_8abf5_4 ((C.2.2.2.2.2.1.2.2.1.1 6 (by decide)).2.2.2) (by decide) ?_
  refine r_aload_n 5 0 C dJ0_length_8abf5_5 rfl ?_
  refine r_scallVi 6 C dJ0_length_8abf5_6 [.int 4] 6 (by decide) [] [] (fun sz => c185_J0_coder_7d493 l g   sz) gJ0_length_8abf5_J0_coder_7d493 rfl ⟨rfl, rfl⟩ 0 (by decide) ⟨Nat.le_of_ble_eq_true rfl, Nat.le_of_ble_eq_true rfl⟩ [] [] rfl rfl (by decide) (by decide) (by decide) rfl rfl (Nat.le_of_ble_eq_true rfl) ⟨Nat.le_of_ble_eq_true rfl, Nat.le_of_ble_eq_true rfl⟩ (fun r1 _ w2 => ?_)
  refine r_ws [] rfl ?_
  have p3 : 0 = r1 := (w2).symm
  subst p3
  refine r_ishr 9 4 C dJ0_length_8abf5_9 (by decide) ?_
  exact r_iret 10 Rt dJ0_length_8abf5_10 () (show 4 = 4 from (by ((repeat' apply And.intro) <;> first | trivial | rfl | assumption | omega | decide | exact Or.inl rfl | exact Or.inr (Or.inl rfl) | exact Or.inr (Or.inr rfl)))) [] (by decide) rfl (Nat.le_of_ble_eq_true rfl) (Nat.le_of_ble_eq_true rfl)
set_option maxHeartbeats 4000000 in
set_option maxRecDepth 100000 in
theorem c187_J0_isLatin1_aae02 (l : Launch) (g : GD) (sz : Nat) : Met l yJ0_isLatin1_aae02 wsJ0_isLatin1_aae02 ({ frames := 0, cells := 0, slots := 0, locals := 0 }) (va_Pc [.ref (g.2.2.1 6)] (PW g [] sz)) (va_Qi (fun (r : Int32) (_ : Unit) => r = 1) (BW g (va_A [] sz) (fun _ : Unit => [])) (va_A [] sz)) 0 0 (va_A [] sz) := by
  refine met_z RJ0 (by decide) rfl rfl (Nat.le_of_ble_eq_true rfl) [(0, .ref (g.2.2.1 6))] rfl ?_
  intro p e s m args below meth c A Q C hnm Rt
  refine r_gets 0 C dJ0_isLatin1_aae02_0 C.2.2.2.2.2.1.2.2.2.2.1 (mg 1 rfl) ?_
  refine r_if_eq_f 3 17 C dJ0_isLatin1_aae02_3 (by decide) (by decide) ?_
  refine r_aload_n 6 0 C dJ0_isLatin1_aae02_6 rfl ?_
  refine r_sget 7 6 C dJ0_isLatin1_aae02_7 ((C.2.2.2.2.2.1.2.2.1.1 6 (by decide)).2.1) (mg 2 rfl) ?_
  refine r_if_ne_f 10 17 C dJ0_isLatin1_aae02_10 (by decide) (by decide) ?_
  refine r_iconst 13 1 C dJ0_isLatin1_aae02_13 (by decide) ?_
  refine r_goto 14 18 C dJ0_isLatin1_aae02_14 (by decide) ?_
  exact r_zret 18 Rt dJ0_isLatin1_aae02_18 (by decide) () (show 1 = 1 from (by ((repeat' apply And.intro) <;> first | trivial | rfl | assumption | omega | decide | exact Or.inl rfl | exact Or.inr (Or.inl rfl) | exact Or.inr (Or.inr rfl)))) [] (by decide) rfl (Nat.le_of_ble_eq_true rfl) (Nat.le_of_ble_eq_true rfl)
set_option maxHeartbeats 4000000 in
set_option maxRecDepth 100000 in
theorem c188_J3_checkIndex_8e157 (l : Launch) (g : GD) (x0 : Int32) (i_x0 : (0 ≤ (Int32.toInt x0) ∧ (Int32.toInt x0) ≤ 3)) (sz : Nat) : Met l yJ3_checkIndex_8e157 wsJ3_checkIndex_8e157 ({ frames := 0, cells := 0, slots := 0, locals := 0 }) (va_Pc [.int x0, .int 4, .null] (PW g [] sz)) (va_Qi (fun (r : Int32) (_ : Unit) => r = x0) (BW g (va_A [] sz) (fun _ : Unit => [])) (va_A [] sz)) 0 0 (va_A [] sz) := by
  refine met_i RJ3 (by decide) rfl rfl (Nat.le_of_ble_eq_true rfl) [(0, .int x0), (1, .int 4), (2, .null)] rfl ?_
  intro p e s m args below meth c A Q C hnm Rt
  refine r_iload_n 0 0 C dJ3_checkIndex_8e157_0 rfl ?_
  refine r_if_lt_f 1 9 C dJ3_checkIndex_8e157_1 (by decide) (fun h_9 => by have h_8 : (Int32.toInt x0) < 0 := (fa_lt x0 0).mp h_9; omega) ?_
  refine r_iload_n 4 0 C dJ3_checkIndex_8e157_4 rfl ?_
  refine r_iload_n 5 1 C dJ3_checkIndex_8e157_5 rfl ?_
  refine r_icmp_lt_t 6 16 C dJ3_checkIndex_8e157_6 (by decide) ((fa_lt x0 4).mpr (by show (Int32.toInt x0) < 4; omega)) ?_
  refine r_iload_n 16 0 C dJ3_checkIndex_8e157_16 rfl ?_
  exact r_iret 17 Rt dJ3_checkIndex_8e157_17 () (show x0 = x0 from (by ((repeat' apply And.intro) <;> first | trivial | rfl | assumption | omega | decide | exact Or.inl rfl | exact Or.inr (Or.inl rfl) | exact Or.inr (Or.inr rfl)))) [] (by decide) rfl (Nat.le_of_ble_eq_true rfl) (Nat.le_of_ble_eq_true rfl)
set_option maxHeartbeats 4000000 in
set_option maxRecDepth 100000 in
theorem c189_J3_checkIndex_8e157 (l : Launch) (g : GD) (x0 : Int32) (h0 : Nat) (i_x0 : (0 ≤ (Int32.toInt x0) ∧ (Int32.toInt x0) ≤ 3)) (sz : Nat) : Met l yJ3_checkIndex_8e157 wsJ3_checkIndex_8e157 ({ frames := 0, cells := 0, slots := 0, locals := 0 }) (va_Pc [.int x0, .int 4, .ref h0] (PW g [] sz)) (va_Qi (fun (r : Int32) (_ : Unit) => r = x0) (BW g (va_A [] sz) (fun _ : Unit => [])) (va_A [] sz)) 0 0 (va_A [] sz) := by
  refine met_i RJ3 (by decide) rfl rfl (Nat.le_of_ble_eq_true rfl) [(0, .int x0), (1, .int 4), (2, .ref h0)] rfl ?_
  intro p e s m args below meth c A Q C hnm Rt
  refine r_iload_n 0 0 C dJ3_checkIndex_8e157_0 rfl ?_
  refine r_if_lt_f 1 9 C dJ3_checkIndex_8e157_1 (by decide) (fun h_9 => by have h_8 : (Int32.toInt x0) < 0 := (fa_lt x0 0).mp h_9; omega) ?_
  refine r_iload_n 4 0 C dJ3_checkIndex_8e157_4 rfl ?_
  refine r_iload_n 5 1 C dJ3_checkIndex_8e157_5 rfl ?_
  refine r_icmp_lt_t 6 16 C dJ3_checkIndex_8e157_6 (by decide) ((fa_lt x0 4).mpr (by show (Int32.toInt x0) < 4; omega)) ?_
  refine r_iload_n 16 0 C dJ3_checkIndex_8e157_16 rfl ?_
  exact r_iret 17 Rt dJ3_checkIndex_8e157_17 () (show x0 = x0 from (by ((repeat' apply And.intro) <;> first | trivial | rfl | assumption | omega | decide | exact Or.inl rfl | exact Or.inr (Or.inl rfl) | exact Or.inr (Or.inr rfl)))) [] (by decide) rfl (Nat.le_of_ble_eq_true rfl) (Nat.le_of_ble_eq_true rfl)
set_option maxHeartbeats 4000000 in
set_option maxRecDepth 100000 in
theorem c190_J0_checkIndex_df160 (l : Launch) (g : GD) (x0 : Int32) (i_x0 : (0 ≤ (Int32.toInt x0) ∧ (Int32.toInt x0) ≤ 3)) (sz : Nat) : Met l yJ0_checkIndex_df160 wsJ0_checkIndex_df160 ({ frames := 1, cells := 0, slots := 0, locals := 22 }) (va_Pc [.int x0, .int 4] (PW g [] sz)) (va_Qv (fun (_ : Unit) => True) (BW g (va_A [] sz) (fun _ : Unit => [])) (va_A [] sz)) 0 0 (va_A [] sz) := by
  refine met_v RJ0 (by decide) rfl rfl (Nat.le_of_ble_eq_true rfl) [(0, .int x0), (1, .int 4)] rfl ?_
  intro p e s m args below meth c A Q C hnm Rt
  refine r_iload_n 0 0 C dJ0_checkIndex_df160_0 rfl ?_
  refine r_iload_n 1 1 C dJ0_checkIndex_df160_1 rfl ?_
  refine r_getsq2 2 C dJ0_checkIndex_df160_2 C.2.2.2.2.2.1.2.2.2.2.2 (mg 1 rfl) ?_ (fun q1 => ?_)
  · skip
    refine r_callSi 5 C dJ0_checkIndex_df160_5 [] [] [] (fun sz => c188_J3_checkIndex_8e157 l g x0 i_x0 sz) gJ0_checkIndex_df160_J3_checkIndex_8e157 rfl ⟨rfl, rfl⟩ 3 (by decide) ⟨Nat.le_of_ble_eq_true rfl, Nat.le_of_ble_eq_true rfl⟩ [] [] rfl rfl (by decide) (by decide) (by decide) rfl rfl (Nat.le_of_ble_eq_true rfl) ⟨Nat.le_of_ble_eq_true rfl, Nat.le_of_ble_eq_true rfl⟩ (fun r2 _ w3 => ?_)
    refine r_ws [] rfl ?_
    have p4 : x0 = r2 := (w3).symm
    subst p4
    refine r_pop 8 C dJ0_checkIndex_df160_8 rfl ?_
    exact r_vret 9 Rt dJ0_checkIndex_df160_9 () trivial [] (by decide) rfl (Nat.le_of_ble_eq_true rfl) (Nat.le_of_ble_eq_true rfl)
  · skip
    refine r_callSi 5 C dJ0_checkIndex_df160_5 [] [] [] (fun sz => c189_J3_checkIndex_8e157 l g x0 q1 i_x0 sz) gJ0_checkIndex_df160_J3_checkIndex_8e157 rfl ⟨rfl, rfl⟩ 3 (by decide) ⟨Nat.le_of_ble_eq_true rfl, Nat.le_of_ble_eq_true rfl⟩ [] [] rfl rfl (by decide) (by decide) (by decide) rfl rfl (Nat.le_of_ble_eq_true rfl) ⟨Nat.le_of_ble_eq_true rfl, Nat.le_of_ble_eq_true rfl⟩ (fun r5 _ w6 => ?_)
    refine r_ws [] rfl ?_
    have p7 : x0 = r5 := (w6).symm
    subst p7
    refine r_pop 8 C dJ0_checkIndex_df160_8 rfl ?_
    exact r_vret 9 Rt dJ0_checkIndex_df160_9 () trivial [] (by decide) rfl (Nat.le_of_ble_eq_true rfl) (Nat.le_of_ble_eq_true rfl)
set_option maxHeartbeats 4000000 in
set_option maxRecDepth 100000 in
theorem c191_J1_charAt_3b067 (l : Launch) (g : GD) (x0 : Int32) (i_x0 : (0 ≤ (Int32.toInt x0) ∧ (Int32.toInt x0) ≤ 3)) (sz : Nat) : Met l yJ1_charAt_3b067 wsJ1_charAt_3b067 ({ frames := 2, cells := 0, slots := 0, locals := 43 }) (va_Pc [.ref (g.2.2.2 6), .int x0] (PW g [] sz)) (va_Qi (fun (r : Int32) (_ : Unit) => 0 ≤ (Int32.toInt r) ∧ (Int32.toInt r) ≤ 65535) (BW g (va_A [] sz) (fun _ : Unit => [])) (va_A [] sz)) 0 0 (va_A [] sz) := by
  refine met_c RJ1 (by decide) rfl rfl (Nat.le_of_ble_eq_true rfl) [(0, .ref (g.2.2.2 6)), (1, .int x0)] rfl ?_
  intro p e s m args below meth c A Q C hnm Rt
  refine r_iload_n 0 1 C dJ1_charAt_3b067_0 rfl ?_
  refine r_aload_n 1 0 C dJ1_charAt_3b067_1 rfl ?_
  refine r_stlen 2 4 C dJ1_charAt_3b067_2 ((C.2.2.2.2.2.1.2.2.1.1 6 (by decide)).2.2.2) (by decide) ?_
  refine r_callSv 3 C dJ1_charAt_3b067_3 [] [] [] (fun sz => c190_J0_checkIndex_df160 l g x0 i_x0 sz) gJ1_charAt_3b067_J0_checkIndex_df160 rfl ⟨rfl, rfl⟩ 2 (by decide) ⟨Nat.le_of_ble_eq_true rfl, Nat.le_of_ble_eq_true rfl⟩ [] [] rfl rfl (by decide) (by decide) (by decide) rfl rfl (Nat.le_of_ble_eq_true rfl) ⟨Nat.le_of_ble_eq_true rfl, Nat.le_of_ble_eq_true rfl⟩ (fun  _ w1 => ?_)
  refine r_ws [] rfl ?_
  refine r_aload_n 6 0 C dJ1_charAt_3b067_6 rfl ?_
  refine r_iload_n 7 1 C dJ1_charAt_3b067_7 rfl ?_
  obtain ⟨z2, ez2⟩ : ∃ z_9, (stB.getD 6 []).getD (Int32.toNatClampNeg x0) 0 = z_9 := ⟨_, rfl⟩
  refine r_stb 8 (.int z2) C dJ1_charAt_3b067_8 ((C.2.2.2.2.2.1.2.2.1.1 6 (by decide)).2.2.2) (vinI (n := 4) (by omega) (by omega)) (by rw [← ez2]) ?_
  have gz2 := fb_rng z2
  refine r_sipush 9 255 C dJ1_charAt_3b067_9 (by decide) ?_
  obtain ⟨z3, ez3⟩ : ∃ z_9, z2 &&& 255 = z_9 := ⟨_, rfl⟩
  have tz3 : 0 ≤ (Int32.toInt z3) ∧ (Int32.toInt z3) ≤ 255 := by rw [← ez3]; exact and_255 z2
  refine r_iand 12 z3 C dJ1_charAt_3b067_12 ez3 ?_
  obtain ⟨z4, ez4⟩ : ∃ z_9, (Int32.toUInt32 z3 % 65536).toInt32 = z_9 := ⟨_, rfl⟩
  have tz4 : 0 ≤ (Int32.toInt z4) ∧ (Int32.toInt z4) ≤ 65535 := by rw [← ez4]; exact chr_in _
  refine r_i2c 13 z4 C dJ1_charAt_3b067_13 ez4 ?_
  exact r_cret 14 Rt dJ1_charAt_3b067_14 (by rw [← ez4]; exact pk_nc _) () (show 0 ≤ (Int32.toInt z4) ∧ (Int32.toInt z4) ≤ 65535 from ⟨(by ((repeat' apply And.intro) <;> first | trivial | rfl | assumption | omega | decide | exact Or.inl rfl | exact Or.inr (Or.inl rfl) | exact Or.inr (Or.inr rfl))), (by ((repeat' apply And.intro) <;> first | trivial | rfl | assumption | omega | decide | exact Or.inl rfl | exact Or.inr (Or.inl rfl) | exact Or.inr (Or.inr rfl)))⟩) [] (by decide) rfl (Nat.le_of_ble_eq_true rfl) (Nat.le_of_ble_eq_true rfl)
set_option maxHeartbeats 4000000 in
set_option maxRecDepth 100000 in
theorem c192_J0_charAt_5068e (l : Launch) (g : GD) (x0 : Int32) (i_x0 : (0 ≤ (Int32.toInt x0) ∧ (Int32.toInt x0) ≤ 3)) (sz : Nat) : Met l yJ0_charAt_5068e wsJ0_charAt_5068e ({ frames := 3, cells := 0, slots := 0, locals := 64 }) (va_Pc [.ref (g.2.2.1 6), .int x0] (PW g [] sz)) (va_Qi (fun (r : Int32) (_ : Unit) => 0 ≤ (Int32.toInt r) ∧ (Int32.toInt r) ≤ 65535) (BW g (va_A [] sz) (fun _ : Unit => [])) (va_A [] sz)) 0 0 (va_A [] sz) := by
  refine met_c RJ0 (by decide) rfl rfl (Nat.le_of_ble_eq_true rfl) [(0, .ref (g.2.2.1 6)), (1, .int x0)] rfl ?_
  intro p e s m args below meth c A Q C hnm Rt
  refine r_aload_n 0 0 C dJ0_charAt_5068e_0 rfl ?_
  refine r_scallVi 1 C dJ0_charAt_5068e_1 [] 6 (by decide) [] [] (fun sz => c187_J0_isLatin1_aae02 l g   sz) gJ0_charAt_5068e_J0_isLatin1_aae02 rfl ⟨rfl, rfl⟩ 0 (by decide) ⟨Nat.le_of_ble_eq_true rfl, Nat.le_of_ble_eq_true rfl⟩ [] [] rfl rfl (by decide) (by decide) (by decide) rfl rfl (Nat.le_of_ble_eq_true rfl) ⟨Nat.le_of_ble_eq_true rfl, Nat.le_of_ble_eq_true rfl⟩ (fun r1 _ w2 => ?_)
  refine r_ws [] rfl ?_
  have p3 : 1 = r1 := (w2).symm
  subst p3
  refine r_if_eq_f 4 16 C dJ0_charAt_5068e_4 (by decide) (by decide) ?_
  refine r_aload_n 7 0 C dJ0_charAt_5068e_7 rfl ?_
  refine r_sget 8 6 C dJ0_charAt_5068e_8 ((C.2.2.2.2.2.1.2.2.1.1 6 (by decide)).2.2.1) (mg 1 rfl) ?_
  refine r_iload_n 11 1 C dJ0_charAt_5068e_11 rfl ?_
  refine r_callSi 12 C dJ0_charAt_5068e_12 [] [] [] (fun sz => c191_J1_charAt_3b067 l g x0 i_x0 sz) gJ0_charAt_5068e_J1_charAt_3b067 rfl ⟨rfl, rfl⟩ 2 (by decide) ⟨Nat.le_of_ble_eq_true rfl, Nat.le_of_ble_eq_true rfl⟩ [] [] rfl rfl (by decide) (by decide) (by decide) rfl rfl (Nat.le_of_ble_eq_true rfl) ⟨Nat.le_of_ble_eq_true rfl, Nat.le_of_ble_eq_true rfl⟩ (fun r4 _ w5 => ?_)
  refine r_ws [] rfl ?_
  have p6 : 0 ≤ (Int32.toInt r4) := w5.1
  have p7 : (Int32.toInt r4) ≤ 65535 := w5.2
  exact r_cret 15 Rt dJ0_charAt_5068e_15 (nc_in (by omega) (by omega)) () (show 0 ≤ (Int32.toInt r4) ∧ (Int32.toInt r4) ≤ 65535 from ⟨(show _ ∧ _ from ⟨p6, p7⟩).1, (show _ ∧ _ from ⟨p6, p7⟩).2⟩) [] (by decide) rfl (Nat.le_of_ble_eq_true rfl) (Nat.le_of_ble_eq_true rfl)
set_option maxHeartbeats 4000000 in
set_option maxRecDepth 100000 in
theorem c193_X10_isAt (l : Launch) (g : GD) (h0 : Nat) (h1 : Nat) (x0 : Int32) (x1 : Int32) (fn0 : Nat → Int32) (i_x1 : (0 ≤ (Int32.toInt x1) ∧ (Int32.toInt x1) ≤ 1500)) (sz : Nat) : Met l yX10_isAt wsX10_isAt ({ frames := 4, cells := 0, slots := 0, locals := 85 }) (va_Pc [.ref h0, .int x0, .ref (g.2.2.1 6)] (PW g [(h0, .inr (4, [.ref h1, .int x1])), (h1, .inl (gB g, 1500, .inl fn0))] sz)) (va_Qi (fun (r : Int32) (_ : Unit) => 0 ≤ (Int32.toInt r) ∧ (Int32.toInt r) ≤ 1) (BW g (va_A [(h0, .inr (4, [.ref h1, .int x1])), (h1, .inl (gB g, 1500, .inl fn0))] sz) (fun _ : Unit => [(h0, .inr (4, [.ref h1, .int x1])), (h1, .inl (gB g, 1500, .inl fn0))])) (va_A [(h0, .inr (4, [.ref h1, .int x1])), (h1, .inl (gB g, 1500, .inl fn0))] sz)) 0 0 (va_A [(h0, .inr (4, [.ref h1, .int x1])), (h1, .inl (gB g, 1500, .inl fn0))] sz) := by
  refine met_z RX10 (by decide) rfl rfl (Nat.le_of_ble_eq_true rfl) [(0, .ref h0), (1, .int x0), (2, .ref (g.2.2.1 6))] rfl ?_
  intro p e s m args below meth c A Q C hnm Rt
  refine r_iconst 0 0 C dX10_isAt_0 (by decide) ?_
  refine r_istore_n 1 C dX10_isAt_1 [(3, .int 0), (0, .ref h0), (1, .int x0), (2, .ref (g.2.2.1 6))] (by decide) rfl ?_
  have lp3 : ∀ (n2 : Nat) (z1 : Int32), (0 ≤ (Int32.toInt z1) ∧ (Int32.toInt z1) ≤ 4) → Int.toNat (4 - (Int32.toInt z1)) < n2 → WW p l e ({ frames := 4, cells := 0, slots := 0, locals := 85 } : Room) s m args below meth c A Q g 4 0 0 [(h0, .inr (4, [.ref h1, .int x1])), (h1, .inl (gB g, 1500, .inl fn0))] 2 [(3, .int z1), (0, .ref h0), (1, .int x0), (2, .ref (g.2.2.1 6))] [] := by
    intro n2
    induction n2 with
    | zero => intro z1 i6 hm5; exact absurd hm5 (Nat.not_lt_zero _)
    | succ n2 ih4 =>
      intro z1 i6 hm5
      obtain ⟨i6a, i6b⟩ := i6
      refine r_iload_n 2 0 C dX10_isAt_2 rfl ?_
      refine r_aload_n 3 3 C dX10_isAt_3 rfl ?_
      refine r_scallVi 4 C dX10_isAt_4 [.int z1] 6 (by decide) [] [(h0, .inr (4, [.ref h1, .int x1])), (h1, .inl (gB g, 1500, .inl fn0))] (fun sz => c186_J0_length_8abf5 l g   sz) gX10_isAt_J0_length_8abf5 rfl ⟨rfl, rfl⟩ 0 (by decide) ⟨Nat.le_of_ble_eq_true rfl, Nat.le_of_ble_eq_true rfl⟩ [] [0, 1] rfl rfl (by decide) (by decide) (by decide) rfl rfl (Nat.le_of_ble_eq_true rfl) ⟨Nat.le_of_ble_eq_true rfl, Nat.le_of_ble_eq_true rfl⟩ (fun r7 _ w8 => ?_)
      refine r_ws [(h0, .inr (4, [.ref h1, .int x1])), (h1, .inl (gB g, 1500, .inl fn0))] rfl ?_
      have p9 : 4 = r7 := (w8).symm
      subst p9
      refine r_icmp_ge 7 34 C dX10_isAt_7 (by decide) (fun c10 => ?_) (fun c10 => ?_)
      · skip
        have k11 : 4 ≤ (Int32.toInt z1) := (fa_le 4 z1).mp c10
        refine r_iconst 34 1 C dX10_isAt_34 (by decide) ?_
        exact r_zret 35 Rt dX10_isAt_35 (by decide) () (show 0 ≤ (Int32.toInt 1) ∧ (Int32.toInt 1) ≤ 1 from ⟨(by ((repeat' apply And.intro) <;> first | trivial | rfl | assumption | omega | decide | exact Or.inl rfl | exact Or.inr (Or.inl rfl) | exact Or.inr (Or.inr rfl))), (by ((repeat' apply And.intro) <;> first | trivial | rfl | assumption | omega | decide | exact Or.inl rfl | exact Or.inr (Or.inl rfl) | exact Or.inr (Or.inr rfl)))⟩) [0, 1] (by decide) rfl (Nat.le_of_ble_eq_true rfl) (Nat.le_of_ble_eq_true rfl)
      · skip
        have k12 : ¬ (4 ≤ (Int32.toInt z1)) := fun h_9 => c10 ((fa_le 4 z1).mpr h_9)
        refine r_aload_n 10 1 C dX10_isAt_10 rfl ?_
        refine r_iload_n 11 2 C dX10_isAt_11 rfl ?_
        refine r_iload_n 12 0 C dX10_isAt_12 rfl ?_
        obtain ⟨z13, ez13⟩ : ∃ z_9, x0 + z1 = z_9 := ⟨_, rfl⟩
        have gz13 := fb_rng z13
        refine r_iadd 13 z13 C dX10_isAt_13 ez13 ?_
        obtain ⟨z14, ez14⟩ : ∃ z_9, Int32.toInt64 z13 = z_9 := ⟨_, rfl⟩
        have tz14 : (Int64.toInt z14) = (Int32.toInt z13) := by rw [← ez14]; exact Int32.toInt_toInt64 _
        refine r_i2l 14 z14 C dX10_isAt_14 ez14 ?_
        refine r_callVi 15 C dX10_isAt_15 [] [(h0, .inr (4, [.ref h1, .int x1])), (h1, .inl (gB g, 1500, .inl fn0))] [] (fun sz => c14_X5_get l g h0 h1 z14 x1 fn0 i_x1 sz) gX10_isAt_X5_get rfl ⟨rfl, rfl⟩ 1 (by decide) ⟨Nat.le_of_ble_eq_true rfl, Nat.le_of_ble_eq_true rfl⟩ 0 rfl rfl [0, 1] [] rfl rfl (by decide) (by decide) (by decide) rfl rfl (Nat.le_of_ble_eq_true rfl) ⟨Nat.le_of_ble_eq_true rfl, Nat.le_of_ble_eq_true rfl⟩ (fun r15 _ w16 => ?_)
        refine r_ws [(h0, .inr (4, [.ref h1, .int x1])), (h1, .inl (gB g, 1500, .inl fn0))] rfl ?_
        have p17 : -1 ≤ (Int32.toInt r15) := w16.1
        have p18 : (Int32.toInt r15) ≤ 255 := w16.2
        refine r_aload_n 18 3 C dX10_isAt_18 rfl ?_
        refine r_iload_n 19 0 C dX10_isAt_19 rfl ?_
        refine r_scallVi 20 C dX10_isAt_20 [.int r15] 6 (by decide) [] [(h0, .inr (4, [.ref h1, .int x1])), (h1, .inl (gB g, 1500, .inl fn0))] (fun sz => c192_J0_charAt_5068e l g z1 ⟨by omega, by omega⟩ sz) gX10_isAt_J0_charAt_5068e rfl ⟨rfl, rfl⟩ 1 (by decide) ⟨Nat.le_of_ble_eq_true rfl, Nat.le_of_ble_eq_true rfl⟩ [] [0, 1] rfl rfl (by decide) (by decide) (by decide) rfl rfl (Nat.le_of_ble_eq_true rfl) ⟨Nat.le_of_ble_eq_true rfl, Nat.le_of_ble_eq_true rfl⟩ (fun r19 _ w20 => ?_)
        refine r_ws [(h0, .inr (4, [.ref h1, .int x1])), (h1, .inl (gB g, 1500, .inl fn0))] rfl ?_
        have p21 : 0 ≤ (Int32.toInt r19) := w20.1
        have p22 : (Int32.toInt r19) ≤ 65535 := w20.2
        refine r_icmp_eq 23 28 C dX10_isAt_23 (by decide) (fun c23 => ?_) (fun c23 => ?_)
        · skip
          have k24 : (Int32.toInt r15) = (Int32.toInt r19) := (fa_eq r15 r19).mp c23
          obtain ⟨z25, ez25⟩ : ∃ z_9, z1 + Int32.ofInt 1 = z_9 := ⟨_, rfl⟩
          have tz25 : (Int32.toInt z25) = (Int32.toInt z1) + 1 := by rw [← ez25]; exact fb_addIv (a := 0) (b := 4) (c := 1) (d := 1) ⟨i6a, i6b⟩ ⟨by decide, by decide⟩ (by decide) (by decide)
          refine r_iinc 28 0 z25 C dX10_isAt_28 rfl ez25 [(3, .int z25), (0, .ref h0), (1, .int x0), (2, .ref (g.2.2.1 6))] (by decide) rfl ?_
          refine r_goto 31 2 C dX10_isAt_31 (by decide) ?_
          exact ih4 z25 ⟨by omega, by omega⟩ (by omega)
        · skip
          have k26 : ¬ ((Int32.toInt r15) = (Int32.toInt r19)) := fun h_9 => c23 ((fa_eq r15 r19).mpr h_9)
          refine r_iconst 26 0 C dX10_isAt_26 (by decide) ?_
          exact r_zret 27 Rt dX10_isAt_27 (by decide) () (show 0 ≤ (Int32.toInt 0) ∧ (Int32.toInt 0) ≤ 1 from ⟨(by ((repeat' apply And.intro) <;> first | trivial | rfl | assumption | omega | decide | exact Or.inl rfl | exact Or.inr (Or.inl rfl) | exact Or.inr (Or.inr rfl))), (by ((repeat' apply And.intro) <;> first | trivial | rfl | assumption | omega | decide | exact Or.inl rfl | exact Or.inr (Or.inl rfl) | exact Or.inr (Or.inr rfl)))⟩) [0, 1] (by decide) rfl (Nat.le_of_ble_eq_true rfl) (Nat.le_of_ble_eq_true rfl)
  exact lp3 _ 0 (by decide) (Nat.lt_succ_self _)
set_option maxHeartbeats 4000000 in
set_option maxRecDepth 100000 in
theorem c194_X10_isWord (l : Launch) (g : GD) (h0 : Nat) (h1 : Nat) (h2 : Nat) (h3 : Nat) (x0 : Int32) (x1 : Int32) (x2 : Int32) (x3 : Int32) (x4 : Int32) (x5 : Int32) (x6 : Int32) (x7 : Int32) (x8 : Int32) (fn0 : Nat → Int32) (i_x4 : (0 ≤ (Int32.toInt x4) ∧ (Int32.toInt x4) ≤ 1)) (i_x8 : (0 ≤ (Int32.toInt x8) ∧ (Int32.toInt x8) ≤ 1500)) (sz : Nat) : Met l yX10_isWord wsX10_isWord ({ frames := 5, cells := 0, slots := 0, locals := 108 }) (va_Pc [.ref h0, .ref (g.2.2.1 6)] (PW g [(h0, .inr (9, [.ref h3, .ref h1, .int x0, .int x1, .int x2, .int x3, .int x4, .int x5, .int x6, .int x7])), (h1, .inr (4, [.ref h2, .int x8])), (h2, .inl (gB g, 1500, .inl fn0))] sz)) (va_Qi (fun (r : Int32) (_ : Unit) => 0 ≤ (Int32.toInt r) ∧ (Int32.toInt r) ≤ 1) (BW g (va_A [(h0, .inr (9, [.ref h3, .ref h1, .int x0, .int x1, .int x2, .int x3, .int x4, .int x5, .int x6, .int x7])), (h1, .inr (4, [.ref h2, .int x8])), (h2, .inl (gB g, 1500, .inl fn0))] sz) (fun _ : Unit => [(h0, .inr (9, [.ref h3, .ref h1, .int x0, .int x1, .int x2, .int x3, .int x4, .int x5, .int x6, .int x7])), (h1, .inr (4, [.ref h2, .int x8])), (h2, .inl (gB g, 1500, .inl fn0))])) (va_A [(h0, .inr (9, [.ref h3, .ref h1, .int x0, .int x1, .int x2, .int x3, .int x4, .int x5, .int x6, .int x7])), (h1, .inr (4, [.ref h2, .int x8])), (h2, .inl (gB g, 1500, .inl fn0))] sz)) 0 0 (va_A [(h0, .inr (9, [.ref h3, .ref h1, .int x0, .int x1, .int x2, .int x3, .int x4, .int x5, .int x6, .int x7])), (h1, .inr (4, [.ref h2, .int x8])), (h2, .inl (gB g, 1500, .inl fn0))] sz) := by
  refine met_z RX10 (by decide) rfl rfl (Nat.le_of_ble_eq_true rfl) [(0, .ref h0), (1, .ref (g.2.2.1 6))] rfl ?_
  intro p e s m args below meth c A Q C hnm Rt
  have hiX10 : ∀ w ∈ wsX100, w ∈ wsX10_isWord := fun w h => List.mem_cons_of_mem _ (List.mem_append_left _ (List.mem_append_right _ (h)))
  refine r_aload_n 0 0 C dX10_isWord_0 rfl ?_
  refine r_get 1 C dX10_isWord_1 (k := 4) 0 rfl rfl hiX10 (by decide) rfl (mg 1 rfl) (Or.inl rfl) rfl ?_
  refine r_aload_n 4 0 C dX10_isWord_4 rfl ?_
  refine r_get 5 C dX10_isWord_5 (k := 3) 0 rfl rfl hiX10 (by decide) rfl (mg 2 rfl) (Or.inl rfl) rfl ?_
  obtain ⟨z1, ez1⟩ : ∃ z_9, x2 - x1 = z_9 := ⟨_, rfl⟩
  have gz1 := fb_rng z1
  refine r_isub 8 z1 C dX10_isWord_8 ez1 ?_
  refine r_aload_n 9 1 C dX10_isWord_9 rfl ?_
  refine r_scallVi 10 C dX10_isWord_10 [.int z1] 6 (by decide) [] [(h0, .inr (9, [.ref h3, .ref h1, .int x0, .int x1, .int x2, .int x3, .int x4, .int x5, .int x6, .int x7])), (h1, .inr (4, [.ref h2, .int x8])), (h2, .inl (gB g, 1500, .inl fn0))] (fun sz => c186_J0_length_8abf5 l g   sz) gX10_isWord_J0_length_8abf5 rfl ⟨rfl, rfl⟩ 0 (by decide) ⟨Nat.le_of_ble_eq_true rfl, Nat.le_of_ble_eq_true rfl⟩ [] [0, 1, 2] rfl rfl (by decide) (by decide) (by decide) rfl rfl (Nat.le_of_ble_eq_true rfl) ⟨Nat.le_of_ble_eq_true rfl, Nat.le_of_ble_eq_true rfl⟩ (fun r2 _ w3 => ?_)
  refine r_ws [(h0, .inr (9, [.ref h3, .ref h1, .int x0, .int x1, .int x2, .int x3, .int x4, .int x5, .int x6, .int x7])), (h1, .inr (4, [.ref h2, .int x8])), (h2, .inl (gB g, 1500, .inl fn0))] rfl ?_
  have p4 : 4 = r2 := (w3).symm
  subst p4
  refine r_icmp_ne 13 35 C dX10_isWord_13 (by decide) (fun c5 => ?_) (fun c5 => ?_)
  · skip
    have k6 : ¬ ((Int32.toInt z1) = 4) := fun h_9 => c5 ((fa_eq z1 4).mpr h_9)
    refine r_iconst 35 0 C dX10_isWord_35 (by decide) ?_
    exact r_zret 36 Rt dX10_isWord_36 (by decide) () (show 0 ≤ (Int32.toInt 0) ∧ (Int32.toInt 0) ≤ 1 from ⟨(by ((repeat' apply And.intro) <;> first | trivial | rfl | assumption | omega | decide | exact Or.inl rfl | exact Or.inr (Or.inl rfl) | exact Or.inr (Or.inr rfl))), (by ((repeat' apply And.intro) <;> first | trivial | rfl | assumption | omega | decide | exact Or.inl rfl | exact Or.inr (Or.inl rfl) | exact Or.inr (Or.inr rfl)))⟩) [0, 1, 2] (by decide) rfl (Nat.le_of_ble_eq_true rfl) (Nat.le_of_ble_eq_true rfl)
  · skip
    have k7 : (Int32.toInt z1) = 4 := (fa_eq z1 4).mp c5
    refine r_aload_n 16 0 C dX10_isWord_16 rfl ?_
    refine r_get 17 C dX10_isWord_17 (k := 1) 0 rfl rfl hiX10 (by decide) rfl (mg 3 rfl) (Or.inl rfl) rfl ?_
    refine r_aload_n 20 0 C dX10_isWord_20 rfl ?_
    refine r_get 21 C dX10_isWord_21 (k := 3) 0 rfl rfl hiX10 (by decide) rfl (mg 2 rfl) (Or.inl rfl) rfl ?_
    refine r_aload_n 24 1 C dX10_isWord_24 rfl ?_
    refine r_callSi 25 C dX10_isWord_25 [] [(h1, .inr (4, [.ref h2, .int x8])), (h2, .inl (gB g, 1500, .inl fn0))] [(h0, .inr (9, [.ref h3, .ref h1, .int x0, .int x1, .int x2, .int x3, .int x4, .int x5, .int x6, .int x7]))] (fun sz => c193_X10_isAt l g h1 h2 x1 x8 fn0 i_x8 sz) gX10_isWord_X10_isAt rfl ⟨rfl, rfl⟩ 3 (by decide) ⟨Nat.le_of_ble_eq_true rfl, Nat.le_of_ble_eq_true rfl⟩ [1, 2] [0] rfl rfl (by decide) (by decide) (by decide) rfl rfl (Nat.le_of_ble_eq_true rfl) ⟨Nat.le_of_ble_eq_true rfl, Nat.le_of_ble_eq_true rfl⟩ (fun r8 _ w9 => ?_)
    refine r_ws [(h0, .inr (9, [.ref h3, .ref h1, .int x0, .int x1, .int x2, .int x3, .int x4, .int x5, .int x6, .int x7])), (h1, .inr (4, [.ref h2, .int x8])), (h2, .inl (gB g, 1500, .inl fn0))] rfl ?_
    have p10 : 0 ≤ (Int32.toInt r8) := w9.1
    have p11 : (Int32.toInt r8) ≤ 1 := w9.2
    refine r_if_eq 28 35 C dX10_isWord_28 (by decide) (fun c12 => ?_) (fun c12 => ?_)
    · skip
      have k13 : (Int32.toInt r8) = 0 := (fa_eq r8 0).mp c12
      refine r_iconst 35 0 C dX10_isWord_35 (by decide) ?_
      exact r_zret 36 Rt dX10_isWord_36 (by decide) () (show 0 ≤ (Int32.toInt 0) ∧ (Int32.toInt 0) ≤ 1 from ⟨(by ((repeat' apply And.intro) <;> first | trivial | rfl | assumption | omega | decide | exact Or.inl rfl | exact Or.inr (Or.inl rfl) | exact Or.inr (Or.inr rfl))), (by ((repeat' apply And.intro) <;> first | trivial | rfl | assumption | omega | decide | exact Or.inl rfl | exact Or.inr (Or.inl rfl) | exact Or.inr (Or.inr rfl)))⟩) [0, 1, 2] (by decide) rfl (Nat.le_of_ble_eq_true rfl) (Nat.le_of_ble_eq_true rfl)
    · skip
      have k14 : ¬ ((Int32.toInt r8) = 0) := fun h_9 => c12 ((fa_eq r8 0).mpr h_9)
      refine r_iconst 31 1 C dX10_isWord_31 (by decide) ?_
      refine r_goto 32 36 C dX10_isWord_32 (by decide) ?_
      exact r_zret 36 Rt dX10_isWord_36 (by decide) () (show 0 ≤ (Int32.toInt 1) ∧ (Int32.toInt 1) ≤ 1 from ⟨(by ((repeat' apply And.intro) <;> first | trivial | rfl | assumption | omega | decide | exact Or.inl rfl | exact Or.inr (Or.inl rfl) | exact Or.inr (Or.inr rfl))), (by ((repeat' apply And.intro) <;> first | trivial | rfl | assumption | omega | decide | exact Or.inl rfl | exact Or.inr (Or.inl rfl) | exact Or.inr (Or.inr rfl)))⟩) [0, 1, 2] (by decide) rfl (Nat.le_of_ble_eq_true rfl) (Nat.le_of_ble_eq_true rfl)
set_option maxHeartbeats 4000000 in
set_option maxRecDepth 100000 in
theorem c195_X10_takeThisWord (l : Launch) (g : GD) (h0 : Nat) (h1 : Nat) (h2 : Nat) (h3 : Nat) (x0 : Int32) (x1 : Int32) (x2 : Int32) (x3 : Int32) (x4 : Int32) (x5 : Int32) (x6 : Int32) (x7 : Int32) (x8 : Int32) (fn0 : Nat → Int32) (i_x4 : (0 ≤ (Int32.toInt x4) ∧ (Int32.toInt x4) ≤ 1)) (i_x8 : (0 ≤ (Int32.toInt x8) ∧ (Int32.toInt x8) ≤ 1500)) (sz : Nat) : Met l yX10_takeThisWord wsX10_takeThisWord ({ frames := 6, cells := 0, slots := 0, locals := 129 }) (va_Pc [.ref h0, .ref (g.2.2.1 6)] (PW g [(h0, .inr (9, [.ref h3, .ref h1, .int x0, .int x1, .int x2, .int x3, .int x4, .int x5, .int x6, .int x7])), (h1, .inr (4, [.ref h2, .int x8])), (h2, .inl (gB g, 1500, .inl fn0))] sz)) (va_Qi (fun (r : Int32) (u : (Int32) × (Int32) × (Int32)) => 0 ≤ (Int32.toInt r) ∧ (Int32.toInt r) ≤ 2) (BW g (va_A [(h0, .inr (9, [.ref h3, .ref h1, .int x0, .int x1, .int x2, .int x3, .int x4, .int x5, .int x6, .int x7])), (h1, .inr (4, [.ref h2, .int x8])), (h2, .inl (gB g, 1500, .inl fn0))] sz) (fun u : (Int32) × (Int32) × (Int32) => [(h0, .inr (9, [.ref h3, .ref h1, .int u.1, .int u.2.1, .int u.2.2, .int x3, .int x4, .int x5, .int x6, .int x7])), (h1, .inr (4, [.ref h2, .int x8])), (h2, .inl (gB g, 1500, .inl fn0))])) (va_A [(h0, .inr (9, [.ref h3, .ref h1, .int x0, .int x1, .int x2, .int x3, .int x4, .int x5, .int x6, .int x7])), (h1, .inr (4, [.ref h2, .int x8])), (h2, .inl (gB g, 1500, .inl fn0))] sz)) 0 0 (va_A [(h0, .inr (9, [.ref h3, .ref h1, .int x0, .int x1, .int x2, .int x3, .int x4, .int x5, .int x6, .int x7])), (h1, .inr (4, [.ref h2, .int x8])), (h2, .inl (gB g, 1500, .inl fn0))] sz) := by
  refine met_i RX10 (by decide) rfl rfl (Nat.le_of_ble_eq_true rfl) [(0, .ref h0), (1, .ref (g.2.2.1 6))] rfl ?_
  intro p e s m args below meth c A Q C hnm Rt
  refine r_aload_n 0 0 C dX10_takeThisWord_0 rfl ?_
  refine r_callVi 1 C dX10_takeThisWord_1 [] [(h0, .inr (9, [.ref h3, .ref h1, .int x0, .int x1, .int x2, .int x3, .int x4, .int x5, .int x6, .int x7])), (h1, .inr (4, [.ref h2, .int x8])), (h2, .inl (gB g, 1500, .inl fn0))] [] (fun sz => c115_X10_takeWord l g h0 h1 h2 h3 x0 x1 x2 x3 x4 x5 x6 x7 x8 fn0 i_x4 i_x8 sz) gX10_takeThisWord_X10_takeWord rfl ⟨rfl, rfl⟩ 0 (by decide) ⟨Nat.le_of_ble_eq_true rfl, Nat.le_of_ble_eq_true rfl⟩ 0 rfl rfl [0, 1, 2] [] rfl rfl (by decide) (by decide) (by decide) rfl rfl (Nat.le_of_ble_eq_true rfl) ⟨Nat.le_of_ble_eq_true rfl, Nat.le_of_ble_eq_true rfl⟩ (fun r4 u6 w5 => ?_)
  obtain ⟨z1, z2, z3⟩ := u6
  refine r_ws [(h0, .inr (9, [.ref h3, .ref h1, .int z1, .int z2, .int z3, .int x3, .int x4, .int x5, .int x6, .int x7])), (h1, .inr (4, [.ref h2, .int x8])), (h2, .inl (gB g, 1500, .inl fn0))] rfl ?_
  have gz1 := fb_rng z1
  have gz2 := fb_rng z2
  have gz3 := fb_rng z3
  have p7 : 0 ≤ (Int32.toInt r4) := w5.1
  have p8 : (Int32.toInt r4) ≤ 1 := w5.2
  refine r_if_ne 4 9 C dX10_takeThisWord_4 (by decide) (fun c9 => ?_) (fun c9 => ?_)
  · skip
    have k10 : ¬ ((Int32.toInt r4) = 0) := fun h_9 => c9 ((fa_eq r4 0).mpr h_9)
    refine r_aload_n 9 0 C dX10_takeThisWord_9 rfl ?_
    refine r_aload_n 10 1 C dX10_takeThisWord_10 rfl ?_
    refine r_callVi 11 C dX10_takeThisWord_11 [] [(h0, .inr (9, [.ref h3, .ref h1, .int z1, .int z2, .int z3, .int x3, .int x4, .int x5, .int x6, .int x7])), (h1, .inr (4, [.ref h2, .int x8])), (h2, .inl (gB g, 1500, .inl fn0))] [] (fun sz => c194_X10_isWord l g h0 h1 h2 h3 z1 z2 z3 x3 x4 x5 x6 x7 x8 fn0 i_x4 i_x8 sz) gX10_takeThisWord_X10_isWord rfl ⟨rfl, rfl⟩ 1 (by decide) ⟨Nat.le_of_ble_eq_true rfl, Nat.le_of_ble_eq_true rfl⟩ 0 rfl rfl [0, 1, 2] [] rfl rfl (by decide) (by decide) (by decide) rfl rfl (Nat.le_of_ble_eq_true rfl) ⟨Nat.le_of_ble_eq_true rfl, Nat.le_of_ble_eq_true rfl⟩ (fun r11 _ w12 => ?_)
    refine r_ws [(h0, .inr (9, [.ref h3, .ref h1, .int z1, .int z2, .int z3, .int x3, .int x4, .int x5, .int x6, .int x7])), (h1, .inr (4, [.ref h2, .int x8])), (h2, .inl (gB g, 1500, .inl fn0))] rfl ?_
    have p13 : 0 ≤ (Int32.toInt r11) := w12.1
    have p14 : (Int32.toInt r11) ≤ 1 := w12.2
    refine r_if_eq 14 21 C dX10_takeThisWord_14 (by decide) (fun c15 => ?_) (fun c15 => ?_)
    · skip
      have k16 : (Int32.toInt r11) = 0 := (fa_eq r11 0).mp c15
      refine r_iconst 21 2 C dX10_takeThisWord_21 (by decide) ?_
      exact r_iret 22 Rt dX10_takeThisWord_22 (z1, z2, z3) (show 0 ≤ (Int32.toInt 2) ∧ (Int32.toInt 2) ≤ 2 from ⟨(by ((repeat' apply And.intro) <;> first | trivial | rfl | assumption | omega | decide | exact Or.inl rfl | exact Or.inr (Or.inl rfl) | exact Or.inr (Or.inr rfl))), (by ((repeat' apply And.intro) <;> first | trivial | rfl | assumption | omega | decide | exact Or.inl rfl | exact Or.inr (Or.inl rfl) | exact Or.inr (Or.inr rfl)))⟩) [0, 1, 2] (by decide) rfl (Nat.le_of_ble_eq_true rfl) (Nat.le_of_ble_eq_true rfl)
    · skip
      have k17 : ¬ ((Int32.toInt r11) = 0) := fun h_9 => c15 ((fa_eq r11 0).mpr h_9)
      refine r_iconst 17 0 C dX10_takeThisWord_17 (by decide) ?_
      refine r_goto 18 22 C dX10_takeThisWord_18 (by decide) ?_
      exact r_iret 22 Rt dX10_takeThisWord_22 (z1, z2, z3) (show 0 ≤ (Int32.toInt 0) ∧ (Int32.toInt 0) ≤ 2 from ⟨(by ((repeat' apply And.intro) <;> first | trivial | rfl | assumption | omega | decide | exact Or.inl rfl | exact Or.inr (Or.inl rfl) | exact Or.inr (Or.inr rfl))), (by ((repeat' apply And.intro) <;> first | trivial | rfl | assumption | omega | decide | exact Or.inl rfl | exact Or.inr (Or.inl rfl) | exact Or.inr (Or.inr rfl)))⟩) [0, 1, 2] (by decide) rfl (Nat.le_of_ble_eq_true rfl) (Nat.le_of_ble_eq_true rfl)
  · skip
    have k18 : (Int32.toInt r4) = 0 := (fa_eq r4 0).mp c9
    refine r_iconst 7 1 C dX10_takeThisWord_7 (by decide) ?_
    exact r_iret 8 Rt dX10_takeThisWord_8 (z1, z2, z3) (show 0 ≤ (Int32.toInt 1) ∧ (Int32.toInt 1) ≤ 2 from ⟨(by ((repeat' apply And.intro) <;> first | trivial | rfl | assumption | omega | decide | exact Or.inl rfl | exact Or.inr (Or.inl rfl) | exact Or.inr (Or.inr rfl))), (by ((repeat' apply And.intro) <;> first | trivial | rfl | assumption | omega | decide | exact Or.inl rfl | exact Or.inr (Or.inl rfl) | exact Or.inr (Or.inr rfl)))⟩) [0, 1, 2] (by decide) rfl (Nat.le_of_ble_eq_true rfl) (Nat.le_of_ble_eq_true rfl)
set_option maxHeartbeats 4000000 in
set_option maxRecDepth 100000 in
theorem c196_X10_takeThisWord (l : Launch) (g : GD) (h0 : Nat) (h1 : Nat) (h2 : Nat) (h3 : Nat) (x0 : Int32) (x1 : Int32) (x2 : Int32) (x3 : Int32) (x4 : Int32) (x5 : Int32) (x6 : Int32) (x7 : Int32) (x8 : Int32) (fn0 : Nat → Int32) (i_x4 : (0 ≤ (Int32.toInt x4) ∧ (Int32.toInt x4) ≤ 1)) (i_x8 : (0 ≤ (Int32.toInt x8) ∧ (Int32.toInt x8) ≤ 1500)) (sz : Nat) : Met l yX10_takeThisWord wsX10_takeThisWord ({ frames := 6, cells := 0, slots := 0, locals := 129 }) (va_Pc [.ref h0, .ref (g.2.2.1 4)] (PW g [(h0, .inr (9, [.ref h3, .ref h1, .int x0, .int x1, .int x2, .int x3, .int x4, .int x5, .int x6, .int x7])), (h1, .inr (4, [.ref h2, .int x8])), (h2, .inl (gB g, 1500, .inl fn0))] sz)) (va_Qi (fun (r : Int32) (u : (Int32) × (Int32) × (Int32)) => 0 ≤ (Int32.toInt r) ∧ (Int32.toInt r) ≤ 2) (BW g (va_A [(h0, .inr (9, [.ref h3, .ref h1, .int x0, .int x1, .int x2, .int x3, .int x4, .int x5, .int x6, .int x7])), (h1, .inr (4, [.ref h2, .int x8])), (h2, .inl (gB g, 1500, .inl fn0))] sz) (fun u : (Int32) × (Int32) × (Int32) => [(h0, .inr (9, [.ref h3, .ref h1, .int u.1, .int u.2.1, .int u.2.2, .int x3, .int x4, .int x5, .int x6, .int x7])), (h1, .inr (4, [.ref h2, .int x8])), (h2, .inl (gB g, 1500, .inl fn0))])) (va_A [(h0, .inr (9, [.ref h3, .ref h1, .int x0, .int x1, .int x2, .int x3, .int x4, .int x5, .int x6, .int x7])), (h1, .inr (4, [.ref h2, .int x8])), (h2, .inl (gB g, 1500, .inl fn0))] sz)) 0 0 (va_A [(h0, .inr (9, [.ref h3, .ref h1, .int x0, .int x1, .int x2, .int x3, .int x4, .int x5, .int x6, .int x7])), (h1, .inr (4, [.ref h2, .int x8])), (h2, .inl (gB g, 1500, .inl fn0))] sz) := by
  refine met_i RX10 (by decide) rfl rfl (Nat.le_of_ble_eq_true rfl) [(0, .ref h0), (1, .ref (g.2.2.1 4))] rfl ?_
  intro p e s m args below meth c A Q C hnm Rt
  refine r_aload_n 0 0 C dX10_takeThisWord_0 rfl ?_
  refine r_callVi 1 C dX10_takeThisWord_1 [] [(h0, .inr (9, [.ref h3, .ref h1, .int x0, .int x1, .int x2, .int x3, .int x4, .int x5, .int x6, .int x7])), (h1, .inr (4, [.ref h2, .int x8])), (h2, .inl (gB g, 1500, .inl fn0))] [] (fun sz => c115_X10_takeWord l g h0 h1 h2 h3 x0 x1 x2 x3 x4 x5 x6 x7 x8 fn0 i_x4 i_x8 sz) gX10_takeThisWord_X10_takeWord rfl ⟨rfl, rfl⟩ 0 (by decide) ⟨Nat.le_of_ble_eq_true rfl, Nat.le_of_ble_eq_true rfl⟩ 0 rfl rfl [0, 1, 2] [] rfl rfl (by decide) (by decide) (by decide) rfl rfl (Nat.le_of_ble_eq_true rfl) ⟨Nat.le_of_ble_eq_true rfl, Nat.le_of_ble_eq_true rfl⟩ (fun r4 u6 w5 => ?_)
  obtain ⟨z1, z2, z3⟩ := u6
  refine r_ws [(h0, .inr (9, [.ref h3, .ref h1, .int z1, .int z2, .int z3, .int x3, .int x4, .int x5, .int x6, .int x7])), (h1, .inr (4, [.ref h2, .int x8])), (h2, .inl (gB g, 1500, .inl fn0))] rfl ?_
  have gz1 := fb_rng z1
  have gz2 := fb_rng z2
  have gz3 := fb_rng z3
  have p7 : 0 ≤ (Int32.toInt r4) := w5.1
  have p8 : (Int32.toInt r4) ≤ 1 := w5.2
  refine r_if_ne 4 9 C dX10_takeThisWord_4 (by decide) (fun c9 => ?_) (fun c9 => ?_)
  · skip
    have k10 : ¬ ((Int32.toInt r4) = 0) := fun h_9 => c9 ((fa_eq r4 0).mpr h_9)
    refine r_aload_n 9 0 C dX10_takeThisWord_9 rfl ?_
    refine r_aload_n 10 1 C dX10_takeThisWord_10 rfl ?_
    refine r_callVi 11 C dX10_takeThisWord_11 [] [(h0, .inr (9, [.ref h3, .ref h1, .int z1, .int z2, .int z3, .int x3, .int x4, .int x5, .int x6, .int x7])), (h1, .inr (4, [.ref h2, .int x8])), (h2, .inl (gB g, 1500, .inl fn0))] [] (fun sz => c152_X10_isWord l g h0 h1 h2 h3 z1 z2 z3 x3 x4 x5 x6 x7 x8 fn0 i_x4 i_x8 sz) gX10_takeThisWord_X10_isWord rfl ⟨rfl, rfl⟩ 1 (by decide) ⟨Nat.le_of_ble_eq_true rfl, Nat.le_of_ble_eq_true rfl⟩ 0 rfl rfl [0, 1, 2] [] rfl rfl (by decide) (by decide) (by decide) rfl rfl (Nat.le_of_ble_eq_true rfl) ⟨Nat.le_of_ble_eq_true rfl, Nat.le_of_ble_eq_true rfl⟩ (fun r11 _ w12 => ?_)
    refine r_ws [(h0, .inr (9, [.ref h3, .ref h1, .int z1, .int z2, .int z3, .int x3, .int x4, .int x5, .int x6, .int x7])), (h1, .inr (4, [.ref h2, .int x8])), (h2, .inl (gB g, 1500, .inl fn0))] rfl ?_
    have p13 : 0 ≤ (Int32.toInt r11) := w12.1
    have p14 : (Int32.toInt r11) ≤ 1 := w12.2
    refine r_if_eq 14 21 C dX10_takeThisWord_14 (by decide) (fun c15 => ?_) (fun c15 => ?_)
    · skip
      have k16 : (Int32.toInt r11) = 0 := (fa_eq r11 0).mp c15
      refine r_iconst 21 2 C dX10_takeThisWord_21 (by decide) ?_
      exact r_iret 22 Rt dX10_takeThisWord_22 (z1, z2, z3) (show 0 ≤ (Int32.toInt 2) ∧ (Int32.toInt 2) ≤ 2 from ⟨(by ((repeat' apply And.intro) <;> first | trivial | rfl | assumption | omega | decide | exact Or.inl rfl | exact Or.inr (Or.inl rfl) | exact Or.inr (Or.inr rfl))), (by ((repeat' apply And.intro) <;> first | trivial | rfl | assumption | omega | decide | exact Or.inl rfl | exact Or.inr (Or.inl rfl) | exact Or.inr (Or.inr rfl)))⟩) [0, 1, 2] (by decide) rfl (Nat.le_of_ble_eq_true rfl) (Nat.le_of_ble_eq_true rfl)
    · skip
      have k17 : ¬ ((Int32.toInt r11) = 0) := fun h_9 => c15 ((fa_eq r11 0).mpr h_9)
      refine r_iconst 17 0 C dX10_takeThisWord_17 (by decide) ?_
      refine r_goto 18 22 C dX10_takeThisWord_18 (by decide) ?_
      exact r_iret 22 Rt dX10_takeThisWord_22 (z1, z2, z3) (show 0 ≤ (Int32.toInt 0) ∧ (Int32.toInt 0) ≤ 2 from ⟨(by ((repeat' apply And.intro) <;> first | trivial | rfl | assumption | omega | decide | exact Or.inl rfl | exact Or.inr (Or.inl rfl) | exact Or.inr (Or.inr rfl))), (by ((repeat' apply And.intro) <;> first | trivial | rfl | assumption | omega | decide | exact Or.inl rfl | exact Or.inr (Or.inl rfl) | exact Or.inr (Or.inr rfl)))⟩) [0, 1, 2] (by decide) rfl (Nat.le_of_ble_eq_true rfl) (Nat.le_of_ble_eq_true rfl)
  · skip
    have k18 : (Int32.toInt r4) = 0 := (fa_eq r4 0).mp c9
    refine r_iconst 7 1 C dX10_takeThisWord_7 (by decide) ?_
    exact r_iret 8 Rt dX10_takeThisWord_8 (z1, z2, z3) (show 0 ≤ (Int32.toInt 1) ∧ (Int32.toInt 1) ≤ 2 from ⟨(by ((repeat' apply And.intro) <;> first | trivial | rfl | assumption | omega | decide | exact Or.inl rfl | exact Or.inr (Or.inl rfl) | exact Or.inr (Or.inr rfl))), (by ((repeat' apply And.intro) <;> first | trivial | rfl | assumption | omega | decide | exact Or.inl rfl | exact Or.inr (Or.inl rfl) | exact Or.inr (Or.inr rfl)))⟩) [0, 1, 2] (by decide) rfl (Nat.le_of_ble_eq_true rfl) (Nat.le_of_ble_eq_true rfl)
set_option maxHeartbeats 4000000 in
set_option maxRecDepth 100000 in
theorem c197_J0_coder_7d493 (l : Launch) (g : GD) (sz : Nat) : Met l yJ0_coder_7d493 wsJ0_coder_7d493 ({ frames := 0, cells := 0, slots := 0, locals := 0 }) (va_Pc [.ref (g.2.2.1 7)] (PW g [] sz)) (va_Qi (fun (r : Int32) (_ : Unit) => r = 0) (BW g (va_A [] sz) (fun _ : Unit => [])) (va_A [] sz)) 0 0 (va_A [] sz) := by
  refine met_b RJ0 (by decide) rfl rfl (Nat.le_of_ble_eq_true rfl) [(0, .ref (g.2.2.1 7))] rfl ?_
  intro p e s m args below meth c A Q C hnm Rt
  refine r_gets 0 C dJ0_coder_7d493_0 C.2.2.2.2.2.1.2.2.2.2.1 (mg 1 rfl) ?_
  refine r_if_eq_f 3 13 C dJ0_coder_7d493_3 (by decide) (by decide) ?_
  refine r_aload_n 6 0 C dJ0_coder_7d493_6 rfl ?_
  refine r_sget 7 7 C dJ0_coder_7d493_7 ((C.2.2.2.2.2.1.2.2.1.1 7 (by decide)).2.1) (mg 2 rfl) ?_
  refine r_goto 10 14 C dJ0_coder_7d493_10 (by decide) ?_
  exact r_bret 14 Rt dJ0_coder_7d493_14 (by decide) () (show 0 = 0 from (by ((repeat' apply And.intro) <;> first | trivial | rfl | assumption | omega | decide | exact Or.inl rfl | exact Or.inr (Or.inl rfl) | exact Or.inr (Or.inr rfl)))) [] (by decide) rfl (Nat.le_of_ble_eq_true rfl) (Nat.le_of_ble_eq_true rfl)
set_option maxHeartbeats 4000000 in
set_option maxRecDepth 100000 in
theorem c198_J0_length_8abf5 (l : Launch) (g : GD) (sz : Nat) : Met l yJ0_length_8abf5 wsJ0_length_8abf5 ({ frames := 1, cells := 0, slots := 0, locals := 20 }) (va_Pc [.ref (g.2.2.1 7)] (PW g [] sz)) (va_Qi (fun (r : Int32) (_ : Unit) => r = 5) (BW g (va_A [] sz) (fun _ : Unit => [])) (va_A [] sz)) 0 0 (va_A [] sz) := by
  refine met_i RJ0 (by decide) rfl rfl (Nat.le_of_ble_eq_true rfl) [(0, .ref (g.2.2.1 7))] rfl ?_
  intro p e s m args below meth c A Q C hnm Rt
  refine r_aload_n 0 0 C dJ0_length_8abf5_0 rfl ?_
  refine r_sget 1 7 C dJ0_length_8abf5_1 ((C.2.2.2.2.2.1.2.2.1.1 7 (by decide)).2.2.1) (mg 1 rfl) ?_
  refine r_stlen 4 5 C dJ0_length_8abf5_4 ((C.2.2.2.2.2.1.2.2.1.1 7 (by decide)).2.2.2) (by decide) ?_
  refine r_aload_n 5 0 C dJ0_length_8abf5_5 rfl ?_
  refine r_scallVi 6 C dJ0_length_8abf5_6 [.int 5] 7 (by decide) [] [] (fun sz => c197_J0_coder_7d493 l g   sz) gJ0_length_8abf5_J0_coder_7d493 rfl ⟨rfl, rfl⟩ 0 (by decide) ⟨Nat.le_of_ble_eq_true rfl, Nat.le_of_ble_eq_true rfl⟩ [] [] rfl rfl (by decide) (by decide) (by decide) rfl rfl (Nat.le_of_ble_eq_true rfl) ⟨Nat.le_of_ble_eq_true rfl, Nat.le_of_ble_eq_true rfl⟩ (fun r1 _ w2 => ?_)
  refine r_ws [] rfl ?_
  have p3 : 0 = r1 := (w2).symm
  subst p3
  refine r_ishr 9 5 C dJ0_length_8abf5_9 (by decide) ?_
  exact r_iret 10 Rt dJ0_length_8abf5_10 () (show 5 = 5 from (by ((repeat' apply And.intro) <;> first | trivial | rfl | assumption | omega | decide | exact Or.inl rfl | exact Or.inr (Or.inl rfl) | exact Or.inr (Or.inr rfl)))) [] (by decide) rfl (Nat.le_of_ble_eq_true rfl) (Nat.le_of_ble_eq_true rfl)
set_option maxHeartbeats 4000000 in
set_option maxRecDepth 100000 in
theorem c199_J0_isLatin1_aae02 (l : Launch) (g : GD) (sz : Nat) : Met l yJ0_isLatin1_aae02 wsJ0_isLatin1_aae02 ({ frames := 0, cells := 0, slots := 0, locals := 0 }) (va_Pc [.ref (g.2.2.1 7)] (PW g [] sz)) (va_Qi (fun (r : Int32) (_ : Unit) => r = 1) (BW g (va_A [] sz) (fun _ : Unit => [])) (va_A [] sz)) 0 0 (va_A [] sz) := by
  refine met_z RJ0 (by decide) rfl rfl (Nat.le_of_ble_eq_true rfl) [(0, .ref (g.2.2.1 7))] rfl ?_
  intro p e s m args below meth c A Q C hnm Rt
  refine r_gets 0 C dJ0_isLatin1_aae02_0 C.2.2.2.2.2.1.2.2.2.2.1 (mg 1 rfl) ?_
  refine r_if_eq_f 3 17 C dJ0_isLatin1_aae02_3 (by decide) (by decide) ?_
  refine r_aload_n 6 0 C dJ0_isLatin1_aae02_6 rfl ?_
  refine r_sget 7 7 C dJ0_isLatin1_aae02_7 ((C.2.2.2.2.2.1.2.2.1.1 7 (by decide)).2.1) (mg 2 rfl) ?_
  refine r_if_ne_f 10 17 C dJ0_isLatin1_aae02_10 (by decide) (by decide) ?_
  refine r_iconst 13 1 C dJ0_isLatin1_aae02_13 (by decide) ?_
  refine r_goto 14 18 C dJ0_isLatin1_aae02_14 (by decide) ?_
  exact r_zret 18 Rt dJ0_isLatin1_aae02_18 (by decide) () (show 1 = 1 from (by ((repeat' apply And.intro) <;> first | trivial | rfl | assumption | omega | decide | exact Or.inl rfl | exact Or.inr (Or.inl rfl) | exact Or.inr (Or.inr rfl)))) [] (by decide) rfl (Nat.le_of_ble_eq_true rfl) (Nat.le_of_ble_eq_true rfl)
set_option maxHeartbeats 4000000 in
set_option maxRecDepth 100000 in
theorem c200_J1_charAt_3b067 (l : Launch) (g : GD) (x0 : Int32) (i_x0 : (0 ≤ (Int32.toInt x0) ∧ (Int32.toInt x0) ≤ 4)) (sz : Nat) : Met l yJ1_charAt_3b067 wsJ1_charAt_3b067 ({ frames := 2, cells := 0, slots := 0, locals := 43 }) (va_Pc [.ref (g.2.2.2 7), .int x0] (PW g [] sz)) (va_Qi (fun (r : Int32) (_ : Unit) => 0 ≤ (Int32.toInt r) ∧ (Int32.toInt r) ≤ 65535) (BW g (va_A [] sz) (fun _ : Unit => [])) (va_A [] sz)) 0 0 (va_A [] sz) := by
  refine met_c RJ1 (by decide) rfl rfl (Nat.le_of_ble_eq_true rfl) [(0, .ref (g.2.2.2 7)), (1, .int x0)] rfl ?_
  intro p e s m args below meth c A Q C hnm Rt
  refine r_iload_n 0 1 C dJ1_charAt_3b067_0 rfl ?_
  refine r_aload_n 1 0 C dJ1_charAt_3b067_1 rfl ?_
  refine r_stlen 2 5 C dJ1_charAt_3b067_2 ((C.2.2.2.2.2.1.2.2.1.1 7 (by decide)).2.2.2) (by decide) ?_
  refine r_callSv 3 C dJ1_charAt_3b067_3 [] [] [] (fun sz => c107_J0_checkIndex_df160 l g x0 i_x0 sz) gJ1_charAt_3b067_J0_checkIndex_df160 rfl ⟨rfl, rfl⟩ 2 (by decide) ⟨Nat.le_of_ble_eq_true rfl, Nat.le_of_ble_eq_true rfl⟩ [] [] rfl rfl (by decide) (by decide) (by decide) rfl rfl (Nat.le_of_ble_eq_true rfl) ⟨Nat.le_of_ble_eq_true rfl, Nat.le_of_ble_eq_true rfl⟩ (fun  _ w1 => ?_)
  refine r_ws [] rfl ?_
  refine r_aload_n 6 0 C dJ1_charAt_3b067_6 rfl ?_
  refine r_iload_n 7 1 C dJ1_charAt_3b067_7 rfl ?_
  obtain ⟨z2, ez2⟩ : ∃ z_9, (stB.getD 7 []).getD (Int32.toNatClampNeg x0) 0 = z_9 := ⟨_, rfl⟩
  refine r_stb 8 (.int z2) C dJ1_charAt_3b067_8 ((C.2.2.2.2.2.1.2.2.1.1 7 (by decide)).2.2.2) (vinI (n := 5) (by omega) (by omega)) (by rw [← ez2]) ?_
  have gz2 := fb_rng z2
  refine r_sipush 9 255 C dJ1_charAt_3b067_9 (by decide) ?_
  obtain ⟨z3, ez3⟩ : ∃ z_9, z2 &&& 255 = z_9 := ⟨_, rfl⟩
  have tz3 : 0 ≤ (Int32.toInt z3) ∧ (Int32.toInt z3) ≤ 255 := by rw [← ez3]; exact and_255 z2
  refine r_iand 12 z3 C dJ1_charAt_3b067_12 ez3 ?_
  obtain ⟨z4, ez4⟩ : ∃ z_9, (Int32.toUInt32 z3 % 65536).toInt32 = z_9 := ⟨_, rfl⟩
  have tz4 : 0 ≤ (Int32.toInt z4) ∧ (Int32.toInt z4) ≤ 65535 := by rw [← ez4]; exact chr_in _
  refine r_i2c 13 z4 C dJ1_charAt_3b067_13 ez4 ?_
  exact r_cret 14 Rt dJ1_charAt_3b067_14 (by rw [← ez4]; exact pk_nc _) () (show 0 ≤ (Int32.toInt z4) ∧ (Int32.toInt z4) ≤ 65535 from ⟨(by ((repeat' apply And.intro) <;> first | trivial | rfl | assumption | omega | decide | exact Or.inl rfl | exact Or.inr (Or.inl rfl) | exact Or.inr (Or.inr rfl))), (by ((repeat' apply And.intro) <;> first | trivial | rfl | assumption | omega | decide | exact Or.inl rfl | exact Or.inr (Or.inl rfl) | exact Or.inr (Or.inr rfl)))⟩) [] (by decide) rfl (Nat.le_of_ble_eq_true rfl) (Nat.le_of_ble_eq_true rfl)
set_option maxHeartbeats 4000000 in
set_option maxRecDepth 100000 in
theorem c201_J0_charAt_5068e (l : Launch) (g : GD) (x0 : Int32) (i_x0 : (0 ≤ (Int32.toInt x0) ∧ (Int32.toInt x0) ≤ 4)) (sz : Nat) : Met l yJ0_charAt_5068e wsJ0_charAt_5068e ({ frames := 3, cells := 0, slots := 0, locals := 64 }) (va_Pc [.ref (g.2.2.1 7), .int x0] (PW g [] sz)) (va_Qi (fun (r : Int32) (_ : Unit) => 0 ≤ (Int32.toInt r) ∧ (Int32.toInt r) ≤ 65535) (BW g (va_A [] sz) (fun _ : Unit => [])) (va_A [] sz)) 0 0 (va_A [] sz) := by
  refine met_c RJ0 (by decide) rfl rfl (Nat.le_of_ble_eq_true rfl) [(0, .ref (g.2.2.1 7)), (1, .int x0)] rfl ?_
  intro p e s m args below meth c A Q C hnm Rt
  refine r_aload_n 0 0 C dJ0_charAt_5068e_0 rfl ?_
  refine r_scallVi 1 C dJ0_charAt_5068e_1 [] 7 (by decide) [] [] (fun sz => c199_J0_isLatin1_aae02 l g   sz) gJ0_charAt_5068e_J0_isLatin1_aae02 rfl ⟨rfl, rfl⟩ 0 (by decide) ⟨Nat.le_of_ble_eq_true rfl, Nat.le_of_ble_eq_true rfl⟩ [] [] rfl rfl (by decide) (by decide) (by decide) rfl rfl (Nat.le_of_ble_eq_true rfl) ⟨Nat.le_of_ble_eq_true rfl, Nat.le_of_ble_eq_true rfl⟩ (fun r1 _ w2 => ?_)
  refine r_ws [] rfl ?_
  have p3 : 1 = r1 := (w2).symm
  subst p3
  refine r_if_eq_f 4 16 C dJ0_charAt_5068e_4 (by decide) (by decide) ?_
  refine r_aload_n 7 0 C dJ0_charAt_5068e_7 rfl ?_
  refine r_sget 8 7 C dJ0_charAt_5068e_8 ((C.2.2.2.2.2.1.2.2.1.1 7 (by decide)).2.2.1) (mg 1 rfl) ?_
  refine r_iload_n 11 1 C dJ0_charAt_5068e_11 rfl ?_
  refine r_callSi 12 C dJ0_charAt_5068e_12 [] [] [] (fun sz => c200_J1_charAt_3b067 l g x0 i_x0 sz) gJ0_charAt_5068e_J1_charAt_3b067 rfl ⟨rfl, rfl⟩ 2 (by decide) ⟨Nat.le_of_ble_eq_true rfl, Nat.le_of_ble_eq_true rfl⟩ [] [] rfl rfl (by decide) (by decide) (by decide) rfl rfl (Nat.le_of_ble_eq_true rfl) ⟨Nat.le_of_ble_eq_true rfl, Nat.le_of_ble_eq_true rfl⟩ (fun r4 _ w5 => ?_)
  refine r_ws [] rfl ?_
  have p6 : 0 ≤ (Int32.toInt r4) := w5.1
  have p7 : (Int32.toInt r4) ≤ 65535 := w5.2
  exact r_cret 15 Rt dJ0_charAt_5068e_15 (nc_in (by omega) (by omega)) () (show 0 ≤ (Int32.toInt r4) ∧ (Int32.toInt r4) ≤ 65535 from ⟨(show _ ∧ _ from ⟨p6, p7⟩).1, (show _ ∧ _ from ⟨p6, p7⟩).2⟩) [] (by decide) rfl (Nat.le_of_ble_eq_true rfl) (Nat.le_of_ble_eq_true rfl)
set_option maxHeartbeats 4000000 in
set_option maxRecDepth 100000 in
theorem c202_X10_isAt (l : Launch) (g : GD) (h0 : Nat) (h1 : Nat) (x0 : Int32) (x1 : Int32) (fn0 : Nat → Int32) (i_x1 : (0 ≤ (Int32.toInt x1) ∧ (Int32.toInt x1) ≤ 1500)) (sz : Nat) : Met l yX10_isAt wsX10_isAt ({ frames := 4, cells := 0, slots := 0, locals := 85 }) (va_Pc [.ref h0, .int x0, .ref (g.2.2.1 7)] (PW g [(h0, .inr (4, [.ref h1, .int x1])), (h1, .inl (gB g, 1500, .inl fn0))] sz)) (va_Qi (fun (r : Int32) (_ : Unit) => 0 ≤ (Int32.toInt r) ∧ (Int32.toInt r) ≤ 1) (BW g (va_A [(h0, .inr (4, [.ref h1, .int x1])), (h1, .inl (gB g, 1500, .inl fn0))] sz) (fun _ : Unit => [(h0, .inr (4, [.ref h1, .int x1])), (h1, .inl (gB g, 1500, .inl fn0))])) (va_A [(h0, .inr (4, [.ref h1, .int x1])), (h1, .inl (gB g, 1500, .inl fn0))] sz)) 0 0 (va_A [(h0, .inr (4, [.ref h1, .int x1])), (h1, .inl (gB g, 1500, .inl fn0))] sz) := by
  refine met_z RX10 (by decide) rfl rfl (Nat.le_of_ble_eq_true rfl) [(0, .ref h0), (1, .int x0), (2, .ref (g.2.2.1 7))] rfl ?_
  intro p e s m args below meth c A Q C hnm Rt
  refine r_iconst 0 0 C dX10_isAt_0 (by decide) ?_
  refine r_istore_n 1 C dX10_isAt_1 [(3, .int 0), (0, .ref h0), (1, .int x0), (2, .ref (g.2.2.1 7))] (by decide) rfl ?_
  have lp3 : ∀ (n2 : Nat) (z1 : Int32), (0 ≤ (Int32.toInt z1) ∧ (Int32.toInt z1) ≤ 5) → Int.toNat (5 - (Int32.toInt z1)) < n2 → WW p l e ({ frames := 4, cells := 0, slots := 0, locals := 85 } : Room) s m args below meth c A Q g 4 0 0 [(h0, .inr (4, [.ref h1, .int x1])), (h1, .inl (gB g, 1500, .inl fn0))] 2 [(3, .int z1), (0, .ref h0), (1, .int x0), (2, .ref (g.2.2.1 7))] [] := by
    intro n2
    induction n2 with
    | zero => intro z1 i6 hm5; exact absurd hm5 (Nat.not_lt_zero _)
    | succ n2 ih4 =>
      intro z1 i6 hm5
      obtain ⟨i6a, i6b⟩ := i6
      refine r_iload_n 2 0 C dX10_isAt_2 rfl ?_
      refine r_aload_n 3 3 C dX10_isAt_3 rfl ?_
      refine r_scallVi 4 C dX10_isAt_4 [.int z1] 7 (by decide) [] [(h0, .inr (4, [.ref h1, .int x1])), (h1, .inl (gB g, 1500, .inl fn0))] (fun sz => c198_J0_length_8abf5 l g   sz) gX10_isAt_J0_length_8abf5 rfl ⟨rfl, rfl⟩ 0 (by decide) ⟨Nat.le_of_ble_eq_true rfl, Nat.le_of_ble_eq_true rfl⟩ [] [0, 1] rfl rfl (by decide) (by decide) (by decide) rfl rfl (Nat.le_of_ble_eq_true rfl) ⟨Nat.le_of_ble_eq_true rfl, Nat.le_of_ble_eq_true rfl⟩ (fun r7 _ w8 => ?_)
      refine r_ws [(h0, .inr (4, [.ref h1, .int x1])), (h1, .inl (gB g, 1500, .inl fn0))] rfl ?_
      have p9 : 5 = r7 := (w8).symm
      subst p9
      refine r_icmp_ge 7 34 C dX10_isAt_7 (by decide) (fun c10 => ?_) (fun c10 => ?_)
      · skip
        have k11 : 5 ≤ (Int32.toInt z1) := (fa_le 5 z1).mp c10
        refine r_iconst 34 1 C dX10_isAt_34 (by decide) ?_
        exact r_zret 35 Rt dX10_isAt_35 (by decide) () (show 0 ≤ (Int32.toInt 1) ∧ (Int32.toInt 1) ≤ 1 from ⟨(by ((repeat' apply And.intro) <;> first | trivial | rfl | assumption | omega | decide | exact Or.inl rfl | exact Or.inr (Or.inl rfl) | exact Or.inr (Or.inr rfl))), (by ((repeat' apply And.intro) <;> first | trivial | rfl | assumption | omega | decide | exact Or.inl rfl | exact Or.inr (Or.inl rfl) | exact Or.inr (Or.inr rfl)))⟩) [0, 1] (by decide) rfl (Nat.le_of_ble_eq_true rfl) (Nat.le_of_ble_eq_true rfl)
      · skip
        have k12 : ¬ (5 ≤ (Int32.toInt z1)) := fun h_9 => c10 ((fa_le 5 z1).mpr h_9)
        refine r_aload_n 10 1 C dX10_isAt_10 rfl ?_
        refine r_iload_n 11 2 C dX10_isAt_11 rfl ?_
        refine r_iload_n 12 0 C dX10_isAt_12 rfl ?_
        obtain ⟨z13, ez13⟩ : ∃ z_9, x0 + z1 = z_9 := ⟨_, rfl⟩
        have gz13 := fb_rng z13
        refine r_iadd 13 z13 C dX10_isAt_13 ez13 ?_
        obtain ⟨z14, ez14⟩ : ∃ z_9, Int32.toInt64 z13 = z_9 := ⟨_, rfl⟩
        have tz14 : (Int64.toInt z14) = (Int32.toInt z13) := by rw [← ez14]; exact Int32.toInt_toInt64 _
        refine r_i2l 14 z14 C dX10_isAt_14 ez14 ?_
        refine r_callVi 15 C dX10_isAt_15 [] [(h0, .inr (4, [.ref h1, .int x1])), (h1, .inl (gB g, 1500, .inl fn0))] [] (fun sz => c14_X5_get l g h0 h1 z14 x1 fn0 i_x1 sz) gX10_isAt_X5_get rfl ⟨rfl, rfl⟩ 1 (by decide) ⟨Nat.le_of_ble_eq_true rfl, Nat.le_of_ble_eq_true rfl⟩ 0 rfl rfl [0, 1] [] rfl rfl (by decide) (by decide) (by decide) rfl rfl (Nat.le_of_ble_eq_true rfl) ⟨Nat.le_of_ble_eq_true rfl, Nat.le_of_ble_eq_true rfl⟩ (fun r15 _ w16 => ?_)
        refine r_ws [(h0, .inr (4, [.ref h1, .int x1])), (h1, .inl (gB g, 1500, .inl fn0))] rfl ?_
        have p17 : -1 ≤ (Int32.toInt r15) := w16.1
        have p18 : (Int32.toInt r15) ≤ 255 := w16.2
        refine r_aload_n 18 3 C dX10_isAt_18 rfl ?_
        refine r_iload_n 19 0 C dX10_isAt_19 rfl ?_
        refine r_scallVi 20 C dX10_isAt_20 [.int r15] 7 (by decide) [] [(h0, .inr (4, [.ref h1, .int x1])), (h1, .inl (gB g, 1500, .inl fn0))] (fun sz => c201_J0_charAt_5068e l g z1 ⟨by omega, by omega⟩ sz) gX10_isAt_J0_charAt_5068e rfl ⟨rfl, rfl⟩ 1 (by decide) ⟨Nat.le_of_ble_eq_true rfl, Nat.le_of_ble_eq_true rfl⟩ [] [0, 1] rfl rfl (by decide) (by decide) (by decide) rfl rfl (Nat.le_of_ble_eq_true rfl) ⟨Nat.le_of_ble_eq_true rfl, Nat.le_of_ble_eq_true rfl⟩ (fun r19 _ w20 => ?_)
        refine r_ws [(h0, .inr (4, [.ref h1, .int x1])), (h1, .inl (gB g, 1500, .inl fn0))] rfl ?_
        have p21 : 0 ≤ (Int32.toInt r19) := w20.1
        have p22 : (Int32.toInt r19) ≤ 65535 := w20.2
        refine r_icmp_eq 23 28 C dX10_isAt_23 (by decide) (fun c23 => ?_) (fun c23 => ?_)
        · skip
          have k24 : (Int32.toInt r15) = (Int32.toInt r19) := (fa_eq r15 r19).mp c23
          obtain ⟨z25, ez25⟩ : ∃ z_9, z1 + Int32.ofInt 1 = z_9 := ⟨_, rfl⟩
          have tz25 : (Int32.toInt z25) = (Int32.toInt z1) + 1 := by rw [← ez25]; exact fb_addIv (a := 0) (b := 5) (c := 1) (d := 1) ⟨i6a, i6b⟩ ⟨by decide, by decide⟩ (by decide) (by decide)
          refine r_iinc 28 0 z25 C dX10_isAt_28 rfl ez25 [(3, .int z25), (0, .ref h0), (1, .int x0), (2, .ref (g.2.2.1 7))] (by decide) rfl ?_
          refine r_goto 31 2 C dX10_isAt_31 (by decide) ?_
          exact ih4 z25 ⟨by omega, by omega⟩ (by omega)
        · skip
          have k26 : ¬ ((Int32.toInt r15) = (Int32.toInt r19)) := fun h_9 => c23 ((fa_eq r15 r19).mpr h_9)
          refine r_iconst 26 0 C dX10_isAt_26 (by decide) ?_
          exact r_zret 27 Rt dX10_isAt_27 (by decide) () (show 0 ≤ (Int32.toInt 0) ∧ (Int32.toInt 0) ≤ 1 from ⟨(by ((repeat' apply And.intro) <;> first | trivial | rfl | assumption | omega | decide | exact Or.inl rfl | exact Or.inr (Or.inl rfl) | exact Or.inr (Or.inr rfl))), (by ((repeat' apply And.intro) <;> first | trivial | rfl | assumption | omega | decide | exact Or.inl rfl | exact Or.inr (Or.inl rfl) | exact Or.inr (Or.inr rfl)))⟩) [0, 1] (by decide) rfl (Nat.le_of_ble_eq_true rfl) (Nat.le_of_ble_eq_true rfl)
  exact lp3 _ 0 (by decide) (Nat.lt_succ_self _)
set_option maxHeartbeats 4000000 in
set_option maxRecDepth 100000 in
theorem c203_X10_isWord (l : Launch) (g : GD) (h0 : Nat) (h1 : Nat) (h2 : Nat) (h3 : Nat) (x0 : Int32) (x1 : Int32) (x2 : Int32) (x3 : Int32) (x4 : Int32) (x5 : Int32) (x6 : Int32) (x7 : Int32) (x8 : Int32) (fn0 : Nat → Int32) (i_x4 : (0 ≤ (Int32.toInt x4) ∧ (Int32.toInt x4) ≤ 1)) (i_x8 : (0 ≤ (Int32.toInt x8) ∧ (Int32.toInt x8) ≤ 1500)) (sz : Nat) : Met l yX10_isWord wsX10_isWord ({ frames := 5, cells := 0, slots := 0, locals := 108 }) (va_Pc [.ref h0, .ref (g.2.2.1 7)] (PW g [(h0, .inr (9, [.ref h3, .ref h1, .int x0, .int x1, .int x2, .int x3, .int x4, .int x5, .int x6, .int x7])), (h1, .inr (4, [.ref h2, .int x8])), (h2, .inl (gB g, 1500, .inl fn0))] sz)) (va_Qi (fun (r : Int32) (_ : Unit) => 0 ≤ (Int32.toInt r) ∧ (Int32.toInt r) ≤ 1) (BW g (va_A [(h0, .inr (9, [.ref h3, .ref h1, .int x0, .int x1, .int x2, .int x3, .int x4, .int x5, .int x6, .int x7])), (h1, .inr (4, [.ref h2, .int x8])), (h2, .inl (gB g, 1500, .inl fn0))] sz) (fun _ : Unit => [(h0, .inr (9, [.ref h3, .ref h1, .int x0, .int x1, .int x2, .int x3, .int x4, .int x5, .int x6, .int x7])), (h1, .inr (4, [.ref h2, .int x8])), (h2, .inl (gB g, 1500, .inl fn0))])) (va_A [(h0, .inr (9, [.ref h3, .ref h1, .int x0, .int x1, .int x2, .int x3, .int x4, .int x5, .int x6, .int x7])), (h1, .inr (4, [.ref h2, .int x8])), (h2, .inl (gB g, 1500, .inl fn0))] sz)) 0 0 (va_A [(h0, .inr (9, [.ref h3, .ref h1, .int x0, .int x1, .int x2, .int x3, .int x4, .int x5, .int x6, .int x7])), (h1, .inr (4, [.ref h2, .int x8])), (h2, .inl (gB g, 1500, .inl fn0))] sz) := by
  refine met_z RX10 (by decide) rfl rfl (Nat.le_of_ble_eq_true rfl) [(0, .ref h0), (1, .ref (g.2.2.1 7))] rfl ?_
  intro p e s m args below meth c A Q C hnm Rt
  have hiX10 : ∀ w ∈ wsX100, w ∈ wsX10_isWord := fun w h => List.mem_cons_of_mem _ (List.mem_append_left _ (List.mem_append_right _ (h)))
  refine r_aload_n 0 0 C dX10_isWord_0 rfl ?_
  refine r_get 1 C dX10_isWord_1 (k := 4) 0 rfl rfl hiX10 (by decide) rfl (mg 1 rfl) (Or.inl rfl) rfl ?_
  refine r_aload_n 4 0 C dX10_isWord_4 rfl ?_
  refine r_get 5 C dX10_isWord_5 (k := 3) 0 rfl rfl hiX10 (by decide) rfl (mg 2 rfl) (Or.inl rfl) rfl ?_
  obtain ⟨z1, ez1⟩ : ∃ z_9, x2 - x1 = z_9 := ⟨_, rfl⟩
  have gz1 := fb_rng z1
  refine r_isub 8 z1 C dX10_isWord_8 ez1 ?_
  refine r_aload_n 9 1 C dX10_isWord_9 rfl ?_
  refine r_scallVi 10 C dX10_isWord_10 [.int z1] 7 (by decide) [] [(h0, .inr (9, [.ref h3, .ref h1, .int x0, .int x1, .int x2, .int x3, .int x4, .int x5, .int x6, .int x7])), (h1, .inr (4, [.ref h2, .int x8])), (h2, .inl (gB g, 1500, .inl fn0))] (fun sz => c198_J0_length_8abf5 l g   sz) gX10_isWord_J0_length_8abf5 rfl ⟨rfl, rfl⟩ 0 (by decide) ⟨Nat.le_of_ble_eq_true rfl, Nat.le_of_ble_eq_true rfl⟩ [] [0, 1, 2] rfl rfl (by decide) (by decide) (by decide) rfl rfl (Nat.le_of_ble_eq_true rfl) ⟨Nat.le_of_ble_eq_true rfl, Nat.le_of_ble_eq_true rfl⟩ (fun r2 _ w3 => ?_)
  refine r_ws [(h0, .inr (9, [.ref h3, .ref h1, .int x0, .int x1, .int x2, .int x3, .int x4, .int x5, .int x6, .int x7])), (h1, .inr (4, [.ref h2, .int x8])), (h2, .inl (gB g, 1500, .inl fn0))] rfl ?_
  have p4 : 5 = r2 := (w3).symm
  subst p4
  refine r_icmp_ne 13 35 C dX10_isWord_13 (by decide) (fun c5 => ?_) (fun c5 => ?_)
  · skip
    have k6 : ¬ ((Int32.toInt z1) = 5) := fun h_9 => c5 ((fa_eq z1 5).mpr h_9)
    refine r_iconst 35 0 C dX10_isWord_35 (by decide) ?_
    exact r_zret 36 Rt dX10_isWord_36 (by decide) () (show 0 ≤ (Int32.toInt 0) ∧ (Int32.toInt 0) ≤ 1 from ⟨(by ((repeat' apply And.intro) <;> first | trivial | rfl | assumption | omega | decide | exact Or.inl rfl | exact Or.inr (Or.inl rfl) | exact Or.inr (Or.inr rfl))), (by ((repeat' apply And.intro) <;> first | trivial | rfl | assumption | omega | decide | exact Or.inl rfl | exact Or.inr (Or.inl rfl) | exact Or.inr (Or.inr rfl)))⟩) [0, 1, 2] (by decide) rfl (Nat.le_of_ble_eq_true rfl) (Nat.le_of_ble_eq_true rfl)
  · skip
    have k7 : (Int32.toInt z1) = 5 := (fa_eq z1 5).mp c5
    refine r_aload_n 16 0 C dX10_isWord_16 rfl ?_
    refine r_get 17 C dX10_isWord_17 (k := 1) 0 rfl rfl hiX10 (by decide) rfl (mg 3 rfl) (Or.inl rfl) rfl ?_
    refine r_aload_n 20 0 C dX10_isWord_20 rfl ?_
    refine r_get 21 C dX10_isWord_21 (k := 3) 0 rfl rfl hiX10 (by decide) rfl (mg 2 rfl) (Or.inl rfl) rfl ?_
    refine r_aload_n 24 1 C dX10_isWord_24 rfl ?_
    refine r_callSi 25 C dX10_isWord_25 [] [(h1, .inr (4, [.ref h2, .int x8])), (h2, .inl (gB g, 1500, .inl fn0))] [(h0, .inr (9, [.ref h3, .ref h1, .int x0, .int x1, .int x2, .int x3, .int x4, .int x5, .int x6, .int x7]))] (fun sz => c202_X10_isAt l g h1 h2 x1 x8 fn0 i_x8 sz) gX10_isWord_X10_isAt rfl ⟨rfl, rfl⟩ 3 (by decide) ⟨Nat.le_of_ble_eq_true rfl, Nat.le_of_ble_eq_true rfl⟩ [1, 2] [0] rfl rfl (by decide) (by decide) (by decide) rfl rfl (Nat.le_of_ble_eq_true rfl) ⟨Nat.le_of_ble_eq_true rfl, Nat.le_of_ble_eq_true rfl⟩ (fun r8 _ w9 => ?_)
    refine r_ws [(h0, .inr (9, [.ref h3, .ref h1, .int x0, .int x1, .int x2, .int x3, .int x4, .int x5, .int x6, .int x7])), (h1, .inr (4, [.ref h2, .int x8])), (h2, .inl (gB g, 1500, .inl fn0))] rfl ?_
    have p10 : 0 ≤ (Int32.toInt r8) := w9.1
    have p11 : (Int32.toInt r8) ≤ 1 := w9.2
    refine r_if_eq 28 35 C dX10_isWord_28 (by decide) (fun c12 => ?_) (fun c12 => ?_)
    · skip
      have k13 : (Int32.toInt r8) = 0 := (fa_eq r8 0).mp c12
      refine r_iconst 35 0 C dX10_isWord_35 (by decide) ?_
      exact r_zret 36 Rt dX10_isWord_36 (by decide) () (show 0 ≤ (Int32.toInt 0) ∧ (Int32.toInt 0) ≤ 1 from ⟨(by ((repeat' apply And.intro) <;> first | trivial | rfl | assumption | omega | decide | exact Or.inl rfl | exact Or.inr (Or.inl rfl) | exact Or.inr (Or.inr rfl))), (by ((repeat' apply And.intro) <;> first | trivial | rfl | assumption | omega | decide | exact Or.inl rfl | exact Or.inr (Or.inl rfl) | exact Or.inr (Or.inr rfl)))⟩) [0, 1, 2] (by decide) rfl (Nat.le_of_ble_eq_true rfl) (Nat.le_of_ble_eq_true rfl)
    · skip
      have k14 : ¬ ((Int32.toInt r8) = 0) := fun h_9 => c12 ((fa_eq r8 0).mpr h_9)
      refine r_iconst 31 1 C dX10_isWord_31 (by decide) ?_
      refine r_goto 32 36 C dX10_isWord_32 (by decide) ?_
      exact r_zret 36 Rt dX10_isWord_36 (by decide) () (show 0 ≤ (Int32.toInt 1) ∧ (Int32.toInt 1) ≤ 1 from ⟨(by ((repeat' apply And.intro) <;> first | trivial | rfl | assumption | omega | decide | exact Or.inl rfl | exact Or.inr (Or.inl rfl) | exact Or.inr (Or.inr rfl))), (by ((repeat' apply And.intro) <;> first | trivial | rfl | assumption | omega | decide | exact Or.inl rfl | exact Or.inr (Or.inl rfl) | exact Or.inr (Or.inr rfl)))⟩) [0, 1, 2] (by decide) rfl (Nat.le_of_ble_eq_true rfl) (Nat.le_of_ble_eq_true rfl)
set_option maxHeartbeats 4000000 in
set_option maxRecDepth 100000 in
theorem c204_X10_takeThisWord (l : Launch) (g : GD) (h0 : Nat) (h1 : Nat) (h2 : Nat) (h3 : Nat) (x0 : Int32) (x1 : Int32) (x2 : Int32) (x3 : Int32) (x4 : Int32) (x5 : Int32) (x6 : Int32) (x7 : Int32) (x8 : Int32) (fn0 : Nat → Int32) (i_x4 : (0 ≤ (Int32.toInt x4) ∧ (Int32.toInt x4) ≤ 1)) (i_x8 : (0 ≤ (Int32.toInt x8) ∧ (Int32.toInt x8) ≤ 1500)) (sz : Nat) : Met l yX10_takeThisWord wsX10_takeThisWord ({ frames := 6, cells := 0, slots := 0, locals := 129 }) (va_Pc [.ref h0, .ref (g.2.2.1 7)] (PW g [(h0, .inr (9, [.ref h3, .ref h1, .int x0, .int x1, .int x2, .int x3, .int x4, .int x5, .int x6, .int x7])), (h1, .inr (4, [.ref h2, .int x8])), (h2, .inl (gB g, 1500, .inl fn0))] sz)) (va_Qi (fun (r : Int32) (u : (Int32) × (Int32) × (Int32)) => 0 ≤ (Int32.toInt r) ∧ (Int32.toInt r) ≤ 2) (BW g (va_A [(h0, .inr (9, [.ref h3, .ref h1, .int x0, .int x1, .int x2, .int x3, .int x4, .int x5, .int x6, .int x7])), (h1, .inr (4, [.ref h2, .int x8])), (h2, .inl (gB g, 1500, .inl fn0))] sz) (fun u : (Int32) × (Int32) × (Int32) => [(h0, .inr (9, [.ref h3, .ref h1, .int u.1, .int u.2.1, .int u.2.2, .int x3, .int x4, .int x5, .int x6, .int x7])), (h1, .inr (4, [.ref h2, .int x8])), (h2, .inl (gB g, 1500, .inl fn0))])) (va_A [(h0, .inr (9, [.ref h3, .ref h1, .int x0, .int x1, .int x2, .int x3, .int x4, .int x5, .int x6, .int x7])), (h1, .inr (4, [.ref h2, .int x8])), (h2, .inl (gB g, 1500, .inl fn0))] sz)) 0 0 (va_A [(h0, .inr (9, [.ref h3, .ref h1, .int x0, .int x1, .int x2, .int x3, .int x4, .int x5, .int x6, .int x7])), (h1, .inr (4, [.ref h2, .int x8])), (h2, .inl (gB g, 1500, .inl fn0))] sz) := by
  refine met_i RX10 (by decide) rfl rfl (Nat.le_of_ble_eq_true rfl) [(0, .ref h0), (1, .ref (g.2.2.1 7))] rfl ?_
  intro p e s m args below meth c A Q C hnm Rt
  refine r_aload_n 0 0 C dX10_takeThisWord_0 rfl ?_
  refine r_callVi 1 C dX10_takeThisWord_1 [] [(h0, .inr (9, [.ref h3, .ref h1, .int x0, .int x1, .int x2, .int x3, .int x4, .int x5, .int x6, .int x7])), (h1, .inr (4, [.ref h2, .int x8])), (h2, .inl (gB g, 1500, .inl fn0))] [] (fun sz => c115_X10_takeWord l g h0 h1 h2 h3 x0 x1 x2 x3 x4 x5 x6 x7 x8 fn0 i_x4 i_x8 sz) gX10_takeThisWord_X10_takeWord rfl ⟨rfl, rfl⟩ 0 (by decide) ⟨Nat.le_of_ble_eq_true rfl, Nat.le_of_ble_eq_true rfl⟩ 0 rfl rfl [0, 1, 2] [] rfl rfl (by decide) (by decide) (by decide) rfl rfl (Nat.le_of_ble_eq_true rfl) ⟨Nat.le_of_ble_eq_true rfl, Nat.le_of_ble_eq_true rfl⟩ (fun r4 u6 w5 => ?_)
  obtain ⟨z1, z2, z3⟩ := u6
  refine r_ws [(h0, .inr (9, [.ref h3, .ref h1, .int z1, .int z2, .int z3, .int x3, .int x4, .int x5, .int x6, .int x7])), (h1, .inr (4, [.ref h2, .int x8])), (h2, .inl (gB g, 1500, .inl fn0))] rfl ?_
  have gz1 := fb_rng z1
  have gz2 := fb_rng z2
  have gz3 := fb_rng z3
  have p7 : 0 ≤ (Int32.toInt r4) := w5.1
  have p8 : (Int32.toInt r4) ≤ 1 := w5.2
  refine r_if_ne 4 9 C dX10_takeThisWord_4 (by decide) (fun c9 => ?_) (fun c9 => ?_)
  · skip
    have k10 : ¬ ((Int32.toInt r4) = 0) := fun h_9 => c9 ((fa_eq r4 0).mpr h_9)
    refine r_aload_n 9 0 C dX10_takeThisWord_9 rfl ?_
    refine r_aload_n 10 1 C dX10_takeThisWord_10 rfl ?_
    refine r_callVi 11 C dX10_takeThisWord_11 [] [(h0, .inr (9, [.ref h3, .ref h1, .int z1, .int z2, .int z3, .int x3, .int x4, .int x5, .int x6, .int x7])), (h1, .inr (4, [.ref h2, .int x8])), (h2, .inl (gB g, 1500, .inl fn0))] [] (fun sz => c203_X10_isWord l g h0 h1 h2 h3 z1 z2 z3 x3 x4 x5 x6 x7 x8 fn0 i_x4 i_x8 sz) gX10_takeThisWord_X10_isWord rfl ⟨rfl, rfl⟩ 1 (by decide) ⟨Nat.le_of_ble_eq_true rfl, Nat.le_of_ble_eq_true rfl⟩ 0 rfl rfl [0, 1, 2] [] rfl rfl (by decide) (by decide) (by decide) rfl rfl (Nat.le_of_ble_eq_true rfl) ⟨Nat.le_of_ble_eq_true rfl, Nat.le_of_ble_eq_true rfl⟩ (fun r11 _ w12 => ?_)
    refine r_ws [(h0, .inr (9, [.ref h3, .ref h1, .int z1, .int z2, .int z3, .int x3, .int x4, .int x5, .int x6, .int x7])), (h1, .inr (4, [.ref h2, .int x8])), (h2, .inl (gB g, 1500, .inl fn0))] rfl ?_
    have p13 : 0 ≤ (Int32.toInt r11) := w12.1
    have p14 : (Int32.toInt r11) ≤ 1 := w12.2
    refine r_if_eq 14 21 C dX10_takeThisWord_14 (by decide) (fun c15 => ?_) (fun c15 => ?_)
    · skip
      have k16 : (Int32.toInt r11) = 0 := (fa_eq r11 0).mp c15
      refine r_iconst 21 2 C dX10_takeThisWord_21 (by decide) ?_
      exact r_iret 22 Rt dX10_takeThisWord_22 (z1, z2, z3) (show 0 ≤ (Int32.toInt 2) ∧ (Int32.toInt 2) ≤ 2 from ⟨(by ((repeat' apply And.intro) <;> first | trivial | rfl | assumption | omega | decide | exact Or.inl rfl | exact Or.inr (Or.inl rfl) | exact Or.inr (Or.inr rfl))), (by ((repeat' apply And.intro) <;> first | trivial | rfl | assumption | omega | decide | exact Or.inl rfl | exact Or.inr (Or.inl rfl) | exact Or.inr (Or.inr rfl)))⟩) [0, 1, 2] (by decide) rfl (Nat.le_of_ble_eq_true rfl) (Nat.le_of_ble_eq_true rfl)
    · skip
      have k17 : ¬ ((Int32.toInt r11) = 0) := fun h_9 => c15 ((fa_eq r11 0).mpr h_9)
      refine r_iconst 17 0 C dX10_takeThisWord_17 (by decide) ?_
      refine r_goto 18 22 C dX10_takeThisWord_18 (by decide) ?_
      exact r_iret 22 Rt dX10_takeThisWord_22 (z1, z2, z3) (show 0 ≤ (Int32.toInt 0) ∧ (Int32.toInt 0) ≤ 2 from ⟨(by ((repeat' apply And.intro) <;> first | trivial | rfl | assumption | omega | decide | exact Or.inl rfl | exact Or.inr (Or.inl rfl) | exact Or.inr (Or.inr rfl))), (by ((repeat' apply And.intro) <;> first | trivial | rfl | assumption | omega | decide | exact Or.inl rfl | exact Or.inr (Or.inl rfl) | exact Or.inr (Or.inr rfl)))⟩) [0, 1, 2] (by decide) rfl (Nat.le_of_ble_eq_true rfl) (Nat.le_of_ble_eq_true rfl)
  · skip
    have k18 : (Int32.toInt r4) = 0 := (fa_eq r4 0).mp c9
    refine r_iconst 7 1 C dX10_takeThisWord_7 (by decide) ?_
    exact r_iret 8 Rt dX10_takeThisWord_8 (z1, z2, z3) (show 0 ≤ (Int32.toInt 1) ∧ (Int32.toInt 1) ≤ 2 from ⟨(by ((repeat' apply And.intro) <;> first | trivial | rfl | assumption | omega | decide | exact Or.inl rfl | exact Or.inr (Or.inl rfl) | exact Or.inr (Or.inr rfl))), (by ((repeat' apply And.intro) <;> first | trivial | rfl | assumption | omega | decide | exact Or.inl rfl | exact Or.inr (Or.inl rfl) | exact Or.inr (Or.inr rfl)))⟩) [0, 1, 2] (by decide) rfl (Nat.le_of_ble_eq_true rfl) (Nat.le_of_ble_eq_true rfl)
set_option maxHeartbeats 4000000 in
set_option maxRecDepth 100000 in
theorem c205_J0_coder_7d493 (l : Launch) (g : GD) (sz : Nat) : Met l yJ0_coder_7d493 wsJ0_coder_7d493 ({ frames := 0, cells := 0, slots := 0, locals := 0 }) (va_Pc [.ref (g.2.2.1 8)] (PW g [] sz)) (va_Qi (fun (r : Int32) (_ : Unit) => r = 0) (BW g (va_A [] sz) (fun _ : Unit => [])) (va_A [] sz)) 0 0 (va_A [] sz) := by
  refine met_b RJ0 (by decide) rfl rfl (Nat.le_of_ble_eq_true rfl) [(0, .ref (g.2.2.1 8))] rfl ?_
  intro p e s m args below meth c A Q C hnm Rt
  refine r_gets 0 C dJ0_coder_7d493_0 C.2.2.2.2.2.1.2.2.2.2.1 (mg 1 rfl) ?_
  refine r_if_eq_f 3 13 C dJ0_coder_7d493_3 (by decide) (by decide) ?_
  refine r_aload_n 6 0 C dJ0_coder_7d493_6 rfl ?_
  refine r_sget 7 8 C dJ0_coder_7d493_7 ((C.2.2.2.2.2.1.2.2.1.1 8 (by decide)).2.1) (mg 2 rfl) ?_
  refine r_goto 10 14 C dJ0_coder_7d493_10 (by decide) ?_
  exact r_bret 14 Rt dJ0_coder_7d493_14 (by decide) () (show 0 = 0 from (by ((repeat' apply And.intro) <;> first | trivial | rfl | assumption | omega | decide | exact Or.inl rfl | exact Or.inr (Or.inl rfl) | exact Or.inr (Or.inr rfl)))) [] (by decide) rfl (Nat.le_of_ble_eq_true rfl) (Nat.le_of_ble_eq_true rfl)
set_option maxHeartbeats 4000000 in
set_option maxRecDepth 100000 in
theorem c206_J0_length_8abf5 (l : Launch) (g : GD) (sz : Nat) : Met l yJ0_length_8abf5 wsJ0_length_8abf5 ({ frames := 1, cells := 0, slots := 0, locals := 20 }) (va_Pc [.ref (g.2.2.1 8)] (PW g [] sz)) (va_Qi (fun (r : Int32) (_ : Unit) => r = 3) (BW g (va_A [] sz) (fun _ : Unit => [])) (va_A [] sz)) 0 0 (va_A [] sz) := by
  refine met_i RJ0 (by decide) rfl rfl (Nat.le_of_ble_eq_true rfl) [(0, .ref (g.2.2.1 8))] rfl ?_
  intro p e s m args below meth c A Q C hnm Rt
  refine r_aload_n 0 0 C dJ0_length_8abf5_0 rfl ?_
  refine r_sget 1 8 C dJ0_length_8abf5_1 ((C.2.2.2.2.2.1.2.2.1.1 8 (by decide)).2.2.1) (mg 1 rfl) ?_
  refine r_stlen 4 3 C dJ0_length_8abf5_4 ((C.2.2.2.2.2.1.2.2.1.1 8 (by decide)).2.2.2) (by decide) ?_
  refine r_aload_n 5 0 C dJ0_length_8abf5_5 rfl ?_
  refine r_scallVi 6 C dJ0_length_8abf5_6 [.int 3] 8 (by decide) [] [] (fun sz => c205_J0_coder_7d493 l g   sz) gJ0_length_8abf5_J0_coder_7d493 rfl ⟨rfl, rfl⟩ 0 (by decide) ⟨Nat.le_of_ble_eq_true rfl, Nat.le_of_ble_eq_true rfl⟩ [] [] rfl rfl (by decide) (by decide) (by decide) rfl rfl (Nat.le_of_ble_eq_true rfl) ⟨Nat.le_of_ble_eq_true rfl, Nat.le_of_ble_eq_true rfl⟩ (fun r1 _ w2 => ?_)
  refine r_ws [] rfl ?_
  have p3 : 0 = r1 := (w2).symm
  subst p3
  refine r_ishr 9 3 C dJ0_length_8abf5_9 (by decide) ?_
  exact r_iret 10 Rt dJ0_length_8abf5_10 () (show 3 = 3 from (by ((repeat' apply And.intro) <;> first | trivial | rfl | assumption | omega | decide | exact Or.inl rfl | exact Or.inr (Or.inl rfl) | exact Or.inr (Or.inr rfl)))) [] (by decide) rfl (Nat.le_of_ble_eq_true rfl) (Nat.le_of_ble_eq_true rfl)
set_option maxHeartbeats 4000000 in
set_option maxRecDepth 100000 in
theorem c207_J0_isLatin1_aae02 (l : Launch) (g : GD) (sz : Nat) : Met l yJ0_isLatin1_aae02 wsJ0_isLatin1_aae02 ({ frames := 0, cells := 0, slots := 0, locals := 0 }) (va_Pc [.ref (g.2.2.1 8)] (PW g [] sz)) (va_Qi (fun (r : Int32) (_ : Unit) => r = 1) (BW g (va_A [] sz) (fun _ : Unit => [])) (va_A [] sz)) 0 0 (va_A [] sz) := by
  refine met_z RJ0 (by decide) rfl rfl (Nat.le_of_ble_eq_true rfl) [(0, .ref (g.2.2.1 8))] rfl ?_
  intro p e s m args below meth c A Q C hnm Rt
  refine r_gets 0 C dJ0_isLatin1_aae02_0 C.2.2.2.2.2.1.2.2.2.2.1 (mg 1 rfl) ?_
  refine r_if_eq_f 3 17 C dJ0_isLatin1_aae02_3 (by decide) (by decide) ?_
  refine r_aload_n 6 0 C dJ0_isLatin1_aae02_6 rfl ?_
  refine r_sget 7 8 C dJ0_isLatin1_aae02_7 ((C.2.2.2.2.2.1.2.2.1.1 8 (by decide)).2.1) (mg 2 rfl) ?_
  refine r_if_ne_f 10 17 C dJ0_isLatin1_aae02_10 (by decide) (by decide) ?_
  refine r_iconst 13 1 C dJ0_isLatin1_aae02_13 (by decide) ?_
  refine r_goto 14 18 C dJ0_isLatin1_aae02_14 (by decide) ?_
  exact r_zret 18 Rt dJ0_isLatin1_aae02_18 (by decide) () (show 1 = 1 from (by ((repeat' apply And.intro) <;> first | trivial | rfl | assumption | omega | decide | exact Or.inl rfl | exact Or.inr (Or.inl rfl) | exact Or.inr (Or.inr rfl)))) [] (by decide) rfl (Nat.le_of_ble_eq_true rfl) (Nat.le_of_ble_eq_true rfl)
set_option maxHeartbeats 4000000 in
set_option maxRecDepth 100000 in
theorem c208_J1_charAt_3b067 (l : Launch) (g : GD) (x0 : Int32) (i_x0 : (0 ≤ (Int32.toInt x0) ∧ (Int32.toInt x0) ≤ 2)) (sz : Nat) : Met l yJ1_charAt_3b067 wsJ1_charAt_3b067 ({ frames := 2, cells := 0, slots := 0, locals := 43 }) (va_Pc [.ref (g.2.2.2 8), .int x0] (PW g [] sz)) (va_Qi (fun (r : Int32) (_ : Unit) => 0 ≤ (Int32.toInt r) ∧ (Int32.toInt r) ≤ 65535) (BW g (va_A [] sz) (fun _ : Unit => [])) (va_A [] sz)) 0 0 (va_A [] sz) := by
  refine met_c RJ1 (by decide) rfl rfl (Nat.le_of_ble_eq_true rfl) [(0, .ref (g.2.2.2 8)), (1, .int x0)] rfl ?_
  intro p e s m args below meth c A Q C hnm Rt
  refine r_iload_n 0 1 C dJ1_charAt_3b067_0 rfl ?_
  refine r_aload_n 1 0 C dJ1_charAt_3b067_1 rfl ?_
  refine r_stlen 2 3 C dJ1_charAt_3b067_2 ((C.2.2.2.2.2.1.2.2.1.1 8 (by decide)).2.2.2) (by decide) ?_
  refine r_callSv 3 C dJ1_charAt_3b067_3 [] [] [] (fun sz => c148_J0_checkIndex_df160 l g x0 i_x0 sz) gJ1_charAt_3b067_J0_checkIndex_df160 rfl ⟨rfl, rfl⟩ 2 (by decide) ⟨Nat.le_of_ble_eq_true rfl, Nat.le_of_ble_eq_true rfl⟩ [] [] rfl rfl (by decide) (by decide) (by decide) rfl rfl (Nat.le_of_ble_eq_true rfl) ⟨Nat.le_of_ble_eq_true rfl, Nat.le_of_ble_eq_true rfl⟩ (fun  _ w1 => ?_)
  refine r_ws [] rfl ?_
  refine r_aload_n 6 0 C dJ1_charAt_3b067_6 rfl ?_
  refine r_iload_n 7 1 C dJ1_charAt_3b067_7 rfl ?_
  obtain ⟨z2, ez2⟩ : ∃ z_9, (stB.getD 8 []).getD (Int32.toNatClampNeg x0) 0 = z_9 := ⟨_, rfl⟩
  refine r_stb 8 (.int z2) C dJ1_charAt_3b067_8 ((C.2.2.2.2.2.1.2.2.1.1 8 (by decide)).2.2.2) (vinI (n := 3) (by omega) (by omega)) (by rw [← ez2]) ?_
  have gz2 := fb_rng z2
  refine r_sipush 9 255 C dJ1_charAt_3b067_9 (by decide) ?_
  obtain ⟨z3, ez3⟩ : ∃ z_9, z2 &&& 255 = z_9 := ⟨_, rfl⟩
  have tz3 : 0 ≤ (Int32.toInt z3) ∧ (Int32.toInt z3) ≤ 255 := by rw [← ez3]; exact and_255 z2
  refine r_iand 12 z3 C dJ1_charAt_3b067_12 ez3 ?_
  obtain ⟨z4, ez4⟩ : ∃ z_9, (Int32.toUInt32 z3 % 65536).toInt32 = z_9 := ⟨_, rfl⟩
  have tz4 : 0 ≤ (Int32.toInt z4) ∧ (Int32.toInt z4) ≤ 65535 := by rw [← ez4]; exact chr_in _
  refine r_i2c 13 z4 C dJ1_charAt_3b067_13 ez4 ?_
  exact r_cret 14 Rt dJ1_charAt_3b067_14 (by rw [← ez4]; exact pk_nc _) () (show 0 ≤ (Int32.toInt z4) ∧ (Int32.toInt z4) ≤ 65535 from ⟨(by ((repeat' apply And.intro) <;> first | trivial | rfl | assumption | omega | decide | exact Or.inl rfl | exact Or.inr (Or.inl rfl) | exact Or.inr (Or.inr rfl))), (by ((repeat' apply And.intro) <;> first | trivial | rfl | assumption | omega | decide | exact Or.inl rfl | exact Or.inr (Or.inl rfl) | exact Or.inr (Or.inr rfl)))⟩) [] (by decide) rfl (Nat.le_of_ble_eq_true rfl) (Nat.le_of_ble_eq_true rfl)
set_option maxHeartbeats 4000000 in
set_option maxRecDepth 100000 in
theorem c209_J0_charAt_5068e (l : Launch) (g : GD) (x0 : Int32) (i_x0 : (0 ≤ (Int32.toInt x0) ∧ (Int32.toInt x0) ≤ 2)) (sz : Nat) : Met l yJ0_charAt_5068e wsJ0_charAt_5068e ({ frames := 3, cells := 0, slots := 0, locals := 64 }) (va_Pc [.ref (g.2.2.1 8), .int x0] (PW g [] sz)) (va_Qi (fun (r : Int32) (_ : Unit) => 0 ≤ (Int32.toInt r) ∧ (Int32.toInt r) ≤ 65535) (BW g (va_A [] sz) (fun _ : Unit => [])) (va_A [] sz)) 0 0 (va_A [] sz) := by
  refine met_c RJ0 (by decide) rfl rfl (Nat.le_of_ble_eq_true rfl) [(0, .ref (g.2.2.1 8)), (1, .int x0)] rfl ?_
  intro p e s m args below meth c A Q C hnm Rt
  refine r_aload_n 0 0 C dJ0_charAt_5068e_0 rfl ?_
  refine r_scallVi 1 C dJ0_charAt_5068e_1 [] 8 (by decide) [] [] (fun sz => c207_J0_isLatin1_aae02 l g   sz) gJ0_charAt_5068e_J0_isLatin1_aae02 rfl ⟨rfl, rfl⟩ 0 (by decide) ⟨Nat.le_of_ble_eq_true rfl, Nat.le_of_ble_eq_true rfl⟩ [] [] rfl rfl (by decide) (by decide) (by decide) rfl rfl (Nat.le_of_ble_eq_true rfl) ⟨Nat.le_of_ble_eq_true rfl, Nat.le_of_ble_eq_true rfl⟩ (fun r1 _ w2 => ?_)
  refine r_ws [] rfl ?_
  have p3 : 1 = r1 := (w2).symm
  subst p3
  refine r_if_eq_f 4 16 C dJ0_charAt_5068e_4 (by decide) (by decide) ?_
  refine r_aload_n 7 0 C dJ0_charAt_5068e_7 rfl ?_
  refine r_sget 8 8 C dJ0_charAt_5068e_8 ((C.2.2.2.2.2.1.2.2.1.1 8 (by decide)).2.2.1) (mg 1 rfl) ?_
  refine r_iload_n 11 1 C dJ0_charAt_5068e_11 rfl ?_
  refine r_callSi 12 C dJ0_charAt_5068e_12 [] [] [] (fun sz => c208_J1_charAt_3b067 l g x0 i_x0 sz) gJ0_charAt_5068e_J1_charAt_3b067 rfl ⟨rfl, rfl⟩ 2 (by decide) ⟨Nat.le_of_ble_eq_true rfl, Nat.le_of_ble_eq_true rfl⟩ [] [] rfl rfl (by decide) (by decide) (by decide) rfl rfl (Nat.le_of_ble_eq_true rfl) ⟨Nat.le_of_ble_eq_true rfl, Nat.le_of_ble_eq_true rfl⟩ (fun r4 _ w5 => ?_)
  refine r_ws [] rfl ?_
  have p6 : 0 ≤ (Int32.toInt r4) := w5.1
  have p7 : (Int32.toInt r4) ≤ 65535 := w5.2
  exact r_cret 15 Rt dJ0_charAt_5068e_15 (nc_in (by omega) (by omega)) () (show 0 ≤ (Int32.toInt r4) ∧ (Int32.toInt r4) ≤ 65535 from ⟨(show _ ∧ _ from ⟨p6, p7⟩).1, (show _ ∧ _ from ⟨p6, p7⟩).2⟩) [] (by decide) rfl (Nat.le_of_ble_eq_true rfl) (Nat.le_of_ble_eq_true rfl)
set_option maxHeartbeats 4000000 in
set_option maxRecDepth 100000 in
theorem c210_X10_isAt (l : Launch) (g : GD) (h0 : Nat) (h1 : Nat) (x0 : Int32) (x1 : Int32) (fn0 : Nat → Int32) (i_x1 : (0 ≤ (Int32.toInt x1) ∧ (Int32.toInt x1) ≤ 1500)) (sz : Nat) : Met l yX10_isAt wsX10_isAt ({ frames := 4, cells := 0, slots := 0, locals := 85 }) (va_Pc [.ref h0, .int x0, .ref (g.2.2.1 8)] (PW g [(h0, .inr (4, [.ref h1, .int x1])), (h1, .inl (gB g, 1500, .inl fn0))] sz)) (va_Qi (fun (r : Int32) (_ : Unit) => 0 ≤ (Int32.toInt r) ∧ (Int32.toInt r) ≤ 1) (BW g (va_A [(h0, .inr (4, [.ref h1, .int x1])), (h1, .inl (gB g, 1500, .inl fn0))] sz) (fun _ : Unit => [(h0, .inr (4, [.ref h1, .int x1])), (h1, .inl (gB g, 1500, .inl fn0))])) (va_A [(h0, .inr (4, [.ref h1, .int x1])), (h1, .inl (gB g, 1500, .inl fn0))] sz)) 0 0 (va_A [(h0, .inr (4, [.ref h1, .int x1])), (h1, .inl (gB g, 1500, .inl fn0))] sz) := by
  refine met_z RX10 (by decide) rfl rfl (Nat.le_of_ble_eq_true rfl) [(0, .ref h0), (1, .int x0), (2, .ref (g.2.2.1 8))] rfl ?_
  intro p e s m args below meth c A Q C hnm Rt
  refine r_iconst 0 0 C dX10_isAt_0 (by decide) ?_
  refine r_istore_n 1 C dX10_isAt_1 [(3, .int 0), (0, .ref h0), (1, .int x0), (2, .ref (g.2.2.1 8))] (by decide) rfl ?_
  have lp3 : ∀ (n2 : Nat) (z1 : Int32), (0 ≤ (Int32.toInt z1) ∧ (Int32.toInt z1) ≤ 3) → Int.toNat (3 - (Int32.toInt z1)) < n2 → WW p l e ({ frames := 4, cells := 0, slots := 0, locals := 85 } : Room) s m args below meth c A Q g 4 0 0 [(h0, .inr (4, [.ref h1, .int x1])), (h1, .inl (gB g, 1500, .inl fn0))] 2 [(3, .int z1), (0, .ref h0), (1, .int x0), (2, .ref (g.2.2.1 8))] [] := by
    intro n2
    induction n2 with
    | zero => intro z1 i6 hm5; exact absurd hm5 (Nat.not_lt_zero _)
    | succ n2 ih4 =>
      intro z1 i6 hm5
      obtain ⟨i6a, i6b⟩ := i6
      refine r_iload_n 2 0 C dX10_isAt_2 rfl ?_
      refine r_aload_n 3 3 C dX10_isAt_3 rfl ?_
      refine r_scallVi 4 C dX10_isAt_4 [.int z1] 8 (by decide) [] [(h0, .inr (4, [.ref h1, .int x1])), (h1, .inl (gB g, 1500, .inl fn0))] (fun sz => c206_J0_length_8abf5 l g   sz) gX10_isAt_J0_length_8abf5 rfl ⟨rfl, rfl⟩ 0 (by decide) ⟨Nat.le_of_ble_eq_true rfl, Nat.le_of_ble_eq_true rfl⟩ [] [0, 1] rfl rfl (by decide) (by decide) (by decide) rfl rfl (Nat.le_of_ble_eq_true rfl) ⟨Nat.le_of_ble_eq_true rfl, Nat.le_of_ble_eq_true rfl⟩ (fun r7 _ w8 => ?_)
      refine r_ws [(h0, .inr (4, [.ref h1, .int x1])), (h1, .inl (gB g, 1500, .inl fn0))] rfl ?_
      have p9 : 3 = r7 := (w8).symm
      subst p9
      refine r_icmp_ge 7 34 C dX10_isAt_7 (by decide) (fun c10 => ?_) (fun c10 => ?_)
      · skip
        have k11 : 3 ≤ (Int32.toInt z1) := (fa_le 3 z1).mp c10
        refine r_iconst 34 1 C dX10_isAt_34 (by decide) ?_
        exact r_zret 35 Rt dX10_isAt_35 (by decide) () (show 0 ≤ (Int32.toInt 1) ∧ (Int32.toInt 1) ≤ 1 from ⟨(by ((repeat' apply And.intro) <;> first | trivial | rfl | assumption | omega | decide | exact Or.inl rfl | exact Or.inr (Or.inl rfl) | exact Or.inr (Or.inr rfl))), (by ((repeat' apply And.intro) <;> first | trivial | rfl | assumption | omega | decide | exact Or.inl rfl | exact Or.inr (Or.inl rfl) | exact Or.inr (Or.inr rfl)))⟩) [0, 1] (by decide) rfl (Nat.le_of_ble_eq_true rfl) (Nat.le_of_ble_eq_true rfl)
      · skip
        have k12 : ¬ (3 ≤ (Int32.toInt z1)) := fun h_9 => c10 ((fa_le 3 z1).mpr h_9)
        refine r_aload_n 10 1 C dX10_isAt_10 rfl ?_
        refine r_iload_n 11 2 C dX10_isAt_11 rfl ?_
        refine r_iload_n 12 0 C dX10_isAt_12 rfl ?_
        obtain ⟨z13, ez13⟩ : ∃ z_9, x0 + z1 = z_9 := ⟨_, rfl⟩
        have gz13 := fb_rng z13
        refine r_iadd 13 z13 C dX10_isAt_13 ez13 ?_
        obtain ⟨z14, ez14⟩ : ∃ z_9, Int32.toInt64 z13 = z_9 := ⟨_, rfl⟩
        have tz14 : (Int64.toInt z14) = (Int32.toInt z13) := by rw [← ez14]; exact Int32.toInt_toInt64 _
        refine r_i2l 14 z14 C dX10_isAt_14 ez14 ?_
        refine r_callVi 15 C dX10_isAt_15 [] [(h0, .inr (4, [.ref h1, .int x1])), (h1, .inl (gB g, 1500, .inl fn0))] [] (fun sz => c14_X5_get l g h0 h1 z14 x1 fn0 i_x1 sz) gX10_isAt_X5_get rfl ⟨rfl, rfl⟩ 1 (by decide) ⟨Nat.le_of_ble_eq_true rfl, Nat.le_of_ble_eq_true rfl⟩ 0 rfl rfl [0, 1] [] rfl rfl (by decide) (by decide) (by decide) rfl rfl (Nat.le_of_ble_eq_true rfl) ⟨Nat.le_of_ble_eq_true rfl, Nat.le_of_ble_eq_true rfl⟩ (fun r15 _ w16 => ?_)
        refine r_ws [(h0, .inr (4, [.ref h1, .int x1])), (h1, .inl (gB g, 1500, .inl fn0))] rfl ?_
        have p17 : -1 ≤ (Int32.toInt r15) := w16.1
        have p18 : (Int32.toInt r15) ≤ 255 := w16.2
        refine r_aload_n 18 3 C dX10_isAt_18 rfl ?_
        refine r_iload_n 19 0 C dX10_isAt_19 rfl ?_
        refine r_scallVi 20 C dX10_isAt_20 [.int r15] 8 (by decide) [] [(h0, .inr (4, [.ref h1, .int x1])), (h1, .inl (gB g, 1500, .inl fn0))] (fun sz => c209_J0_charAt_5068e l g z1 ⟨by omega, by omega⟩ sz) gX10_isAt_J0_charAt_5068e rfl ⟨rfl, rfl⟩ 1 (by decide) ⟨Nat.le_of_ble_eq_true rfl, Nat.le_of_ble_eq_true rfl⟩ [] [0, 1] rfl rfl (by decide) (by decide) (by decide) rfl rfl (Nat.le_of_ble_eq_true rfl) ⟨Nat.le_of_ble_eq_true rfl, Nat.le_of_ble_eq_true rfl⟩ (fun r19 _ w20 => ?_)
        refine r_ws [(h0, .inr (4, [.ref h1, .int x1])), (h1, .inl (gB g, 1500, .inl fn0))] rfl ?_
        have p21 : 0 ≤ (Int32.toInt r19) := w20.1
        have p22 : (Int32.toInt r19) ≤ 65535 := w20.2
        refine r_icmp_eq 23 28 C dX10_isAt_23 (by decide) (fun c23 => ?_) (fun c23 => ?_)
        · skip
          have k24 : (Int32.toInt r15) = (Int32.toInt r19) := (fa_eq r15 r19).mp c23
          obtain ⟨z25, ez25⟩ : ∃ z_9, z1 + Int32.ofInt 1 = z_9 := ⟨_, rfl⟩
          have tz25 : (Int32.toInt z25) = (Int32.toInt z1) + 1 := by rw [← ez25]; exact fb_addIv (a := 0) (b := 3) (c := 1) (d := 1) ⟨i6a, i6b⟩ ⟨by decide, by decide⟩ (by decide) (by decide)
          refine r_iinc 28 0 z25 C dX10_isAt_28 rfl ez25 [(3, .int z25), (0, .ref h0), (1, .int x0), (2, .ref (g.2.2.1 8))] (by decide) rfl ?_
          refine r_goto 31 2 C dX10_isAt_31 (by decide) ?_
          exact ih4 z25 ⟨by omega, by omega⟩ (by omega)
        · skip
          have k26 : ¬ ((Int32.toInt r15) = (Int32.toInt r19)) := fun h_9 => c23 ((fa_eq r15 r19).mpr h_9)
          refine r_iconst 26 0 C dX10_isAt_26 (by decide) ?_
          exact r_zret 27 Rt dX10_isAt_27 (by decide) () (show 0 ≤ (Int32.toInt 0) ∧ (Int32.toInt 0) ≤ 1 from ⟨(by ((repeat' apply And.intro) <;> first | trivial | rfl | assumption | omega | decide | exact Or.inl rfl | exact Or.inr (Or.inl rfl) | exact Or.inr (Or.inr rfl))), (by ((repeat' apply And.intro) <;> first | trivial | rfl | assumption | omega | decide | exact Or.inl rfl | exact Or.inr (Or.inl rfl) | exact Or.inr (Or.inr rfl)))⟩) [0, 1] (by decide) rfl (Nat.le_of_ble_eq_true rfl) (Nat.le_of_ble_eq_true rfl)
  exact lp3 _ 0 (by decide) (Nat.lt_succ_self _)
set_option maxHeartbeats 4000000 in
set_option maxRecDepth 100000 in
theorem c211_X10_isWord (l : Launch) (g : GD) (h0 : Nat) (h1 : Nat) (h2 : Nat) (h3 : Nat) (x0 : Int32) (x1 : Int32) (x2 : Int32) (x3 : Int32) (x4 : Int32) (x5 : Int32) (x6 : Int32) (x7 : Int32) (x8 : Int32) (fn0 : Nat → Int32) (i_x4 : (0 ≤ (Int32.toInt x4) ∧ (Int32.toInt x4) ≤ 1)) (i_x8 : (0 ≤ (Int32.toInt x8) ∧ (Int32.toInt x8) ≤ 1500)) (sz : Nat) : Met l yX10_isWord wsX10_isWord ({ frames := 5, cells := 0, slots := 0, locals := 108 }) (va_Pc [.ref h0, .ref (g.2.2.1 8)] (PW g [(h0, .inr (9, [.ref h3, .ref h1, .int x0, .int x1, .int x2, .int x3, .int x4, .int x5, .int x6, .int x7])), (h1, .inr (4, [.ref h2, .int x8])), (h2, .inl (gB g, 1500, .inl fn0))] sz)) (va_Qi (fun (r : Int32) (_ : Unit) => 0 ≤ (Int32.toInt r) ∧ (Int32.toInt r) ≤ 1) (BW g (va_A [(h0, .inr (9, [.ref h3, .ref h1, .int x0, .int x1, .int x2, .int x3, .int x4, .int x5, .int x6, .int x7])), (h1, .inr (4, [.ref h2, .int x8])), (h2, .inl (gB g, 1500, .inl fn0))] sz) (fun _ : Unit => [(h0, .inr (9, [.ref h3, .ref h1, .int x0, .int x1, .int x2, .int x3, .int x4, .int x5, .int x6, .int x7])), (h1, .inr (4, [.ref h2, .int x8])), (h2, .inl (gB g, 1500, .inl fn0))])) (va_A [(h0, .inr (9, [.ref h3, .ref h1, .int x0, .int x1, .int x2, .int x3, .int x4, .int x5, .int x6, .int x7])), (h1, .inr (4, [.ref h2, .int x8])), (h2, .inl (gB g, 1500, .inl fn0))] sz)) 0 0 (va_A [(h0, .inr (9, [.ref h3, .ref h1, .int x0, .int x1, .int x2, .int x3, .int x4, .int x5, .int x6, .int x7])), (h1, .inr (4, [.ref h2, .int x8])), (h2, .inl (gB g, 1500, .inl fn0))] sz) := by
  refine met_z RX10 (by decide) rfl rfl (Nat.le_of_ble_eq_true rfl) [(0, .ref h0), (1, .ref (g.2.2.1 8))] rfl ?_
  intro p e s m args below meth c A Q C hnm Rt
  have hiX10 : ∀ w ∈ wsX100, w ∈ wsX10_isWord := fun w h => List.mem_cons_of_mem _ (List.mem_append_left _ (List.mem_append_right _ (h)))
  refine r_aload_n 0 0 C dX10_isWord_0 rfl ?_
  refine r_get 1 C dX10_isWord_1 (k := 4) 0 rfl rfl hiX10 (by decide) rfl (mg 1 rfl) (Or.inl rfl) rfl ?_
  refine r_aload_n 4 0 C dX10_isWord_4 rfl ?_
  refine r_get 5 C dX10_isWord_5 (k := 3) 0 rfl rfl hiX10 (by decide) rfl (mg 2 rfl) (Or.inl rfl) rfl ?_
  obtain ⟨z1, ez1⟩ : ∃ z_9, x2 - x1 = z_9 := ⟨_, rfl⟩
  have gz1 := fb_rng z1
  refine r_isub 8 z1 C dX10_isWord_8 ez1 ?_
  refine r_aload_n 9 1 C dX10_isWord_9 rfl ?_
  refine r_scallVi 10 C dX10_isWord_10 [.int z1] 8 (by decide) [] [(h0, .inr (9, [.ref h3, .ref h1, .int x0, .int x1, .int x2, .int x3, .int x4, .int x5, .int x6, .int x7])), (h1, .inr (4, [.ref h2, .int x8])), (h2, .inl (gB g, 1500, .inl fn0))] (fun sz => c206_J0_length_8abf5 l g   sz) gX10_isWord_J0_length_8abf5 rfl ⟨rfl, rfl⟩ 0 (by decide) ⟨Nat.le_of_ble_eq_true rfl, Nat.le_of_ble_eq_true rfl⟩ [] [0, 1, 2] rfl rfl (by decide) (by decide) (by decide) rfl rfl (Nat.le_of_ble_eq_true rfl) ⟨Nat.le_of_ble_eq_true rfl, Nat.le_of_ble_eq_true rfl⟩ (fun r2 _ w3 => ?_)
  refine r_ws [(h0, .inr (9, [.ref h3, .ref h1, .int x0, .int x1, .int x2, .int x3, .int x4, .int x5, .int x6, .int x7])), (h1, .inr (4, [.ref h2, .int x8])), (h2, .inl (gB g, 1500, .inl fn0))] rfl ?_
  have p4 : 3 = r2 := (w3).symm
  subst p4
  refine r_icmp_ne 13 35 C dX10_isWord_13 (by decide) (fun c5 => ?_) (fun c5 => ?_)
  · skip
    have k6 : ¬ ((Int32.toInt z1) = 3) := fun h_9 => c5 ((fa_eq z1 3).mpr h_9)
    refine r_iconst 35 0 C dX10_isWord_35 (by decide) ?_
    exact r_zret 36 Rt dX10_isWord_36 (by decide) () (show 0 ≤ (Int32.toInt 0) ∧ (Int32.toInt 0) ≤ 1 from ⟨(by ((repeat' apply And.intro) <;> first | trivial | rfl | assumption | omega | decide | exact Or.inl rfl | exact Or.inr (Or.inl rfl) | exact Or.inr (Or.inr rfl))), (by ((repeat' apply And.intro) <;> first | trivial | rfl | assumption | omega | decide | exact Or.inl rfl | exact Or.inr (Or.inl rfl) | exact Or.inr (Or.inr rfl)))⟩) [0, 1, 2] (by decide) rfl (Nat.le_of_ble_eq_true rfl) (Nat.le_of_ble_eq_true rfl)
  · skip
    have k7 : (Int32.toInt z1) = 3 := (fa_eq z1 3).mp c5
    refine r_aload_n 16 0 C dX10_isWord_16 rfl ?_
    refine r_get 17 C dX10_isWord_17 (k := 1) 0 rfl rfl hiX10 (by decide) rfl (mg 3 rfl) (Or.inl rfl) rfl ?_
    refine r_aload_n 20 0 C dX10_isWord_20 rfl ?_
    refine r_get 21 C dX10_isWord_21 (k := 3) 0 rfl rfl hiX10 (by decide) rfl (mg 2 rfl) (Or.inl rfl) rfl ?_
    refine r_aload_n 24 1 C dX10_isWord_24 rfl ?_
    refine r_callSi 25 C dX10_isWord_25 [] [(h1, .inr (4, [.ref h2, .int x8])), (h2, .inl (gB g, 1500, .inl fn0))] [(h0, .inr (9, [.ref h3, .ref h1, .int x0, .int x1, .int x2, .int x3, .int x4, .int x5, .int x6, .int x7]))] (fun sz => c210_X10_isAt l g h1 h2 x1 x8 fn0 i_x8 sz) gX10_isWord_X10_isAt rfl ⟨rfl, rfl⟩ 3 (by decide) ⟨Nat.le_of_ble_eq_true rfl, Nat.le_of_ble_eq_true rfl⟩ [1, 2] [0] rfl rfl (by decide) (by decide) (by decide) rfl rfl (Nat.le_of_ble_eq_true rfl) ⟨Nat.le_of_ble_eq_true rfl, Nat.le_of_ble_eq_true rfl⟩ (fun r8 _ w9 => ?_)
    refine r_ws [(h0, .inr (9, [.ref h3, .ref h1, .int x0, .int x1, .int x2, .int x3, .int x4, .int x5, .int x6, .int x7])), (h1, .inr (4, [.ref h2, .int x8])), (h2, .inl (gB g, 1500, .inl fn0))] rfl ?_
    have p10 : 0 ≤ (Int32.toInt r8) := w9.1
    have p11 : (Int32.toInt r8) ≤ 1 := w9.2
    refine r_if_eq 28 35 C dX10_isWord_28 (by decide) (fun c12 => ?_) (fun c12 => ?_)
    · skip
      have k13 : (Int32.toInt r8) = 0 := (fa_eq r8 0).mp c12
      refine r_iconst 35 0 C dX10_isWord_35 (by decide) ?_
      exact r_zret 36 Rt dX10_isWord_36 (by decide) () (show 0 ≤ (Int32.toInt 0) ∧ (Int32.toInt 0) ≤ 1 from ⟨(by ((repeat' apply And.intro) <;> first | trivial | rfl | assumption | omega | decide | exact Or.inl rfl | exact Or.inr (Or.inl rfl) | exact Or.inr (Or.inr rfl))), (by ((repeat' apply And.intro) <;> first | trivial | rfl | assumption | omega | decide | exact Or.inl rfl | exact Or.inr (Or.inl rfl) | exact Or.inr (Or.inr rfl)))⟩) [0, 1, 2] (by decide) rfl (Nat.le_of_ble_eq_true rfl) (Nat.le_of_ble_eq_true rfl)
    · skip
      have k14 : ¬ ((Int32.toInt r8) = 0) := fun h_9 => c12 ((fa_eq r8 0).mpr h_9)
      refine r_iconst 31 1 C dX10_isWord_31 (by decide) ?_
      refine r_goto 32 36 C dX10_isWord_32 (by decide) ?_
      exact r_zret 36 Rt dX10_isWord_36 (by decide) () (show 0 ≤ (Int32.toInt 1) ∧ (Int32.toInt 1) ≤ 1 from ⟨(by ((repeat' apply And.intro) <;> first | trivial | rfl | assumption | omega | decide | exact Or.inl rfl | exact Or.inr (Or.inl rfl) | exact Or.inr (Or.inr rfl))), (by ((repeat' apply And.intro) <;> first | trivial | rfl | assumption | omega | decide | exact Or.inl rfl | exact Or.inr (Or.inl rfl) | exact Or.inr (Or.inr rfl)))⟩) [0, 1, 2] (by decide) rfl (Nat.le_of_ble_eq_true rfl) (Nat.le_of_ble_eq_true rfl)
set_option maxHeartbeats 4000000 in
set_option maxRecDepth 100000 in
theorem c212_X8_isFull (l : Launch) (g : GD) (h0 : Nat) (h1 : Nat) (h2 : Nat) (h3 : Nat) (x0 : Int32) (x1 : Int32) (x2 : Int32) (fn0 : Nat → Int32) (sz : Nat) : Met l yX8_isFull wsX8_isFull ({ frames := 0, cells := 0, slots := 0, locals := 0 }) (va_Pc [.ref h0] (PW g [(h0, .inr (7, [.ref h2, .ref h1, .ref h3, .int x0, .int x1, .int x2])), (h1, .inl (gI g, 40, .inl fn0))] sz)) (va_Qi (fun (r : Int32) (_ : Unit) => (((Int32.toInt x0) < 40 ∧ r = 0) ∨ (¬ ((Int32.toInt x0) < 40) ∧ r = 1))) (BW g (va_A [(h0, .inr (7, [.ref h2, .ref h1, .ref h3, .int x0, .int x1, .int x2])), (h1, .inl (gI g, 40, .inl fn0))] sz) (fun _ : Unit => [(h0, .inr (7, [.ref h2, .ref h1, .ref h3, .int x0, .int x1, .int x2])), (h1, .inl (gI g, 40, .inl fn0))])) (va_A [(h0, .inr (7, [.ref h2, .ref h1, .ref h3, .int x0, .int x1, .int x2])), (h1, .inl (gI g, 40, .inl fn0))] sz)) 0 0 (va_A [(h0, .inr (7, [.ref h2, .ref h1, .ref h3, .int x0, .int x1, .int x2])), (h1, .inl (gI g, 40, .inl fn0))] sz) := by
  refine met_z RX8 (by decide) rfl rfl (Nat.le_of_ble_eq_true rfl) [(0, .ref h0)] rfl ?_
  intro p e s m args below meth c A Q C hnm Rt
  have gx0 := fb_rng x0
  have hiX8 : ∀ w ∈ wsX80, w ∈ wsX8_isFull := fun w h => List.mem_cons_of_mem _ (List.mem_append_right _ (h))
  refine r_aload_n 0 0 C dX8_isFull_0 rfl ?_
  refine r_get 1 C dX8_isFull_1 (k := 3) 0 rfl rfl hiX8 (by decide) rfl (mg 1 rfl) (Or.inl rfl) rfl ?_
  refine r_aload_n 4 0 C dX8_isFull_4 rfl ?_
  refine r_get 5 C dX8_isFull_5 (k := 1) 0 rfl rfl hiX8 (by decide) rfl (mg 2 rfl) (Or.inl rfl) rfl ?_
  refine r_ialen 8 40 C dX8_isFull_8 1 rfl (by decide) ?_
  refine r_icmp_lt 9 16 C dX8_isFull_9 (by decide) (fun c1 => ?_) (fun c1 => ?_)
  · skip
    have k2 : (Int32.toInt x0) < 40 := (fa_lt x0 40).mp c1
    refine r_iconst 16 0 C dX8_isFull_16 (by decide) ?_
    exact r_zret 17 Rt dX8_isFull_17 (by decide) () (show (((Int32.toInt x0) < 40 ∧ 0 = 0) ∨ (¬ ((Int32.toInt x0) < 40) ∧ 0 = 1)) from by refine Or.inl ?_ <;> ((repeat' apply And.intro) <;> first | trivial | rfl | assumption | omega | decide | exact Or.inl rfl | exact Or.inr (Or.inl rfl) | exact Or.inr (Or.inr rfl))) [0, 1] (by decide) rfl (Nat.le_of_ble_eq_true rfl) (Nat.le_of_ble_eq_true rfl)
  · skip
    have k3 : ¬ ((Int32.toInt x0) < 40) := fun h_9 => c1 ((fa_lt x0 40).mpr h_9)
    refine r_iconst 12 1 C dX8_isFull_12 (by decide) ?_
    refine r_goto 13 17 C dX8_isFull_13 (by decide) ?_
    exact r_zret 17 Rt dX8_isFull_17 (by decide) () (show (((Int32.toInt x0) < 40 ∧ 1 = 0) ∨ (¬ ((Int32.toInt x0) < 40) ∧ 1 = 1)) from by refine Or.inr (?_) <;> ((repeat' apply And.intro) <;> first | trivial | rfl | assumption | omega | decide | exact Or.inl rfl | exact Or.inr (Or.inl rfl) | exact Or.inr (Or.inr rfl))) [0, 1] (by decide) rfl (Nat.le_of_ble_eq_true rfl) (Nat.le_of_ble_eq_true rfl)
set_option maxHeartbeats 4000000 in
set_option maxRecDepth 100000 in
theorem c213_X8_put (l : Launch) (g : GD) (h0 : Nat) (h1 : Nat) (h2 : Nat) (x0 : Int32) (x1 : Int32) (x2 : Int32) (h3 : Nat) (x3 : Int32) (x4 : Int32) (x5 : Int32) (fn0 : Nat → Int32) (fn1 : Nat → Int32) (sz : Nat) : Met l yX8_put wsX8_put ({ frames := 0, cells := 0, slots := 0, locals := 0 }) (va_Pc [.ref h0, .int x0, .int x1, .int x2] (PW g [(h0, .inr (7, [.ref h3, .ref h1, .ref h2, .int x3, .int x4, .int x5])), (h1, .inl (gI g, 40, .inl fn0)), (h2, .inl (gI g, 40, .inl fn1))] sz)) (va_Qv (fun (u : (Nat → Int32) × (Nat → Int32)) => True) (BW g (va_A [(h0, .inr (7, [.ref h3, .ref h1, .ref h2, .int x3, .int x4, .int x5])), (h1, .inl (gI g, 40, .inl fn0)), (h2, .inl (gI g, 40, .inl fn1))] sz) (fun u : (Nat → Int32) × (Nat → Int32) => [(h0, .inr (7, [.ref h3, .ref h1, .ref h2, .int x3, .int x4, .int x5])), (h1, .inl (gI g, 40, .inl u.1)), (h2, .inl (gI g, 40, .inl u.2))])) (va_A [(h0, .inr (7, [.ref h3, .ref h1, .ref h2, .int x3, .int x4, .int x5])), (h1, .inl (gI g, 40, .inl fn0)), (h2, .inl (gI g, 40, .inl fn1))] sz)) 0 0 (va_A [(h0, .inr (7, [.ref h3, .ref h1, .ref h2, .int x3, .int x4, .int x5])), (h1, .inl (gI g, 40, .inl fn0)), (h2, .inl (gI g, 40, .inl fn1))] sz) := by
  refine met_v RX8 (by decide) rfl rfl (Nat.le_of_ble_eq_true rfl) [(0, .ref h0), (1, .int x0), (2, .int x1), (3, .int x2)] rfl ?_
  intro p e s m args below meth c A Q C hnm Rt
  have gx0 := fb_rng x0
  have gx3 := fb_rng x3
  have hiX8 : ∀ w ∈ wsX80, w ∈ wsX8_put := fun w h => List.mem_cons_of_mem _ (List.mem_append_right _ (h))
  refine r_iload_n 0 1 C dX8_put_0 rfl ?_
  refine r_if_lt 1 35 C dX8_put_1 (by decide) (fun c1 => ?_) (fun c1 => ?_)
  · skip
    have k2 : (Int32.toInt x0) < 0 := (fa_lt x0 0).mp c1
    exact r_vret 35 Rt dX8_put_35 (fn0, fn1) trivial [0, 1, 2] (by decide) rfl (Nat.le_of_ble_eq_true rfl) (Nat.le_of_ble_eq_true rfl)
  · skip
    have k3 : ¬ ((Int32.toInt x0) < 0) := fun h_9 => c1 ((fa_lt x0 0).mpr h_9)
    refine r_iload_n 4 1 C dX8_put_4 rfl ?_
    refine r_aload_n 5 0 C dX8_put_5 rfl ?_
    refine r_get 6 C dX8_put_6 (k := 3) 0 rfl rfl hiX8 (by decide) rfl (mg 1 rfl) (Or.inl rfl) rfl ?_
    refine r_icmp_ge 9 35 C dX8_put_9 (by decide) (fun c4 => ?_) (fun c4 => ?_)
    · skip
      have k5 : (Int32.toInt x3) ≤ (Int32.toInt x0) := (fa_le x3 x0).mp c4
      exact r_vret 35 Rt dX8_put_35 (fn0, fn1) trivial [0, 1, 2] (by decide) rfl (Nat.le_of_ble_eq_true rfl) (Nat.le_of_ble_eq_true rfl)
    · skip
      have k6 : ¬ ((Int32.toInt x3) ≤ (Int32.toInt x0)) := fun h_9 => c4 ((fa_le x3 x0).mpr h_9)
      refine r_iload_n 12 1 C dX8_put_12 rfl ?_
      refine r_aload_n 13 0 C dX8_put_13 rfl ?_
      refine r_get 14 C dX8_put_14 (k := 1) 0 rfl rfl hiX8 (by decide) rfl (mg 2 rfl) (Or.inl rfl) rfl ?_
      refine r_ialen 17 40 C dX8_put_17 1 rfl (by decide) ?_
      refine r_icmp_ge 18 35 C dX8_put_18 (by decide) (fun c7 => ?_) (fun c7 => ?_)
      · skip
        have k8 : 40 ≤ (Int32.toInt x0) := (fa_le 40 x0).mp c7
        exact r_vret 35 Rt dX8_put_35 (fn0, fn1) trivial [0, 1, 2] (by decide) rfl (Nat.le_of_ble_eq_true rfl) (Nat.le_of_ble_eq_true rfl)
      · skip
        have k9 : ¬ (40 ≤ (Int32.toInt x0)) := fun h_9 => c7 ((fa_le 40 x0).mpr h_9)
        refine r_aload_n 21 0 C dX8_put_21 rfl ?_
        refine r_get 22 C dX8_put_22 (k := 1) 0 rfl rfl hiX8 (by decide) rfl (mg 2 rfl) (Or.inl rfl) rfl ?_
        refine r_iload_n 25 1 C dX8_put_25 rfl ?_
        refine r_iload_n 26 2 C dX8_put_26 rfl ?_
        obtain ⟨f10, ef10⟩ : ∃ f_9, upd fn0 (Int32.toNatClampNeg x0) x1 = f_9 := ⟨_, rfl⟩
        refine r_iast 27 C dX8_put_27 1 rfl (vinI (by omega) (by omega)) f10 ef10 [(h0, .inr (7, [.ref h3, .ref h1, .ref h2, .int x3, .int x4, .int x5])), (h1, .inl (gI g, 40, .inl f10)), (h2, .inl (gI g, 40, .inl fn1))] rfl ?_
        refine r_aload_n 28 0 C dX8_put_28 rfl ?_
        refine r_get 29 C dX8_put_29 (k := 2) 0 rfl rfl hiX8 (by decide) rfl (mg 3 rfl) (Or.inl rfl) rfl ?_
        refine r_iload_n 32 1 C dX8_put_32 rfl ?_
        refine r_iload_n 33 3 C dX8_put_33 rfl ?_
        obtain ⟨f11, ef11⟩ : ∃ f_9, upd fn1 (Int32.toNatClampNeg x0) x2 = f_9 := ⟨_, rfl⟩
        refine r_iast 34 C dX8_put_34 2 rfl (vinI (by omega) (by omega)) f11 ef11 [(h0, .inr (7, [.ref h3, .ref h1, .ref h2, .int x3, .int x4, .int x5])), (h1, .inl (gI g, 40, .inl f10)), (h2, .inl (gI g, 40, .inl f11))] rfl ?_
        exact r_vret 35 Rt dX8_put_35 (f10, f11) trivial [0, 1, 2] (by decide) rfl (Nat.le_of_ble_eq_true rfl) (Nat.le_of_ble_eq_true rfl)
set_option maxHeartbeats 4000000 in
set_option maxRecDepth 100000 in
theorem c214_X8_add (l : Launch) (g : GD) (h0 : Nat) (h1 : Nat) (h2 : Nat) (x0 : Int32) (x1 : Int32) (h3 : Nat) (x2 : Int32) (x3 : Int32) (x4 : Int32) (fn0 : Nat → Int32) (fn1 : Nat → Int32) (sz : Nat) : Met l yX8_add wsX8_add ({ frames := 1, cells := 0, slots := 0, locals := 23 }) (va_Pc [.ref h0, .int x0, .int x1] (PW g [(h0, .inr (7, [.ref h3, .ref h1, .ref h2, .int x2, .int x3, .int x4])), (h1, .inl (gI g, 40, .inl fn0)), (h2, .inl (gI g, 40, .inl fn1))] sz)) (va_Qv (fun (u : (Int32) × (Nat → Int32) × (Nat → Int32)) => True) (BW g (va_A [(h0, .inr (7, [.ref h3, .ref h1, .ref h2, .int x2, .int x3, .int x4])), (h1, .inl (gI g, 40, .inl fn0)), (h2, .inl (gI g, 40, .inl fn1))] sz) (fun u : (Int32) × (Nat → Int32) × (Nat → Int32) => [(h0, .inr (7, [.ref h3, .ref h1, .ref h2, .int u.1, .int x3, .int x4])), (h1, .inl (gI g, 40, .inl u.2.1)), (h2, .inl (gI g, 40, .inl u.2.2))])) (va_A [(h0, .inr (7, [.ref h3, .ref h1, .ref h2, .int x2, .int x3, .int x4])), (h1, .inl (gI g, 40, .inl fn0)), (h2, .inl (gI g, 40, .inl fn1))] sz)) 0 0 (va_A [(h0, .inr (7, [.ref h3, .ref h1, .ref h2, .int x2, .int x3, .int x4])), (h1, .inl (gI g, 40, .inl fn0)), (h2, .inl (gI g, 40, .inl fn1))] sz) := by
  refine met_v RX8 (by decide) rfl rfl (Nat.le_of_ble_eq_true rfl) [(0, .ref h0), (1, .int x0), (2, .int x1)] rfl ?_
  intro p e s m args below meth c A Q C hnm Rt
  have gx2 := fb_rng x2
  have hiX8 : ∀ w ∈ wsX80, w ∈ wsX8_add := fun w h => List.mem_cons_of_mem _ (List.mem_append_right _ (h))
  refine r_aload_n 0 0 C dX8_add_0 rfl ?_
  refine r_callVi 1 C dX8_add_1 [] [(h0, .inr (7, [.ref h3, .ref h1, .ref h2, .int x2, .int x3, .int x4])), (h1, .inl (gI g, 40, .inl fn0))] [(h2, .inl (gI g, 40, .inl fn1))] (fun sz => c212_X8_isFull l g h0 h1 h3 h2 x2 x3 x4 fn0  sz) gX8_add_X8_isFull rfl ⟨rfl, rfl⟩ 0 (by decide) ⟨Nat.le_of_ble_eq_true rfl, Nat.le_of_ble_eq_true rfl⟩ 0 rfl rfl [0, 1] [2] rfl rfl (by decide) (by decide) (by decide) rfl rfl (Nat.le_of_ble_eq_true rfl) ⟨Nat.le_of_ble_eq_true rfl, Nat.le_of_ble_eq_true rfl⟩ (fun r1 _ w2 => ?_)
  refine r_ws [(h2, .inl (gI g, 40, .inl fn1)), (h0, .inr (7, [.ref h3, .ref h1, .ref h2, .int x2, .int x3, .int x4])), (h1, .inl (gI g, 40, .inl fn0))] rfl ?_
  have w3 : (((Int32.toInt x2) < 40 ∧ r1 = 0) ∨ (¬ ((Int32.toInt x2) < 40) ∧ r1 = 1)) := w2
  rcases w3 with ⟨k4, k5⟩ | w3
  · skip
    have k5 := k5.symm
    subst k5
    refine r_if_ne_f 4 29 C dX8_add_4 (by decide) (by decide) ?_
    refine r_aload_n 7 0 C dX8_add_7 rfl ?_
    refine r_dup 8 C dX8_add_8 rfl ?_
    refine r_get 9 C dX8_add_9 (k := 3) 1 rfl rfl hiX8 (by decide) rfl (mg 1 rfl) (Or.inl rfl) rfl ?_
    refine r_iconst 12 1 C dX8_add_12 (by decide) ?_
    obtain ⟨z6, ez6⟩ : ∃ z_9, x2 + 1 = z_9 := ⟨_, rfl⟩
    have tz6 : (Int32.toInt z6) = (Int32.toInt x2) + 1 := by rw [← ez6]; exact fb_addI (by show -2147483648 ≤ (Int32.toInt x2) + 1; omega) (by show (Int32.toInt x2) + 1 < 2147483648; omega)
    refine r_iadd 13 z6 C dX8_add_13 ez6 ?_
    refine r_put 14 C dX8_add_14 (k := 3) 1 rfl rfl hiX8 tyX8 tyX8_ok nmX8 (by decide) rfl (mg 1 rfl) (Or.inl rfl) rfl rfl rfl rfl (Nat.le_of_ble_eq_true rfl) [(h2, .inl (gI g, 40, .inl fn1)), (h0, .inr (7, [.ref h3, .ref h1, .ref h2, .int z6, .int x3, .int x4])), (h1, .inl (gI g, 40, .inl fn0))] rfl ?_
    refine r_aload_n 17 0 C dX8_add_17 rfl ?_
    refine r_aload_n 18 0 C dX8_add_18 rfl ?_
    refine r_get 19 C dX8_add_19 (k := 3) 1 rfl rfl hiX8 (by decide) rfl (mg 1 rfl) (Or.inl rfl) rfl ?_
    refine r_iconst 22 1 C dX8_add_22 (by decide) ?_
    obtain ⟨z7, ez7⟩ : ∃ z_9, z6 - 1 = z_9 := ⟨_, rfl⟩
    have tz7 : (Int32.toInt z7) = (Int32.toInt z6) - 1 := by rw [← ez7]; exact fb_subI (by show -2147483648 ≤ (Int32.toInt z6) - 1; omega) (by show (Int32.toInt z6) - 1 < 2147483648; omega)
    refine r_isub 23 z7 C dX8_add_23 ez7 ?_
    refine r_iload_n 24 1 C dX8_add_24 rfl ?_
    refine r_iload_n 25 2 C dX8_add_25 rfl ?_
    refine r_callVv 26 C dX8_add_26 [] [(h0, .inr (7, [.ref h3, .ref h1, .ref h2, .int z6, .int x3, .int x4])), (h1, .inl (gI g, 40, .inl fn0)), (h2, .inl (gI g, 40, .inl fn1))] [] (fun sz => c213_X8_put l g h0 h1 h2 z7 x0 x1 h3 z6 x3 x4 fn0 fn1  sz) gX8_add_X8_put rfl ⟨rfl, rfl⟩ 3 (by decide) ⟨Nat.le_of_ble_eq_true rfl, Nat.le_of_ble_eq_true rfl⟩ 1 rfl rfl [1, 2, 0] [] rfl rfl (by decide) (by decide) (by decide) rfl rfl (Nat.le_of_ble_eq_true rfl) ⟨Nat.le_of_ble_eq_true rfl, Nat.le_of_ble_eq_true rfl⟩ (fun  u11 w10 => ?_)
    obtain ⟨f8, f9⟩ := u11
    refine r_ws [(h0, .inr (7, [.ref h3, .ref h1, .ref h2, .int z6, .int x3, .int x4])), (h1, .inl (gI g, 40, .inl f8)), (h2, .inl (gI g, 40, .inl f9))] rfl ?_
    exact r_vret 29 Rt dX8_add_29 (z6, f8, f9) trivial [0, 1, 2] (by decide) rfl (Nat.le_of_ble_eq_true rfl) (Nat.le_of_ble_eq_true rfl)
  obtain ⟨k12, k13⟩ := w3
  have k13 := k13.symm
  subst k13
  refine r_if_ne_t 4 29 C dX8_add_4 (by decide) (by decide) ?_
  exact r_vret 29 Rt dX8_add_29 (x2, fn0, fn1) trivial [1, 2, 0] (by decide) rfl (Nat.le_of_ble_eq_true rfl) (Nat.le_of_ble_eq_true rfl)
set_option maxHeartbeats 4000000 in
set_option maxRecDepth 100000 in
theorem c215_X10_takeLetter (l : Launch) (g : GD) (h0 : Nat) (h1 : Nat) (h2 : Nat) (h3 : Nat) (h4 : Nat) (h5 : Nat) (h6 : Nat) (x0 : Int32) (x1 : Int32) (x2 : Int32) (x3 : Int32) (x4 : Int32) (x5 : Int32) (x6 : Int32) (x7 : Int32) (h7 : Nat) (h8 : Nat) (x8 : Int32) (x9 : Int32) (x10 : Int32) (x11 : Int32) (x12 : Int32) (x13 : Int32) (x14 : Int32) (fn0 : Nat → Int32) (fn1 : Nat → Int32) (fn2 : Nat → Int32) (i_x4 : (0 ≤ (Int32.toInt x4) ∧ (Int32.toInt x4) ≤ 1)) (i_x11 : (0 ≤ (Int32.toInt x11) ∧ (Int32.toInt x11) ≤ 1500)) (sz : Nat) : Met l yX10_takeLetter wsX10_takeLetter ({ frames := 7, cells := 0, slots := 0, locals := 152 }) (va_Pc [.ref h0] (PW g [(h0, .inr (9, [.ref h1, .ref h2, .int x0, .int x1, .int x2, .int x3, .int x4, .int x5, .int x6, .int x7])), (h1, .inr (3, [.ref h2, .ref h3, .ref h7, .ref h8, .int x8, .int x9, .int x10])), (h2, .inr (4, [.ref h4, .int x11])), (h3, .inr (7, [.ref h2, .ref h5, .ref h6, .int x12, .int x13, .int x14])), (h4, .inl (gB g, 1500, .inl fn0)), (h5, .inl (gI g, 40, .inl fn1)), (h6, .inl (gI g, 40, .inl fn2))] sz)) (va_Qi (fun (r : Int32) (u : (Int32) × (Int32) × (Int32) × (Int32) × (Int32) × (Int32) × (Int32) × (Nat → Int32) × (Nat → Int32) × (Nat → Int32)) => 0 ≤ (Int32.toInt r) ∧ (Int32.toInt r) ≤ 2) (BW g (va_A [(h0, .inr (9, [.ref h1, .ref h2, .int x0, .int x1, .int x2, .int x3, .int x4, .int x5, .int x6, .int x7])), (h1, .inr (3, [.ref h2, .ref h3, .ref h7, .ref h8, .int x8, .int x9, .int x10])), (h2, .inr (4, [.ref h4, .int x11])), (h3, .inr (7, [.ref h2, .ref h5, .ref h6, .int x12, .int x13, .int x14])), (h4, .inl (gB g, 1500, .inl fn0)), (h5, .inl (gI g, 40, .inl fn1)), (h6, .inl (gI g, 40, .inl fn2))] sz) (fun u : (Int32) × (Int32) × (Int32) × (Int32) × (Int32) × (Int32) × (Int32) × (Nat → Int32) × (Nat → Int32) × (Nat → Int32) => [(h0, .inr (9, [.ref h1, .ref h2, .int u.1, .int u.2.1, .int u.2.2.1, .int x3, .int x4, .int u.2.2.2.1, .int u.2.2.2.2.1, .int u.2.2.2.2.2.1])), (h1, .inr (3, [.ref h2, .ref h3, .ref h7, .ref h8, .int x8, .int x9, .int x10])), (h2, .inr (4, [.ref h4, .int x11])), (h3, .inr (7, [.ref h2, .ref h5, .ref h6, .int u.2.2.2.2.2.2.1, .int x13, .int x14])), (h4, .inl (gB g, 1500, .inl u.2.2.2.2.2.2.2.1)), (h5, .inl (gI g, 40, .inl u.2.2.2.2.2.2.2.2.1)), (h6, .inl (gI g, 40, .inl u.2.2.2.2.2.2.2.2.2))])) (va_A [(h0, .inr (9, [.ref h1, .ref h2, .int x0, .int x1, .int x2, .int x3, .int x4, .int x5, .int x6, .int x7])), (h1, .inr (3, [.ref h2, .ref h3, .ref h7, .ref h8, .int x8, .int x9, .int x10])), (h2, .inr (4, [.ref h4, .int x11])), (h3, .inr (7, [.ref h2, .ref h5, .ref h6, .int x12, .int x13, .int x14])), (h4, .inl (gB g, 1500, .inl fn0)), (h5, .inl (gI g, 40, .inl fn1)), (h6, .inl (gI g, 40, .inl fn2))] sz)) 0 0 (va_A [(h0, .inr (9, [.ref h1, .ref h2, .int x0, .int x1, .int x2, .int x3, .int x4, .int x5, .int x6, .int x7])), (h1, .inr (3, [.ref h2, .ref h3, .ref h7, .ref h8, .int x8, .int x9, .int x10])), (h2, .inr (4, [.ref h4, .int x11])), (h3, .inr (7, [.ref h2, .ref h5, .ref h6, .int x12, .int x13, .int x14])), (h4, .inl (gB g, 1500, .inl fn0)), (h5, .inl (gI g, 40, .inl fn1)), (h6, .inl (gI g, 40, .inl fn2))] sz) := by
  refine met_i RX10 (by decide) rfl rfl (Nat.le_of_ble_eq_true rfl) [(0, .ref h0)] rfl ?_
  intro p e s m args below meth c A Q C hnm Rt
  have gx1 := fb_rng x1
  have gx12 := fb_rng x12
  have hiX10 : ∀ w ∈ wsX100, w ∈ wsX10_takeLetter := fun w h => List.mem_cons_of_mem _ (List.mem_append_left _ (List.mem_append_left _ (List.mem_append_left _ (List.mem_append_right _ (h)))))
  have hiX3 : ∀ w ∈ wsX30, w ∈ wsX10_takeLetter := fun w h => List.mem_cons_of_mem _ (List.mem_append_left _ (List.mem_append_left _ (List.mem_append_right _ (h))))
  refine r_aload_n 0 0 C dX10_takeLetter_0 rfl ?_
  refine r_get 1 C dX10_takeLetter_1 (k := 1) 0 rfl rfl hiX10 (by decide) rfl (mg 1 rfl) (Or.inl rfl) rfl ?_
  refine r_aload_n 4 0 C dX10_takeLetter_4 rfl ?_
  refine r_get 5 C dX10_takeLetter_5 (k := 3) 0 rfl rfl hiX10 (by decide) rfl (mg 2 rfl) (Or.inl rfl) rfl ?_
  obtain ⟨z1, ez1⟩ : ∃ z_9, Int32.toInt64 x1 = z_9 := ⟨_, rfl⟩
  have tz1 : (Int64.toInt z1) = (Int32.toInt x1) := by rw [← ez1]; exact Int32.toInt_toInt64 _
  refine r_i2l 8 z1 C dX10_takeLetter_8 ez1 ?_
  refine r_callVi 9 C dX10_takeLetter_9 [] [(h2, .inr (4, [.ref h4, .int x11])), (h4, .inl (gB g, 1500, .inl fn0))] [(h0, .inr (9, [.ref h1, .ref h2, .int x0, .int x1, .int x2, .int x3, .int x4, .int x5, .int x6, .int x7])), (h1, .inr (3, [.ref h2, .ref h3, .ref h7, .ref h8, .int x8, .int x9, .int x10])), (h3, .inr (7, [.ref h2, .ref h5, .ref h6, .int x12, .int x13, .int x14])), (h5, .inl (gI g, 40, .inl fn1)), (h6, .inl (gI g, 40, .inl fn2))] (fun sz => c14_X5_get l g h2 h4 z1 x11 fn0 i_x11 sz) gX10_takeLetter_X5_get rfl ⟨rfl, rfl⟩ 1 (by decide) ⟨Nat.le_of_ble_eq_true rfl, Nat.le_of_ble_eq_true rfl⟩ 2 rfl rfl [2, 4] [0, 1, 3, 5, 6] rfl rfl (by decide) (by decide) (by decide) rfl rfl (Nat.le_of_ble_eq_true rfl) ⟨Nat.le_of_ble_eq_true rfl, Nat.le_of_ble_eq_true rfl⟩ (fun r2 _ w3 => ?_)
  refine r_ws [(h0, .inr (9, [.ref h1, .ref h2, .int x0, .int x1, .int x2, .int x3, .int x4, .int x5, .int x6, .int x7])), (h1, .inr (3, [.ref h2, .ref h3, .ref h7, .ref h8, .int x8, .int x9, .int x10])), (h3, .inr (7, [.ref h2, .ref h5, .ref h6, .int x12, .int x13, .int x14])), (h5, .inl (gI g, 40, .inl fn1)), (h6, .inl (gI g, 40, .inl fn2)), (h2, .inr (4, [.ref h4, .int x11])), (h4, .inl (gB g, 1500, .inl fn0))] rfl ?_
  have p4 : -1 ≤ (Int32.toInt r2) := w3.1
  have p5 : (Int32.toInt r2) ≤ 255 := w3.2
  refine r_bipush 12 47 C dX10_takeLetter_12 (by decide) ?_
  refine r_icmp_ne 14 34 C dX10_takeLetter_14 (by decide) (fun c6 => ?_) (fun c6 => ?_)
  · skip
    have k7 : ¬ ((Int32.toInt r2) = 47) := fun h_9 => c6 ((fa_eq r2 47).mpr h_9)
    refine r_iconst 34 0 C dX10_takeLetter_34 (by decide) ?_
    refine r_istore_n 35 C dX10_takeLetter_35 [(1, .int 0), (0, .ref h0)] (by decide) rfl ?_
    refine r_iload_n 36 0 C dX10_takeLetter_36 rfl ?_
    refine r_if_eq_t 37 53 C dX10_takeLetter_37 (by decide) (by decide) ?_
    refine r_iconst 53 2 C dX10_takeLetter_53 (by decide) ?_
    exact r_iret 54 Rt dX10_takeLetter_54 (x0, x1, x2, x5, x6, x7, x12, fn0, fn1, fn2) (show 0 ≤ (Int32.toInt 2) ∧ (Int32.toInt 2) ≤ 2 from ⟨(by ((repeat' apply And.intro) <;> first | trivial | rfl | assumption | omega | decide | exact Or.inl rfl | exact Or.inr (Or.inl rfl) | exact Or.inr (Or.inr rfl))), (by ((repeat' apply And.intro) <;> first | trivial | rfl | assumption | omega | decide | exact Or.inl rfl | exact Or.inr (Or.inl rfl) | exact Or.inr (Or.inr rfl)))⟩) [0, 1, 5, 2, 6, 3, 4] (by decide) rfl (Nat.le_of_ble_eq_true rfl) (Nat.le_of_ble_eq_true rfl)
  · skip
    have k8 : (Int32.toInt r2) = 47 := (fa_eq r2 47).mp c6
    refine r_aload_n 17 0 C dX10_takeLetter_17 rfl ?_
    refine r_get 18 C dX10_takeLetter_18 (k := 4) 0 rfl rfl hiX10 (by decide) rfl (mg 3 rfl) (Or.inl rfl) rfl ?_
    refine r_aload_n 21 0 C dX10_takeLetter_21 rfl ?_
    refine r_get 22 C dX10_takeLetter_22 (k := 3) 0 rfl rfl hiX10 (by decide) rfl (mg 2 rfl) (Or.inl rfl) rfl ?_
    obtain ⟨z9, ez9⟩ : ∃ z_9, x2 - x1 = z_9 := ⟨_, rfl⟩
    have gz9 := fb_rng z9
    refine r_isub 25 z9 C dX10_takeLetter_25 ez9 ?_
    refine r_iconst 26 1 C dX10_takeLetter_26 (by decide) ?_
    refine r_icmp_le 27 34 C dX10_takeLetter_27 (by decide) (fun c10 => ?_) (fun c10 => ?_)
    · skip
      have k11 : (Int32.toInt z9) ≤ 1 := (fa_le z9 1).mp c10
      refine r_iconst 34 0 C dX10_takeLetter_34 (by decide) ?_
      refine r_istore_n 35 C dX10_takeLetter_35 [(1, .int 0), (0, .ref h0)] (by decide) rfl ?_
      refine r_iload_n 36 0 C dX10_takeLetter_36 rfl ?_
      refine r_if_eq_t 37 53 C dX10_takeLetter_37 (by decide) (by decide) ?_
      refine r_iconst 53 2 C dX10_takeLetter_53 (by decide) ?_
      exact r_iret 54 Rt dX10_takeLetter_54 (x0, x1, x2, x5, x6, x7, x12, fn0, fn1, fn2) (show 0 ≤ (Int32.toInt 2) ∧ (Int32.toInt 2) ≤ 2 from ⟨(by ((repeat' apply And.intro) <;> first | trivial | rfl | assumption | omega | decide | exact Or.inl rfl | exact Or.inr (Or.inl rfl) | exact Or.inr (Or.inr rfl))), (by ((repeat' apply And.intro) <;> first | trivial | rfl | assumption | omega | decide | exact Or.inl rfl | exact Or.inr (Or.inl rfl) | exact Or.inr (Or.inr rfl)))⟩) [0, 1, 5, 2, 6, 3, 4] (by decide) rfl (Nat.le_of_ble_eq_true rfl) (Nat.le_of_ble_eq_true rfl)
    · skip
      have k12 : ¬ ((Int32.toInt z9) ≤ 1) := fun h_9 => c10 ((fa_le z9 1).mpr h_9)
      refine r_iconst 30 1 C dX10_takeLetter_30 (by decide) ?_
      refine r_goto 31 35 C dX10_takeLetter_31 (by decide) ?_
      refine r_istore_n 35 C dX10_takeLetter_35 [(1, .int 1), (0, .ref h0)] (by decide) rfl ?_
      refine r_iload_n 36 0 C dX10_takeLetter_36 rfl ?_
      refine r_if_eq_f 37 53 C dX10_takeLetter_37 (by decide) (by decide) ?_
      refine r_aload_n 40 1 C dX10_takeLetter_40 rfl ?_
      refine r_get 41 C dX10_takeLetter_41 (k := 0) 0 rfl rfl hiX10 (by decide) rfl (mg 4 rfl) (Or.inl rfl) rfl ?_
      refine r_getN 44 C dX10_takeLetter_44 (k := 1) 1 rfl rfl hiX3 (by decide) rfl (mg 23 rfl) rfl rfl ?_
      refine r_callVi 47 C dX10_takeLetter_47 [] [(h3, .inr (7, [.ref h2, .ref h5, .ref h6, .int x12, .int x13, .int x14])), (h5, .inl (gI g, 40, .inl fn1))] [(h0, .inr (9, [.ref h1, .ref h2, .int x0, .int x1, .int x2, .int x3, .int x4, .int x5, .int x6, .int x7])), (h1, .inr (3, [.ref h2, .ref h3, .ref h7, .ref h8, .int x8, .int x9, .int x10])), (h6, .inl (gI g, 40, .inl fn2)), (h2, .inr (4, [.ref h4, .int x11])), (h4, .inl (gB g, 1500, .inl fn0))] (fun sz => c212_X8_isFull l g h3 h5 h2 h6 x12 x13 x14 fn1  sz) gX10_takeLetter_X8_isFull rfl ⟨rfl, rfl⟩ 0 (by decide) ⟨Nat.le_of_ble_eq_true rfl, Nat.le_of_ble_eq_true rfl⟩ 2 rfl rfl [2, 3] [0, 1, 4, 5, 6] rfl rfl (by decide) (by decide) (by decide) rfl rfl (Nat.le_of_ble_eq_true rfl) ⟨Nat.le_of_ble_eq_true rfl, Nat.le_of_ble_eq_true rfl⟩ (fun r13 _ w14 => ?_)
      refine r_ws [(h0, .inr (9, [.ref h1, .ref h2, .int x0, .int x1, .int x2, .int x3, .int x4, .int x5, .int x6, .int x7])), (h1, .inr (3, [.ref h2, .ref h3, .ref h7, .ref h8, .int x8, .int x9, .int x10])), (h6, .inl (gI g, 40, .inl fn2)), (h2, .inr (4, [.ref h4, .int x11])), (h4, .inl (gB g, 1500, .inl fn0)), (h3, .inr (7, [.ref h2, .ref h5, .ref h6, .int x12, .int x13, .int x14])), (h5, .inl (gI g, 40, .inl fn1))] rfl ?_
      have w15 : (((Int32.toInt x12) < 40 ∧ r13 = 0) ∨ (¬ ((Int32.toInt x12) < 40) ∧ r13 = 1)) := w14
      rcases w15 with ⟨k16, k17⟩ | w15
      · skip
        have k17 := k17.symm
        subst k17
        refine r_if_eq_t 50 55 C dX10_takeLetter_50 (by decide) (by decide) ?_
        refine r_aload_n 55 1 C dX10_takeLetter_55 rfl ?_
        refine r_callVi 56 C dX10_takeLetter_56 [] [(h0, .inr (9, [.ref h1, .ref h2, .int x0, .int x1, .int x2, .int x3, .int x4, .int x5, .int x6, .int x7])), (h2, .inr (4, [.ref h4, .int x11])), (h4, .inl (gB g, 1500, .inl fn0))] [(h1, .inr (3, [.ref h2, .ref h3, .ref h7, .ref h8, .int x8, .int x9, .int x10])), (h6, .inl (gI g, 40, .inl fn2)), (h3, .inr (7, [.ref h2, .ref h5, .ref h6, .int x12, .int x13, .int x14])), (h5, .inl (gI g, 40, .inl fn1))] (fun sz => c172_X10_takeProgram l g h0 h2 h4 h1 x0 x1 x2 x3 x4 x5 x6 x7 x11 fn0 i_x4 i_x11 sz) gX10_takeLetter_X10_takeProgram rfl ⟨rfl, rfl⟩ 0 (by decide) ⟨Nat.le_of_ble_eq_true rfl, Nat.le_of_ble_eq_true rfl⟩ 0 rfl rfl [0, 3, 4] [1, 2, 5, 6] rfl rfl (by decide) (by decide) (by decide) rfl rfl (Nat.le_of_ble_eq_true rfl) ⟨Nat.le_of_ble_eq_true rfl, Nat.le_of_ble_eq_true rfl⟩ (fun r25 u27 w26 => ?_)
        obtain ⟨z18, z19, z20, z21, z22, z23, f24⟩ := u27
        refine r_ws [(h1, .inr (3, [.ref h2, .ref h3, .ref h7, .ref h8, .int x8, .int x9, .int x10])), (h6, .inl (gI g, 40, .inl fn2)), (h3, .inr (7, [.ref h2, .ref h5, .ref h6, .int x12, .int x13, .int x14])), (h5, .inl (gI g, 40, .inl fn1)), (h0, .inr (9, [.ref h1, .ref h2, .int z18, .int z19, .int z20, .int x3, .int x4, .int z21, .int z22, .int z23])), (h2, .inr (4, [.ref h4, .int x11])), (h4, .inl (gB g, 1500, .inl f24))] rfl ?_
        have gz18 := fb_rng z18
        have gz19 := fb_rng z19
        have gz20 := fb_rng z20
        have gz21 := fb_rng z21
        have gz22 := fb_rng z22
        have gz23 := fb_rng z23
        have p28 : 0 ≤ (Int32.toInt r25) := w26.1
        have p29 : (Int32.toInt r25) ≤ 2 := w26.2
        refine r_istore_n 59 C dX10_takeLetter_59 [(2, .int r25), (1, .int 1), (0, .ref h0)] (by decide) rfl ?_
        refine r_iload_n 60 0 C dX10_takeLetter_60 rfl ?_
        refine r_if_eq 61 66 C dX10_takeLetter_61 (by decide) (fun c30 => ?_) (fun c30 => ?_)
        · skip
          have k31 : (Int32.toInt r25) = 0 := (fa_eq r25 0).mp c30
          refine r_aload_n 66 2 C dX10_takeLetter_66 rfl ?_
          refine r_get 67 C dX10_takeLetter_67 (k := 0) 4 rfl rfl hiX10 (by decide) rfl (mg 4 rfl) (Or.inl rfl) rfl ?_
          refine r_getN 70 C dX10_takeLetter_70 (k := 1) 0 rfl rfl hiX3 (by decide) rfl (mg 23 rfl) rfl rfl ?_
          refine r_aload_n 73 2 C dX10_takeLetter_73 rfl ?_
          refine r_get 74 C dX10_takeLetter_74 (k := 8) 4 rfl rfl hiX10 (by decide) rfl (mg 5 rfl) (Or.inl rfl) rfl ?_
          refine r_aload_n 77 2 C dX10_takeLetter_77 rfl ?_
          refine r_get 78 C dX10_takeLetter_78 (k := 9) 4 rfl rfl hiX10 (by decide) rfl (mg 6 rfl) (Or.inl rfl) rfl ?_
          refine r_callVv 81 C dX10_takeLetter_81 [] [(h3, .inr (7, [.ref h2, .ref h5, .ref h6, .int x12, .int x13, .int x14])), (h5, .inl (gI g, 40, .inl fn1)), (h6, .inl (gI g, 40, .inl fn2))] [(h1, .inr (3, [.ref h2, .ref h3, .ref h7, .ref h8, .int x8, .int x9, .int x10])), (h0, .inr (9, [.ref h1, .ref h2, .int z18, .int z19, .int z20, .int x3, .int x4, .int z21, .int z22, .int z23])), (h2, .inr (4, [.ref h4, .int x11])), (h4, .inl (gB g, 1500, .inl f24))] (fun sz => c214_X8_add l g h3 h5 h6 z22 z23 h2 x12 x13 x14 fn1 fn2  sz) gX10_takeLetter_X8_add rfl ⟨rfl, rfl⟩ 2 (by decide) ⟨Nat.le_of_ble_eq_true rfl, Nat.le_of_ble_eq_true rfl⟩ 2 rfl rfl [2, 3, 1] [0, 4, 5, 6] rfl rfl (by decide) (by decide) (by decide) rfl rfl (Nat.le_of_ble_eq_true rfl) ⟨Nat.le_of_ble_eq_true rfl, Nat.le_of_ble_eq_true rfl⟩ (fun  u36 w35 => ?_)
          obtain ⟨z32, f33, f34⟩ := u36
          refine r_ws [(h1, .inr (3, [.ref h2, .ref h3, .ref h7, .ref h8, .int x8, .int x9, .int x10])), (h0, .inr (9, [.ref h1, .ref h2, .int z18, .int z19, .int z20, .int x3, .int x4, .int z21, .int z22, .int z23])), (h2, .inr (4, [.ref h4, .int x11])), (h4, .inl (gB g, 1500, .inl f24)), (h3, .inr (7, [.ref h2, .ref h5, .ref h6, .int z32, .int x13, .int x14])), (h5, .inl (gI g, 40, .inl f33)), (h6, .inl (gI g, 40, .inl f34))] rfl ?_
          have gz32 := fb_rng z32
          refine r_aload_n 84 2 C dX10_takeLetter_84 rfl ?_
          refine r_callVi 85 C dX10_takeLetter_85 [] [(h0, .inr (9, [.ref h1, .ref h2, .int z18, .int z19, .int z20, .int x3, .int x4, .int z21, .int z22, .int z23])), (h2, .inr (4, [.ref h4, .int x11])), (h4, .inl (gB g, 1500, .inl f24))] [(h1, .inr (3, [.ref h2, .ref h3, .ref h7, .ref h8, .int x8, .int x9, .int x10])), (h3, .inr (7, [.ref h2, .ref h5, .ref h6, .int z32, .int x13, .int x14])), (h5, .inl (gI g, 40, .inl f33)), (h6, .inl (gI g, 40, .inl f34))] (fun sz => c115_X10_takeWord l g h0 h2 h4 h1 z18 z19 z20 x3 x4 z21 z22 z23 x11 f24 i_x4 i_x11 sz) gX10_takeLetter_X10_takeWord rfl ⟨rfl, rfl⟩ 0 (by decide) ⟨Nat.le_of_ble_eq_true rfl, Nat.le_of_ble_eq_true rfl⟩ 1 rfl rfl [1, 2, 3] [0, 4, 5, 6] rfl rfl (by decide) (by decide) (by decide) rfl rfl (Nat.le_of_ble_eq_true rfl) ⟨Nat.le_of_ble_eq_true rfl, Nat.le_of_ble_eq_true rfl⟩ (fun r40 u42 w41 => ?_)
          obtain ⟨z37, z38, z39⟩ := u42
          refine r_ws [(h1, .inr (3, [.ref h2, .ref h3, .ref h7, .ref h8, .int x8, .int x9, .int x10])), (h3, .inr (7, [.ref h2, .ref h5, .ref h6, .int z32, .int x13, .int x14])), (h5, .inl (gI g, 40, .inl f33)), (h6, .inl (gI g, 40, .inl f34)), (h0, .inr (9, [.ref h1, .ref h2, .int z37, .int z38, .int z39, .int x3, .int x4, .int z21, .int z22, .int z23])), (h2, .inr (4, [.ref h4, .int x11])), (h4, .inl (gB g, 1500, .inl f24))] rfl ?_
          have gz37 := fb_rng z37
          have gz38 := fb_rng z38
          have gz39 := fb_rng z39
          have p43 : 0 ≤ (Int32.toInt r40) := w41.1
          have p44 : (Int32.toInt r40) ≤ 1 := w41.2
          refine r_if_eq 88 95 C dX10_takeLetter_88 (by decide) (fun c45 => ?_) (fun c45 => ?_)
          · skip
            have k46 : (Int32.toInt r40) = 0 := (fa_eq r40 0).mp c45
            refine r_iconst 95 1 C dX10_takeLetter_95 (by decide) ?_
            exact r_iret 96 Rt dX10_takeLetter_96 (z37, z38, z39, z21, z22, z23, z32, f24, f33, f34) (show 0 ≤ (Int32.toInt 1) ∧ (Int32.toInt 1) ≤ 2 from ⟨(by ((repeat' apply And.intro) <;> first | trivial | rfl | assumption | omega | decide | exact Or.inl rfl | exact Or.inr (Or.inl rfl) | exact Or.inr (Or.inr rfl))), (by ((repeat' apply And.intro) <;> first | trivial | rfl | assumption | omega | decide | exact Or.inl rfl | exact Or.inr (Or.inl rfl) | exact Or.inr (Or.inr rfl)))⟩) [4, 0, 5, 1, 6, 2, 3] (by decide) rfl (Nat.le_of_ble_eq_true rfl) (Nat.le_of_ble_eq_true rfl)
          · skip
            have k47 : ¬ ((Int32.toInt r40) = 0) := fun h_9 => c45 ((fa_eq r40 0).mpr h_9)
            refine r_iconst 91 0 C dX10_takeLetter_91 (by decide) ?_
            refine r_goto 92 96 C dX10_takeLetter_92 (by decide) ?_
            exact r_iret 96 Rt dX10_takeLetter_96 (z37, z38, z39, z21, z22, z23, z32, f24, f33, f34) (show 0 ≤ (Int32.toInt 0) ∧ (Int32.toInt 0) ≤ 2 from ⟨(by ((repeat' apply And.intro) <;> first | trivial | rfl | assumption | omega | decide | exact Or.inl rfl | exact Or.inr (Or.inl rfl) | exact Or.inr (Or.inr rfl))), (by ((repeat' apply And.intro) <;> first | trivial | rfl | assumption | omega | decide | exact Or.inl rfl | exact Or.inr (Or.inl rfl) | exact Or.inr (Or.inr rfl)))⟩) [4, 0, 5, 1, 6, 2, 3] (by decide) rfl (Nat.le_of_ble_eq_true rfl) (Nat.le_of_ble_eq_true rfl)
        · skip
          have k48 : ¬ ((Int32.toInt r25) = 0) := fun h_9 => c30 ((fa_eq r25 0).mpr h_9)
          refine r_iload_n 64 0 C dX10_takeLetter_64 rfl ?_
          exact r_iret 65 Rt dX10_takeLetter_65 (z18, z19, z20, z21, z22, z23, x12, f24, fn1, fn2) (show 0 ≤ (Int32.toInt r25) ∧ (Int32.toInt r25) ≤ 2 from ⟨(show _ ∧ _ from ⟨p28, p29⟩).1, (show _ ∧ _ from ⟨p28, p29⟩).2⟩) [4, 0, 5, 2, 6, 3, 1] (by decide) rfl (Nat.le_of_ble_eq_true rfl) (Nat.le_of_ble_eq_true rfl)
      obtain ⟨k49, k50⟩ := w15
      have k50 := k50.symm
      subst k50
      refine r_if_eq_f 50 55 C dX10_takeLetter_50 (by decide) (by decide) ?_
      refine r_iconst 53 2 C dX10_takeLetter_53 (by decide) ?_
      exact r_iret 54 Rt dX10_takeLetter_54 (x0, x1, x2, x5, x6, x7, x12, fn0, fn1, fn2) (show 0 ≤ (Int32.toInt 2) ∧ (Int32.toInt 2) ≤ 2 from ⟨(by ((repeat' apply And.intro) <;> first | trivial | rfl | assumption | omega | decide | exact Or.inl rfl | exact Or.inr (Or.inl rfl) | exact Or.inr (Or.inr rfl))), (by ((repeat' apply And.intro) <;> first | trivial | rfl | assumption | omega | decide | exact Or.inl rfl | exact Or.inr (Or.inl rfl) | exact Or.inr (Or.inr rfl)))⟩) [0, 1, 3, 5, 4, 6, 2] (by decide) rfl (Nat.le_of_ble_eq_true rfl) (Nat.le_of_ble_eq_true rfl)
set_option maxHeartbeats 4000000 in
set_option maxRecDepth 100000 in
theorem c216_X10_takeLetters (l : Launch) (g : GD) (h0 : Nat) (h1 : Nat) (h2 : Nat) (h3 : Nat) (h4 : Nat) (h5 : Nat) (h6 : Nat) (x0 : Int32) (x1 : Int32) (x2 : Int32) (x3 : Int32) (x4 : Int32) (x5 : Int32) (x6 : Int32) (x7 : Int32) (h7 : Nat) (h8 : Nat) (x8 : Int32) (x9 : Int32) (x10 : Int32) (x11 : Int32) (x12 : Int32) (x13 : Int32) (x14 : Int32) (fn0 : Nat → Int32) (fn1 : Nat → Int32) (fn2 : Nat → Int32) (i_x4 : (0 ≤ (Int32.toInt x4) ∧ (Int32.toInt x4) ≤ 1)) (i_x11 : (0 ≤ (Int32.toInt x11) ∧ (Int32.toInt x11) ≤ 1500)) (sz : Nat) : Met l yX10_takeLetters wsX10_takeLetters ({ frames := 8, cells := 0, slots := 0, locals := 174 }) (va_Pc [.ref h0] (PW g [(h0, .inr (9, [.ref h1, .ref h2, .int x0, .int x1, .int x2, .int x3, .int x4, .int x5, .int x6, .int x7])), (h1, .inr (3, [.ref h2, .ref h3, .ref h7, .ref h8, .int x8, .int x9, .int x10])), (h2, .inr (4, [.ref h4, .int x11])), (h3, .inr (7, [.ref h2, .ref h5, .ref h6, .int x12, .int x13, .int x14])), (h4, .inl (gB g, 1500, .inl fn0)), (h5, .inl (gI g, 40, .inl fn1)), (h6, .inl (gI g, 40, .inl fn2))] sz)) (va_Qi (fun (r : Int32) (u : (Int32) × (Int32) × (Int32) × (Int32) × (Int32) × (Int32) × (Int32) × (Nat → Int32) × (Nat → Int32) × (Nat → Int32)) => 0 ≤ (Int32.toInt r) ∧ (Int32.toInt r) ≤ 3) (BW g (va_A [(h0, .inr (9, [.ref h1, .ref h2, .int x0, .int x1, .int x2, .int x3, .int x4, .int x5, .int x6, .int x7])), (h1, .inr (3, [.ref h2, .ref h3, .ref h7, .ref h8, .int x8, .int x9, .int x10])), (h2, .inr (4, [.ref h4, .int x11])), (h3, .inr (7, [.ref h2, .ref h5, .ref h6, .int x12, .int x13, .int x14])), (h4, .inl (gB g, 1500, .inl fn0)), (h5, .inl (gI g, 40, .inl fn1)), (h6, .inl (gI g, 40, .inl fn2))] sz) (fun u : (Int32) × (Int32) × (Int32) × (Int32) × (Int32) × (Int32) × (Int32) × (Nat → Int32) × (Nat → Int32) × (Nat → Int32) => [(h0, .inr (9, [.ref h1, .ref h2, .int u.1, .int u.2.1, .int u.2.2.1, .int x3, .int x4, .int u.2.2.2.1, .int u.2.2.2.2.1, .int u.2.2.2.2.2.1])), (h1, .inr (3, [.ref h2, .ref h3, .ref h7, .ref h8, .int x8, .int x9, .int x10])), (h2, .inr (4, [.ref h4, .int x11])), (h3, .inr (7, [.ref h2, .ref h5, .ref h6, .int u.2.2.2.2.2.2.1, .int x13, .int x14])), (h4, .inl (gB g, 1500, .inl u.2.2.2.2.2.2.2.1)), (h5, .inl (gI g, 40, .inl u.2.2.2.2.2.2.2.2.1)), (h6, .inl (gI g, 40, .inl u.2.2.2.2.2.2.2.2.2))])) (va_A [(h0, .inr (9, [.ref h1, .ref h2, .int x0, .int x1, .int x2, .int x3, .int x4, .int x5, .int x6, .int x7])), (h1, .inr (3, [.ref h2, .ref h3, .ref h7, .ref h8, .int x8, .int x9, .int x10])), (h2, .inr (4, [.ref h4, .int x11])), (h3, .inr (7, [.ref h2, .ref h5, .ref h6, .int x12, .int x13, .int x14])), (h4, .inl (gB g, 1500, .inl fn0)), (h5, .inl (gI g, 40, .inl fn1)), (h6, .inl (gI g, 40, .inl fn2))] sz)) 0 0 (va_A [(h0, .inr (9, [.ref h1, .ref h2, .int x0, .int x1, .int x2, .int x3, .int x4, .int x5, .int x6, .int x7])), (h1, .inr (3, [.ref h2, .ref h3, .ref h7, .ref h8, .int x8, .int x9, .int x10])), (h2, .inr (4, [.ref h4, .int x11])), (h3, .inr (7, [.ref h2, .ref h5, .ref h6, .int x12, .int x13, .int x14])), (h4, .inl (gB g, 1500, .inl fn0)), (h5, .inl (gI g, 40, .inl fn1)), (h6, .inl (gI g, 40, .inl fn2))] sz) := by
  refine met_i RX10 (by decide) rfl rfl (Nat.le_of_ble_eq_true rfl) [(0, .ref h0)] rfl ?_
  intro p e s m args below meth c A Q C hnm Rt
  have hiX10 : ∀ w ∈ wsX100, w ∈ wsX10_takeLetters := fun w h => List.mem_cons_of_mem _ (List.mem_append_left _ (List.mem_append_left _ (List.mem_append_left _ (List.mem_append_right _ (h)))))
  have hiX3 : ∀ w ∈ wsX30, w ∈ wsX10_takeLetters := fun w h => List.mem_cons_of_mem _ (List.mem_append_left _ (List.mem_append_left _ (List.mem_append_right _ (h))))
  refine r_aload_n 0 0 C dX10_takeLetters_0 rfl ?_
  refine r_callVi 1 C dX10_takeLetters_1 [] [(h0, .inr (9, [.ref h1, .ref h2, .int x0, .int x1, .int x2, .int x3, .int x4, .int x5, .int x6, .int x7])), (h2, .inr (4, [.ref h4, .int x11])), (h4, .inl (gB g, 1500, .inl fn0))] [(h1, .inr (3, [.ref h2, .ref h3, .ref h7, .ref h8, .int x8, .int x9, .int x10])), (h3, .inr (7, [.ref h2, .ref h5, .ref h6, .int x12, .int x13, .int x14])), (h5, .inl (gI g, 40, .inl fn1)), (h6, .inl (gI g, 40, .inl fn2))] (fun sz => c154_X10_takeCount l g h0 h2 h4 h1 x0 x1 x2 x3 x4 x5 x6 x7 x11 fn0 i_x4 i_x11 sz) gX10_takeLetters_X10_takeCount rfl ⟨rfl, rfl⟩ 0 (by decide) ⟨Nat.le_of_ble_eq_true rfl, Nat.le_of_ble_eq_true rfl⟩ 0 rfl rfl [0, 2, 4] [1, 3, 5, 6] rfl rfl (by decide) (by decide) (by decide) rfl rfl (Nat.le_of_ble_eq_true rfl) ⟨Nat.le_of_ble_eq_true rfl, Nat.le_of_ble_eq_true rfl⟩ (fun r5 u7 w6 => ?_)
  obtain ⟨z1, z2, z3, z4⟩ := u7
  refine r_ws [(h1, .inr (3, [.ref h2, .ref h3, .ref h7, .ref h8, .int x8, .int x9, .int x10])), (h3, .inr (7, [.ref h2, .ref h5, .ref h6, .int x12, .int x13, .int x14])), (h5, .inl (gI g, 40, .inl fn1)), (h6, .inl (gI g, 40, .inl fn2)), (h0, .inr (9, [.ref h1, .ref h2, .int z1, .int z2, .int z3, .int x3, .int x4, .int z4, .int x6, .int x7])), (h2, .inr (4, [.ref h4, .int x11])), (h4, .inl (gB g, 1500, .inl fn0))] rfl ?_
  have gz1 := fb_rng z1
  have gz2 := fb_rng z2
  have gz3 := fb_rng z3
  have gz4 := fb_rng z4
  have p8 : 0 ≤ (Int32.toInt r5) := w6.1
  have p9 : (Int32.toInt r5) ≤ 2 := w6.2
  refine r_istore_n 4 C dX10_takeLetters_4 [(1, .int r5), (0, .ref h0)] (by decide) rfl ?_
  refine r_iload_n 5 0 C dX10_takeLetters_5 rfl ?_
  refine r_if_ne 6 18 C dX10_takeLetters_6 (by decide) (fun c10 => ?_) (fun c10 => ?_)
  · skip
    have k11 : ¬ ((Int32.toInt r5) = 0) := fun h_9 => c10 ((fa_eq r5 0).mpr h_9)
    refine r_iload_n 18 0 C dX10_takeLetters_18 rfl ?_
    refine r_istore_n 19 C dX10_takeLetters_19 [(1, .int r5), (0, .ref h0)] (by decide) rfl ?_
    refine r_iload_n 20 0 C dX10_takeLetters_20 rfl ?_
    refine r_if_ne_t 21 33 C dX10_takeLetters_21 (by decide) (fun h_9 => by have h_8 : (Int32.toInt r5) = 0 := (fa_eq r5 0).mp h_9; omega) ?_
    refine r_iload_n 33 0 C dX10_takeLetters_33 rfl ?_
    refine r_istore_n 34 C dX10_takeLetters_34 [(1, .int r5), (0, .ref h0)] (by decide) rfl ?_
    refine r_iload_n 35 0 C dX10_takeLetters_35 rfl ?_
    refine r_if_ne_t 36 48 C dX10_takeLetters_36 (by decide) (fun h_9 => by have h_8 : (Int32.toInt r5) = 0 := (fa_eq r5 0).mp h_9; omega) ?_
    refine r_iload_n 48 0 C dX10_takeLetters_48 rfl ?_
    refine r_istore_n 49 C dX10_takeLetters_49 [(1, .int r5), (0, .ref h0)] (by decide) rfl ?_
    refine r_aload_n 50 1 C dX10_takeLetters_50 rfl ?_
    refine r_get 51 C dX10_takeLetters_51 (k := 1) 4 rfl rfl hiX10 (by decide) rfl (mg 1 rfl) (Or.inl rfl) rfl ?_
    refine r_callVi 54 C dX10_takeLetters_54 [] [(h2, .inr (4, [.ref h4, .int x11]))] [(h1, .inr (3, [.ref h2, .ref h3, .ref h7, .ref h8, .int x8, .int x9, .int x10])), (h3, .inr (7, [.ref h2, .ref h5, .ref h6, .int x12, .int x13, .int x14])), (h5, .inl (gI g, 40, .inl fn1)), (h6, .inl (gI g, 40, .inl fn2)), (h0, .inr (9, [.ref h1, .ref h2, .int z1, .int z2, .int z3, .int x3, .int x4, .int z4, .int x6, .int x7])), (h4, .inl (gB g, 1500, .inl fn0))] (fun sz => c0_X5_size l g h2 h4 x11 i_x11 sz) gX10_takeLetters_X5_size rfl ⟨rfl, rfl⟩ 0 (by decide) ⟨Nat.le_of_ble_eq_true rfl, Nat.le_of_ble_eq_true rfl⟩ 5 rfl rfl [5] [0, 1, 2, 3, 4, 6] rfl rfl (by decide) (by decide) (by decide) rfl rfl (Nat.le_of_ble_eq_true rfl) ⟨Nat.le_of_ble_eq_true rfl, Nat.le_of_ble_eq_true rfl⟩ (fun r12 _ w13 => ?_)
    refine r_ws [(h1, .inr (3, [.ref h2, .ref h3, .ref h7, .ref h8, .int x8, .int x9, .int x10])), (h3, .inr (7, [.ref h2, .ref h5, .ref h6, .int x12, .int x13, .int x14])), (h5, .inl (gI g, 40, .inl fn1)), (h6, .inl (gI g, 40, .inl fn2)), (h0, .inr (9, [.ref h1, .ref h2, .int z1, .int z2, .int z3, .int x3, .int x4, .int z4, .int x6, .int x7])), (h4, .inl (gB g, 1500, .inl fn0)), (h2, .inr (4, [.ref h4, .int x11]))] rfl ?_
    have p14 : x11 = r12 := (w13).symm
    subst p14
    refine r_istore_n 57 C dX10_takeLetters_57 [(2, .int x11), (1, .int r5), (0, .ref h0)] (by decide) rfl ?_
    refine r_iconst 58 0 C dX10_takeLetters_58 (by decide) ?_
    refine r_istore_n 59 C dX10_takeLetters_59 [(3, .int 0), (2, .int x11), (1, .int r5), (0, .ref h0)] (by decide) rfl ?_
    have lp18 : ∀ (n17 : Nat) (z15 : Int32) (z16 : Int32), (0 ≤ (Int32.toInt z15) ∧ (Int32.toInt z15) ≤ 0) → (1 ≤ (Int32.toInt z16) ∧ (Int32.toInt z16) ≤ 2) → Int.toNat (0 - (Int32.toInt z15)) < n17 → WW p l e ({ frames := 8, cells := 0, slots := 0, locals := 174 } : Room) s m args below meth c A Q g 4 0 0 [(h1, .inr (3, [.ref h2, .ref h3, .ref h7, .ref h8, .int x8, .int x9, .int x10])), (h3, .inr (7, [.ref h2, .ref h5, .ref h6, .int x12, .int x13, .int x14])), (h5, .inl (gI g, 40, .inl fn1)), (h6, .inl (gI g, 40, .inl fn2)), (h0, .inr (9, [.ref h1, .ref h2, .int z1, .int z2, .int z3, .int x3, .int x4, .int z4, .int x6, .int x7])), (h4, .inl (gB g, 1500, .inl fn0)), (h2, .inr (4, [.ref h4, .int x11]))] 60 [(3, .int z15), (2, .int x11), (1, .int z16), (0, .ref h0)] [] := by
      intro n17
      induction n17 with
      | zero => intro z15 z16 i21 i22 hm20; exact absurd hm20 (Nat.not_lt_zero _)
      | succ n17 ih19 =>
        intro z15 z16 i21 i22 hm20
        obtain ⟨i21a, i21b⟩ := i21
        obtain ⟨i22a, i22b⟩ := i22
        refine r_iload_n 60 0 C dX10_takeLetters_60 rfl ?_
        refine r_iload_n 61 1 C dX10_takeLetters_61 rfl ?_
        refine r_icmp_gt_f 62 117 C dX10_takeLetters_62 (by decide) (fun h_9 => by have h_8 : (Int32.toInt x11) < (Int32.toInt z15) := (fa_lt x11 z15).mp h_9; omega) ?_
        refine r_iload_n 65 2 C dX10_takeLetters_65 rfl ?_
        refine r_if_ne_t 66 117 C dX10_takeLetters_66 (by decide) (fun h_9 => by have h_8 : (Int32.toInt z16) = 0 := (fa_eq z16 0).mp h_9; omega) ?_
        refine r_iload_n 117 2 C dX10_takeLetters_117 rfl ?_
        exact r_iret 118 Rt dX10_takeLetters_118 (z1, z2, z3, z4, x6, x7, x12, fn0, fn1, fn2) (show 0 ≤ (Int32.toInt z16) ∧ (Int32.toInt z16) ≤ 3 from ⟨(iv_wide (c := 0) (d := 3) ⟨i22a, i22b⟩ (by decide) (by decide)).1, (iv_wide (c := 0) (d := 3) ⟨i22a, i22b⟩ (by decide) (by decide)).2⟩) [4, 0, 6, 1, 5, 2, 3] (by decide) rfl (Nat.le_of_ble_eq_true rfl) (Nat.le_of_ble_eq_true rfl)
    exact lp18 _ 0 r5 (by decide) ⟨by omega, by omega⟩ (Nat.lt_succ_self _)
  · skip
    have k23 : (Int32.toInt r5) = 0 := (fa_eq r5 0).mp c10
    refine r_aload_n 9 1 C dX10_takeLetters_9 rfl ?_
    refine r_ldcS 10 6 C rfl (by decide) rfl dX10_takeLetters_10 ?_
    refine r_callVi 12 C dX10_takeLetters_12 [] [(h0, .inr (9, [.ref h1, .ref h2, .int z1, .int z2, .int z3, .int x3, .int x4, .int z4, .int x6, .int x7])), (h2, .inr (4, [.ref h4, .int x11])), (h4, .inl (gB g, 1500, .inl fn0))] [(h1, .inr (3, [.ref h2, .ref h3, .ref h7, .ref h8, .int x8, .int x9, .int x10])), (h3, .inr (7, [.ref h2, .ref h5, .ref h6, .int x12, .int x13, .int x14])), (h5, .inl (gI g, 40, .inl fn1)), (h6, .inl (gI g, 40, .inl fn2))] (fun sz => c195_X10_takeThisWord l g h0 h2 h4 h1 z1 z2 z3 x3 x4 z4 x6 x7 x11 fn0 i_x4 i_x11 sz) gX10_takeLetters_X10_takeThisWord rfl ⟨rfl, rfl⟩ 1 (by decide) ⟨Nat.le_of_ble_eq_true rfl, Nat.le_of_ble_eq_true rfl⟩ 4 rfl rfl [4, 5, 6] [0, 1, 2, 3] rfl rfl (by decide) (by decide) (by decide) rfl rfl (Nat.le_of_ble_eq_true rfl) ⟨Nat.le_of_ble_eq_true rfl, Nat.le_of_ble_eq_true rfl⟩ (fun r27 u29 w28 => ?_)
    obtain ⟨z24, z25, z26⟩ := u29
    refine r_ws [(h1, .inr (3, [.ref h2, .ref h3, .ref h7, .ref h8, .int x8, .int x9, .int x10])), (h3, .inr (7, [.ref h2, .ref h5, .ref h6, .int x12, .int x13, .int x14])), (h5, .inl (gI g, 40, .inl fn1)), (h6, .inl (gI g, 40, .inl fn2)), (h0, .inr (9, [.ref h1, .ref h2, .int z24, .int z25, .int z26, .int x3, .int x4, .int z4, .int x6, .int x7])), (h2, .inr (4, [.ref h4, .int x11])), (h4, .inl (gB g, 1500, .inl fn0))] rfl ?_
    have gz24 := fb_rng z24
    have gz25 := fb_rng z25
    have gz26 := fb_rng z26
    have p30 : 0 ≤ (Int32.toInt r27) := w28.1
    have p31 : (Int32.toInt r27) ≤ 2 := w28.2
    refine r_goto 15 19 C dX10_takeLetters_15 (by decide) ?_
    refine r_istore_n 19 C dX10_takeLetters_19 [(1, .int r27), (0, .ref h0)] (by decide) rfl ?_
    refine r_iload_n 20 0 C dX10_takeLetters_20 rfl ?_
    refine r_if_ne 21 33 C dX10_takeLetters_21 (by decide) (fun c32 => ?_) (fun c32 => ?_)
    · skip
      have k33 : ¬ ((Int32.toInt r27) = 0) := fun h_9 => c32 ((fa_eq r27 0).mpr h_9)
      refine r_iload_n 33 0 C dX10_takeLetters_33 rfl ?_
      refine r_istore_n 34 C dX10_takeLetters_34 [(1, .int r27), (0, .ref h0)] (by decide) rfl ?_
      refine r_iload_n 35 0 C dX10_takeLetters_35 rfl ?_
      refine r_if_ne_t 36 48 C dX10_takeLetters_36 (by decide) (fun h_9 => by have h_8 : (Int32.toInt r27) = 0 := (fa_eq r27 0).mp h_9; omega) ?_
      refine r_iload_n 48 0 C dX10_takeLetters_48 rfl ?_
      refine r_istore_n 49 C dX10_takeLetters_49 [(1, .int r27), (0, .ref h0)] (by decide) rfl ?_
      refine r_aload_n 50 1 C dX10_takeLetters_50 rfl ?_
      refine r_get 51 C dX10_takeLetters_51 (k := 1) 4 rfl rfl hiX10 (by decide) rfl (mg 1 rfl) (Or.inl rfl) rfl ?_
      refine r_callVi 54 C dX10_takeLetters_54 [] [(h2, .inr (4, [.ref h4, .int x11]))] [(h1, .inr (3, [.ref h2, .ref h3, .ref h7, .ref h8, .int x8, .int x9, .int x10])), (h3, .inr (7, [.ref h2, .ref h5, .ref h6, .int x12, .int x13, .int x14])), (h5, .inl (gI g, 40, .inl fn1)), (h6, .inl (gI g, 40, .inl fn2)), (h0, .inr (9, [.ref h1, .ref h2, .int z24, .int z25, .int z26, .int x3, .int x4, .int z4, .int x6, .int x7])), (h4, .inl (gB g, 1500, .inl fn0))] (fun sz => c0_X5_size l g h2 h4 x11 i_x11 sz) gX10_takeLetters_X5_size rfl ⟨rfl, rfl⟩ 0 (by decide) ⟨Nat.le_of_ble_eq_true rfl, Nat.le_of_ble_eq_true rfl⟩ 5 rfl rfl [5] [0, 1, 2, 3, 4, 6] rfl rfl (by decide) (by decide) (by decide) rfl rfl (Nat.le_of_ble_eq_true rfl) ⟨Nat.le_of_ble_eq_true rfl, Nat.le_of_ble_eq_true rfl⟩ (fun r34 _ w35 => ?_)
      refine r_ws [(h1, .inr (3, [.ref h2, .ref h3, .ref h7, .ref h8, .int x8, .int x9, .int x10])), (h3, .inr (7, [.ref h2, .ref h5, .ref h6, .int x12, .int x13, .int x14])), (h5, .inl (gI g, 40, .inl fn1)), (h6, .inl (gI g, 40, .inl fn2)), (h0, .inr (9, [.ref h1, .ref h2, .int z24, .int z25, .int z26, .int x3, .int x4, .int z4, .int x6, .int x7])), (h4, .inl (gB g, 1500, .inl fn0)), (h2, .inr (4, [.ref h4, .int x11]))] rfl ?_
      have p36 : x11 = r34 := (w35).symm
      subst p36
      refine r_istore_n 57 C dX10_takeLetters_57 [(2, .int x11), (1, .int r27), (0, .ref h0)] (by decide) rfl ?_
      refine r_iconst 58 0 C dX10_takeLetters_58 (by decide) ?_
      refine r_istore_n 59 C dX10_takeLetters_59 [(3, .int 0), (2, .int x11), (1, .int r27), (0, .ref h0)] (by decide) rfl ?_
      have lp40 : ∀ (n39 : Nat) (z37 : Int32) (z38 : Int32), (0 ≤ (Int32.toInt z37) ∧ (Int32.toInt z37) ≤ 0) → (1 ≤ (Int32.toInt z38) ∧ (Int32.toInt z38) ≤ 2) → Int.toNat (0 - (Int32.toInt z37)) < n39 → WW p l e ({ frames := 8, cells := 0, slots := 0, locals := 174 } : Room) s m args below meth c A Q g 4 0 0 [(h1, .inr (3, [.ref h2, .ref h3, .ref h7, .ref h8, .int x8, .int x9, .int x10])), (h3, .inr (7, [.ref h2, .ref h5, .ref h6, .int x12, .int x13, .int x14])), (h5, .inl (gI g, 40, .inl fn1)), (h6, .inl (gI g, 40, .inl fn2)), (h0, .inr (9, [.ref h1, .ref h2, .int z24, .int z25, .int z26, .int x3, .int x4, .int z4, .int x6, .int x7])), (h4, .inl (gB g, 1500, .inl fn0)), (h2, .inr (4, [.ref h4, .int x11]))] 60 [(3, .int z37), (2, .int x11), (1, .int z38), (0, .ref h0)] [] := by
        intro n39
        induction n39 with
        | zero => intro z37 z38 i43 i44 hm42; exact absurd hm42 (Nat.not_lt_zero _)
        | succ n39 ih41 =>
          intro z37 z38 i43 i44 hm42
          obtain ⟨i43a, i43b⟩ := i43
          obtain ⟨i44a, i44b⟩ := i44
          refine r_iload_n 60 0 C dX10_takeLetters_60 rfl ?_
          refine r_iload_n 61 1 C dX10_takeLetters_61 rfl ?_
          refine r_icmp_gt_f 62 117 C dX10_takeLetters_62 (by decide) (fun h_9 => by have h_8 : (Int32.toInt x11) < (Int32.toInt z37) := (fa_lt x11 z37).mp h_9; omega) ?_
          refine r_iload_n 65 2 C dX10_takeLetters_65 rfl ?_
          refine r_if_ne_t 66 117 C dX10_takeLetters_66 (by decide) (fun h_9 => by have h_8 : (Int32.toInt z38) = 0 := (fa_eq z38 0).mp h_9; omega) ?_
          refine r_iload_n 117 2 C dX10_takeLetters_117 rfl ?_
          exact r_iret 118 Rt dX10_takeLetters_118 (z24, z25, z26, z4, x6, x7, x12, fn0, fn1, fn2) (show 0 ≤ (Int32.toInt z38) ∧ (Int32.toInt z38) ≤ 3 from ⟨(iv_wide (c := 0) (d := 3) ⟨i44a, i44b⟩ (by decide) (by decide)).1, (iv_wide (c := 0) (d := 3) ⟨i44a, i44b⟩ (by decide) (by decide)).2⟩) [4, 0, 6, 1, 5, 2, 3] (by decide) rfl (Nat.le_of_ble_eq_true rfl) (Nat.le_of_ble_eq_true rfl)
      exact lp40 _ 0 r27 (by decide) ⟨by omega, by omega⟩ (Nat.lt_succ_self _)
    · skip
      have k45 : (Int32.toInt r27) = 0 := (fa_eq r27 0).mp c32
      refine r_aload_n 24 1 C dX10_takeLetters_24 rfl ?_
      refine r_ldcS 25 4 C rfl (by decide) rfl dX10_takeLetters_25 ?_
      refine r_callVi 27 C dX10_takeLetters_27 [] [(h0, .inr (9, [.ref h1, .ref h2, .int z24, .int z25, .int z26, .int x3, .int x4, .int z4, .int x6, .int x7])), (h2, .inr (4, [.ref h4, .int x11])), (h4, .inl (gB g, 1500, .inl fn0))] [(h1, .inr (3, [.ref h2, .ref h3, .ref h7, .ref h8, .int x8, .int x9, .int x10])), (h3, .inr (7, [.ref h2, .ref h5, .ref h6, .int x12, .int x13, .int x14])), (h5, .inl (gI g, 40, .inl fn1)), (h6, .inl (gI g, 40, .inl fn2))] (fun sz => c196_X10_takeThisWord l g h0 h2 h4 h1 z24 z25 z26 x3 x4 z4 x6 x7 x11 fn0 i_x4 i_x11 sz) gX10_takeLetters_X10_takeThisWord rfl ⟨rfl, rfl⟩ 1 (by decide) ⟨Nat.le_of_ble_eq_true rfl, Nat.le_of_ble_eq_true rfl⟩ 4 rfl rfl [4, 5, 6] [0, 1, 2, 3] rfl rfl (by decide) (by decide) (by decide) rfl rfl (Nat.le_of_ble_eq_true rfl) ⟨Nat.le_of_ble_eq_true rfl, Nat.le_of_ble_eq_true rfl⟩ (fun r49 u51 w50 => ?_)
      obtain ⟨z46, z47, z48⟩ := u51
      refine r_ws [(h1, .inr (3, [.ref h2, .ref h3, .ref h7, .ref h8, .int x8, .int x9, .int x10])), (h3, .inr (7, [.ref h2, .ref h5, .ref h6, .int x12, .int x13, .int x14])), (h5, .inl (gI g, 40, .inl fn1)), (h6, .inl (gI g, 40, .inl fn2)), (h0, .inr (9, [.ref h1, .ref h2, .int z46, .int z47, .int z48, .int x3, .int x4, .int z4, .int x6, .int x7])), (h2, .inr (4, [.ref h4, .int x11])), (h4, .inl (gB g, 1500, .inl fn0))] rfl ?_
      have gz46 := fb_rng z46
      have gz47 := fb_rng z47
      have gz48 := fb_rng z48
      have p52 : 0 ≤ (Int32.toInt r49) := w50.1
      have p53 : (Int32.toInt r49) ≤ 2 := w50.2
      refine r_goto 30 34 C dX10_takeLetters_30 (by decide) ?_
      refine r_istore_n 34 C dX10_takeLetters_34 [(1, .int r49), (0, .ref h0)] (by decide) rfl ?_
      refine r_iload_n 35 0 C dX10_takeLetters_35 rfl ?_
      refine r_if_ne 36 48 C dX10_takeLetters_36 (by decide) (fun c54 => ?_) (fun c54 => ?_)
      · skip
        have k55 : ¬ ((Int32.toInt r49) = 0) := fun h_9 => c54 ((fa_eq r49 0).mpr h_9)
        refine r_iload_n 48 0 C dX10_takeLetters_48 rfl ?_
        refine r_istore_n 49 C dX10_takeLetters_49 [(1, .int r49), (0, .ref h0)] (by decide) rfl ?_
        refine r_aload_n 50 1 C dX10_takeLetters_50 rfl ?_
        refine r_get 51 C dX10_takeLetters_51 (k := 1) 4 rfl rfl hiX10 (by decide) rfl (mg 1 rfl) (Or.inl rfl) rfl ?_
        refine r_callVi 54 C dX10_takeLetters_54 [] [(h2, .inr (4, [.ref h4, .int x11]))] [(h1, .inr (3, [.ref h2, .ref h3, .ref h7, .ref h8, .int x8, .int x9, .int x10])), (h3, .inr (7, [.ref h2, .ref h5, .ref h6, .int x12, .int x13, .int x14])), (h5, .inl (gI g, 40, .inl fn1)), (h6, .inl (gI g, 40, .inl fn2)), (h0, .inr (9, [.ref h1, .ref h2, .int z46, .int z47, .int z48, .int x3, .int x4, .int z4, .int x6, .int x7])), (h4, .inl (gB g, 1500, .inl fn0))] (fun sz => c0_X5_size l g h2 h4 x11 i_x11 sz) gX10_takeLetters_X5_size rfl ⟨rfl, rfl⟩ 0 (by decide) ⟨Nat.le_of_ble_eq_true rfl, Nat.le_of_ble_eq_true rfl⟩ 5 rfl rfl [5] [0, 1, 2, 3, 4, 6] rfl rfl (by decide) (by decide) (by decide) rfl rfl (Nat.le_of_ble_eq_true rfl) ⟨Nat.le_of_ble_eq_true rfl, Nat.le_of_ble_eq_true rfl⟩ (fun r56 _ w57 => ?_)
        refine r_ws [(h1, .inr (3, [.ref h2, .ref h3, .ref h7, .ref h8, .int x8, .int x9, .int x10])), (h3, .inr (7, [.ref h2, .ref h5, .ref h6, .int x12, .int x13, .int x14])), (h5, .inl (gI g, 40, .inl fn1)), (h6, .inl (gI g, 40, .inl fn2)), (h0, .inr (9, [.ref h1, .ref h2, .int z46, .int z47, .int z48, .int x3, .int x4, .int z4, .int x6, .int x7])), (h4, .inl (gB g, 1500, .inl fn0)), (h2, .inr (4, [.ref h4, .int x11]))] rfl ?_
        have p58 : x11 = r56 := (w57).symm
        subst p58
        refine r_istore_n 57 C dX10_takeLetters_57 [(2, .int x11), (1, .int r49), (0, .ref h0)] (by decide) rfl ?_
        refine r_iconst 58 0 C dX10_takeLetters_58 (by decide) ?_
        refine r_istore_n 59 C dX10_takeLetters_59 [(3, .int 0), (2, .int x11), (1, .int r49), (0, .ref h0)] (by decide) rfl ?_
        have lp62 : ∀ (n61 : Nat) (z59 : Int32) (z60 : Int32), (0 ≤ (Int32.toInt z59) ∧ (Int32.toInt z59) ≤ 0) → (1 ≤ (Int32.toInt z60) ∧ (Int32.toInt z60) ≤ 2) → Int.toNat (0 - (Int32.toInt z59)) < n61 → WW p l e ({ frames := 8, cells := 0, slots := 0, locals := 174 } : Room) s m args below meth c A Q g 4 0 0 [(h1, .inr (3, [.ref h2, .ref h3, .ref h7, .ref h8, .int x8, .int x9, .int x10])), (h3, .inr (7, [.ref h2, .ref h5, .ref h6, .int x12, .int x13, .int x14])), (h5, .inl (gI g, 40, .inl fn1)), (h6, .inl (gI g, 40, .inl fn2)), (h0, .inr (9, [.ref h1, .ref h2, .int z46, .int z47, .int z48, .int x3, .int x4, .int z4, .int x6, .int x7])), (h4, .inl (gB g, 1500, .inl fn0)), (h2, .inr (4, [.ref h4, .int x11]))] 60 [(3, .int z59), (2, .int x11), (1, .int z60), (0, .ref h0)] [] := by
          intro n61
          induction n61 with
          | zero => intro z59 z60 i65 i66 hm64; exact absurd hm64 (Nat.not_lt_zero _)
          | succ n61 ih63 =>
            intro z59 z60 i65 i66 hm64
            obtain ⟨i65a, i65b⟩ := i65
            obtain ⟨i66a, i66b⟩ := i66
            refine r_iload_n 60 0 C dX10_takeLetters_60 rfl ?_
            refine r_iload_n 61 1 C dX10_takeLetters_61 rfl ?_
            refine r_icmp_gt_f 62 117 C dX10_takeLetters_62 (by decide) (fun h_9 => by have h_8 : (Int32.toInt x11) < (Int32.toInt z59) := (fa_lt x11 z59).mp h_9; omega) ?_
            refine r_iload_n 65 2 C dX10_takeLetters_65 rfl ?_
            refine r_if_ne_t 66 117 C dX10_takeLetters_66 (by decide) (fun h_9 => by have h_8 : (Int32.toInt z60) = 0 := (fa_eq z60 0).mp h_9; omega) ?_
            refine r_iload_n 117 2 C dX10_takeLetters_117 rfl ?_
            exact r_iret 118 Rt dX10_takeLetters_118 (z46, z47, z48, z4, x6, x7, x12, fn0, fn1, fn2) (show 0 ≤ (Int32.toInt z60) ∧ (Int32.toInt z60) ≤ 3 from ⟨(iv_wide (c := 0) (d := 3) ⟨i66a, i66b⟩ (by decide) (by decide)).1, (iv_wide (c := 0) (d := 3) ⟨i66a, i66b⟩ (by decide) (by decide)).2⟩) [4, 0, 6, 1, 5, 2, 3] (by decide) rfl (Nat.le_of_ble_eq_true rfl) (Nat.le_of_ble_eq_true rfl)
        exact lp62 _ 0 r49 (by decide) ⟨by omega, by omega⟩ (Nat.lt_succ_self _)
      · skip
        have k67 : (Int32.toInt r49) = 0 := (fa_eq r49 0).mp c54
        refine r_aload_n 39 1 C dX10_takeLetters_39 rfl ?_
        refine r_ldcS 40 7 C rfl (by decide) rfl dX10_takeLetters_40 ?_
        refine r_callVi 42 C dX10_takeLetters_42 [] [(h0, .inr (9, [.ref h1, .ref h2, .int z46, .int z47, .int z48, .int x3, .int x4, .int z4, .int x6, .int x7])), (h2, .inr (4, [.ref h4, .int x11])), (h4, .inl (gB g, 1500, .inl fn0))] [(h1, .inr (3, [.ref h2, .ref h3, .ref h7, .ref h8, .int x8, .int x9, .int x10])), (h3, .inr (7, [.ref h2, .ref h5, .ref h6, .int x12, .int x13, .int x14])), (h5, .inl (gI g, 40, .inl fn1)), (h6, .inl (gI g, 40, .inl fn2))] (fun sz => c204_X10_takeThisWord l g h0 h2 h4 h1 z46 z47 z48 x3 x4 z4 x6 x7 x11 fn0 i_x4 i_x11 sz) gX10_takeLetters_X10_takeThisWord rfl ⟨rfl, rfl⟩ 1 (by decide) ⟨Nat.le_of_ble_eq_true rfl, Nat.le_of_ble_eq_true rfl⟩ 4 rfl rfl [4, 5, 6] [0, 1, 2, 3] rfl rfl (by decide) (by decide) (by decide) rfl rfl (Nat.le_of_ble_eq_true rfl) ⟨Nat.le_of_ble_eq_true rfl, Nat.le_of_ble_eq_true rfl⟩ (fun r71 u73 w72 => ?_)
        obtain ⟨z68, z69, z70⟩ := u73
        refine r_ws [(h1, .inr (3, [.ref h2, .ref h3, .ref h7, .ref h8, .int x8, .int x9, .int x10])), (h3, .inr (7, [.ref h2, .ref h5, .ref h6, .int x12, .int x13, .int x14])), (h5, .inl (gI g, 40, .inl fn1)), (h6, .inl (gI g, 40, .inl fn2)), (h0, .inr (9, [.ref h1, .ref h2, .int z68, .int z69, .int z70, .int x3, .int x4, .int z4, .int x6, .int x7])), (h2, .inr (4, [.ref h4, .int x11])), (h4, .inl (gB g, 1500, .inl fn0))] rfl ?_
        have gz68 := fb_rng z68
        have gz69 := fb_rng z69
        have gz70 := fb_rng z70
        have p74 : 0 ≤ (Int32.toInt r71) := w72.1
        have p75 : (Int32.toInt r71) ≤ 2 := w72.2
        refine r_goto 45 49 C dX10_takeLetters_45 (by decide) ?_
        refine r_istore_n 49 C dX10_takeLetters_49 [(1, .int r71), (0, .ref h0)] (by decide) rfl ?_
        refine r_aload_n 50 1 C dX10_takeLetters_50 rfl ?_
        refine r_get 51 C dX10_takeLetters_51 (k := 1) 4 rfl rfl hiX10 (by decide) rfl (mg 1 rfl) (Or.inl rfl) rfl ?_
        refine r_callVi 54 C dX10_takeLetters_54 [] [(h2, .inr (4, [.ref h4, .int x11]))] [(h1, .inr (3, [.ref h2, .ref h3, .ref h7, .ref h8, .int x8, .int x9, .int x10])), (h3, .inr (7, [.ref h2, .ref h5, .ref h6, .int x12, .int x13, .int x14])), (h5, .inl (gI g, 40, .inl fn1)), (h6, .inl (gI g, 40, .inl fn2)), (h0, .inr (9, [.ref h1, .ref h2, .int z68, .int z69, .int z70, .int x3, .int x4, .int z4, .int x6, .int x7])), (h4, .inl (gB g, 1500, .inl fn0))] (fun sz => c0_X5_size l g h2 h4 x11 i_x11 sz) gX10_takeLetters_X5_size rfl ⟨rfl, rfl⟩ 0 (by decide) ⟨Nat.le_of_ble_eq_true rfl, Nat.le_of_ble_eq_true rfl⟩ 5 rfl rfl [5] [0, 1, 2, 3, 4, 6] rfl rfl (by decide) (by decide) (by decide) rfl rfl (Nat.le_of_ble_eq_true rfl) ⟨Nat.le_of_ble_eq_true rfl, Nat.le_of_ble_eq_true rfl⟩ (fun r76 _ w77 => ?_)
        refine r_ws [(h1, .inr (3, [.ref h2, .ref h3, .ref h7, .ref h8, .int x8, .int x9, .int x10])), (h3, .inr (7, [.ref h2, .ref h5, .ref h6, .int x12, .int x13, .int x14])), (h5, .inl (gI g, 40, .inl fn1)), (h6, .inl (gI g, 40, .inl fn2)), (h0, .inr (9, [.ref h1, .ref h2, .int z68, .int z69, .int z70, .int x3, .int x4, .int z4, .int x6, .int x7])), (h4, .inl (gB g, 1500, .inl fn0)), (h2, .inr (4, [.ref h4, .int x11]))] rfl ?_
        have p78 : x11 = r76 := (w77).symm
        subst p78
        refine r_istore_n 57 C dX10_takeLetters_57 [(2, .int x11), (1, .int r71), (0, .ref h0)] (by decide) rfl ?_
        refine r_iconst 58 0 C dX10_takeLetters_58 (by decide) ?_
        refine r_istore_n 59 C dX10_takeLetters_59 [(3, .int 0), (2, .int x11), (1, .int r71), (0, .ref h0)] (by decide) rfl ?_
        have lp92 : ∀ (n91 : Nat) (z79 : Int32) (z80 : Int32) (z81 : Int32) (f82 : Nat → Int32) (f83 : Nat → Int32) (z84 : Int32) (z85 : Int32) (z86 : Int32) (z87 : Int32) (z88 : Int32) (z89 : Int32) (f90 : Nat → Int32), (0 ≤ (Int32.toInt z79) ∧ (Int32.toInt z79) ≤ 1501) → (0 ≤ (Int32.toInt z80) ∧ (Int32.toInt z80) ≤ 2) → Int.toNat (1501 - (Int32.toInt z79)) < n91 → WW p l e ({ frames := 8, cells := 0, slots := 0, locals := 174 } : Room) s m args below meth c A Q g 4 0 0 [(h1, .inr (3, [.ref h2, .ref h3, .ref h7, .ref h8, .int x8, .int x9, .int x10])), (h3, .inr (7, [.ref h2, .ref h5, .ref h6, .int z81, .int x13, .int x14])), (h5, .inl (gI g, 40, .inl f82)), (h6, .inl (gI g, 40, .inl f83)), (h0, .inr (9, [.ref h1, .ref h2, .int z84, .int z85, .int z86, .int x3, .int x4, .int z87, .int z88, .int z89])), (h4, .inl (gB g, 1500, .inl f90)), (h2, .inr (4, [.ref h4, .int x11]))] 60 [(3, .int z79), (2, .int x11), (1, .int z80), (0, .ref h0)] [] := by
          intro n91
          induction n91 with
          | zero => intro z79 z80 z81 f82 f83 z84 z85 z86 z87 z88 z89 f90 i95 i96 hm94; exact absurd hm94 (Nat.not_lt_zero _)
          | succ n91 ih93 =>
            intro z79 z80 z81 f82 f83 z84 z85 z86 z87 z88 z89 f90 i95 i96 hm94
            obtain ⟨i95a, i95b⟩ := i95
            obtain ⟨i96a, i96b⟩ := i96
            have gz81 := fb_rng z81
            have gz84 := fb_rng z84
            have gz85 := fb_rng z85
            have gz86 := fb_rng z86
            have gz87 := fb_rng z87
            have gz88 := fb_rng z88
            have gz89 := fb_rng z89
            refine r_iload_n 60 0 C dX10_takeLetters_60 rfl ?_
            refine r_iload_n 61 1 C dX10_takeLetters_61 rfl ?_
            refine r_icmp_gt 62 117 C dX10_takeLetters_62 (by decide) (fun c97 => ?_) (fun c97 => ?_)
            · skip
              have k98 : (Int32.toInt x11) < (Int32.toInt z79) := (fa_lt x11 z79).mp c97
              refine r_iload_n 117 2 C dX10_takeLetters_117 rfl ?_
              exact r_iret 118 Rt dX10_takeLetters_118 (z84, z85, z86, z87, z88, z89, z81, f90, f82, f83) (show 0 ≤ (Int32.toInt z80) ∧ (Int32.toInt z80) ≤ 3 from ⟨(iv_wide (c := 0) (d := 3) ⟨i96a, i96b⟩ (by decide) (by decide)).1, (iv_wide (c := 0) (d := 3) ⟨i96a, i96b⟩ (by decide) (by decide)).2⟩) [4, 0, 6, 1, 5, 2, 3] (by decide) rfl (Nat.le_of_ble_eq_true rfl) (Nat.le_of_ble_eq_true rfl)
            · skip
              have k99 : ¬ ((Int32.toInt x11) < (Int32.toInt z79)) := fun h_9 => c97 ((fa_lt x11 z79).mpr h_9)
              refine r_iload_n 65 2 C dX10_takeLetters_65 rfl ?_
              refine r_if_ne 66 117 C dX10_takeLetters_66 (by decide) (fun c100 => ?_) (fun c100 => ?_)
              · skip
                have k101 : ¬ ((Int32.toInt z80) = 0) := fun h_9 => c100 ((fa_eq z80 0).mpr h_9)
                refine r_iload_n 117 2 C dX10_takeLetters_117 rfl ?_
                exact r_iret 118 Rt dX10_takeLetters_118 (z84, z85, z86, z87, z88, z89, z81, f90, f82, f83) (show 0 ≤ (Int32.toInt z80) ∧ (Int32.toInt z80) ≤ 3 from ⟨(iv_wide (c := 0) (d := 3) ⟨i96a, i96b⟩ (by decide) (by decide)).1, (iv_wide (c := 0) (d := 3) ⟨i96a, i96b⟩ (by decide) (by decide)).2⟩) [4, 0, 6, 1, 5, 2, 3] (by decide) rfl (Nat.le_of_ble_eq_true rfl) (Nat.le_of_ble_eq_true rfl)
              · skip
                have k102 : (Int32.toInt z80) = 0 := (fa_eq z80 0).mp c100
                refine r_aload_n 69 3 C dX10_takeLetters_69 rfl ?_
                refine r_callVi 70 C dX10_takeLetters_70 [] [(h0, .inr (9, [.ref h1, .ref h2, .int z84, .int z85, .int z86, .int x3, .int x4, .int z87, .int z88, .int z89])), (h2, .inr (4, [.ref h4, .int x11])), (h4, .inl (gB g, 1500, .inl f90))] [(h1, .inr (3, [.ref h2, .ref h3, .ref h7, .ref h8, .int x8, .int x9, .int x10])), (h3, .inr (7, [.ref h2, .ref h5, .ref h6, .int z81, .int x13, .int x14])), (h5, .inl (gI g, 40, .inl f82)), (h6, .inl (gI g, 40, .inl f83))] (fun sz => c115_X10_takeWord l g h0 h2 h4 h1 z84 z85 z86 x3 x4 z87 z88 z89 x11 f90 i_x4 i_x11 sz) gX10_takeLetters_X10_takeWord rfl ⟨rfl, rfl⟩ 0 (by decide) ⟨Nat.le_of_ble_eq_true rfl, Nat.le_of_ble_eq_true rfl⟩ 4 rfl rfl [4, 6, 5] [0, 1, 2, 3] rfl rfl (by decide) (by decide) (by decide) rfl rfl (Nat.le_of_ble_eq_true rfl) ⟨Nat.le_of_ble_eq_true rfl, Nat.le_of_ble_eq_true rfl⟩ (fun r106 u108 w107 => ?_)
                obtain ⟨z103, z104, z105⟩ := u108
                refine r_ws [(h1, .inr (3, [.ref h2, .ref h3, .ref h7, .ref h8, .int x8, .int x9, .int x10])), (h3, .inr (7, [.ref h2, .ref h5, .ref h6, .int z81, .int x13, .int x14])), (h5, .inl (gI g, 40, .inl f82)), (h6, .inl (gI g, 40, .inl f83)), (h0, .inr (9, [.ref h1, .ref h2, .int z103, .int z104, .int z105, .int x3, .int x4, .int z87, .int z88, .int z89])), (h2, .inr (4, [.ref h4, .int x11])), (h4, .inl (gB g, 1500, .inl f90))] rfl ?_
                have gz103 := fb_rng z103
                have gz104 := fb_rng z104
                have gz105 := fb_rng z105
                have p109 : 0 ≤ (Int32.toInt r106) := w107.1
                have p110 : (Int32.toInt r106) ≤ 1 := w107.2
                refine r_if_ne 73 78 C dX10_takeLetters_73 (by decide) (fun c111 => ?_) (fun c111 => ?_)
                · skip
                  have k112 : ¬ ((Int32.toInt r106) = 0) := fun h_9 => c111 ((fa_eq r106 0).mpr h_9)
                  refine r_aload_n 78 3 C dX10_takeLetters_78 rfl ?_
                  refine r_ldcS 79 8 C rfl (by decide) rfl dX10_takeLetters_79 ?_
                  refine r_callVi 81 C dX10_takeLetters_81 [] [(h0, .inr (9, [.ref h1, .ref h2, .int z103, .int z104, .int z105, .int x3, .int x4, .int z87, .int z88, .int z89])), (h2, .inr (4, [.ref h4, .int x11])), (h4, .inl (gB g, 1500, .inl f90))] [(h1, .inr (3, [.ref h2, .ref h3, .ref h7, .ref h8, .int x8, .int x9, .int x10])), (h3, .inr (7, [.ref h2, .ref h5, .ref h6, .int z81, .int x13, .int x14])), (h5, .inl (gI g, 40, .inl f82)), (h6, .inl (gI g, 40, .inl f83))] (fun sz => c211_X10_isWord l g h0 h2 h4 h1 z103 z104 z105 x3 x4 z87 z88 z89 x11 f90 i_x4 i_x11 sz) gX10_takeLetters_X10_isWord rfl ⟨rfl, rfl⟩ 1 (by decide) ⟨Nat.le_of_ble_eq_true rfl, Nat.le_of_ble_eq_true rfl⟩ 4 rfl rfl [4, 5, 6] [0, 1, 2, 3] rfl rfl (by decide) (by decide) (by decide) rfl rfl (Nat.le_of_ble_eq_true rfl) ⟨Nat.le_of_ble_eq_true rfl, Nat.le_of_ble_eq_true rfl⟩ (fun r113 _ w114 => ?_)
                  refine r_ws [(h1, .inr (3, [.ref h2, .ref h3, .ref h7, .ref h8, .int x8, .int x9, .int x10])), (h3, .inr (7, [.ref h2, .ref h5, .ref h6, .int z81, .int x13, .int x14])), (h5, .inl (gI g, 40, .inl f82)), (h6, .inl (gI g, 40, .inl f83)), (h0, .inr (9, [.ref h1, .ref h2, .int z103, .int z104, .int z105, .int x3, .int x4, .int z87, .int z88, .int z89])), (h2, .inr (4, [.ref h4, .int x11])), (h4, .inl (gB g, 1500, .inl f90))] rfl ?_
                  have p115 : 0 ≤ (Int32.toInt r113) := w114.1
                  have p116 : (Int32.toInt r113) ≤ 1 := w114.2
                  refine r_if_eq 84 106 C dX10_takeLetters_84 (by decide) (fun c117 => ?_) (fun c117 => ?_)
                  · skip
                    have k118 : (Int32.toInt r113) = 0 := (fa_eq r113 0).mp c117
                    refine r_aload_n 106 3 C dX10_takeLetters_106 rfl ?_
                    refine r_callVi 107 C dX10_takeLetters_107 [] [(h0, .inr (9, [.ref h1, .ref h2, .int z103, .int z104, .int z105, .int x3, .int x4, .int z87, .int z88, .int z89])), (h1, .inr (3, [.ref h2, .ref h3, .ref h7, .ref h8, .int x8, .int x9, .int x10])), (h2, .inr (4, [.ref h4, .int x11])), (h3, .inr (7, [.ref h2, .ref h5, .ref h6, .int z81, .int x13, .int x14])), (h4, .inl (gB g, 1500, .inl f90)), (h5, .inl (gI g, 40, .inl f82)), (h6, .inl (gI g, 40, .inl f83))] [] (fun sz => c215_X10_takeLetter l g h0 h1 h2 h3 h4 h5 h6 z103 z104 z105 x3 x4 z87 z88 z89 h7 h8 x8 x9 x10 x11 z81 x13 x14 f90 f82 f83 i_x4 i_x11 sz) gX10_takeLetters_X10_takeLetter rfl ⟨rfl, rfl⟩ 0 (by decide) ⟨Nat.le_of_ble_eq_true rfl, Nat.le_of_ble_eq_true rfl⟩ 4 rfl rfl [4, 0, 5, 1, 6, 2, 3] [] rfl rfl (by decide) (by decide) (by decide) rfl rfl (Nat.le_of_ble_eq_true rfl) ⟨Nat.le_of_ble_eq_true rfl, Nat.le_of_ble_eq_true rfl⟩ (fun r129 u131 w130 => ?_)
                    obtain ⟨z119, z120, z121, z122, z123, z124, z125, f126, f127, f128⟩ := u131
                    refine r_ws [(h0, .inr (9, [.ref h1, .ref h2, .int z119, .int z120, .int z121, .int x3, .int x4, .int z122, .int z123, .int z124])), (h1, .inr (3, [.ref h2, .ref h3, .ref h7, .ref h8, .int x8, .int x9, .int x10])), (h2, .inr (4, [.ref h4, .int x11])), (h3, .inr (7, [.ref h2, .ref h5, .ref h6, .int z125, .int x13, .int x14])), (h4, .inl (gB g, 1500, .inl f126)), (h5, .inl (gI g, 40, .inl f127)), (h6, .inl (gI g, 40, .inl f128))] rfl ?_
                    have gz119 := fb_rng z119
                    have gz120 := fb_rng z120
                    have gz121 := fb_rng z121
                    have gz122 := fb_rng z122
                    have gz123 := fb_rng z123
                    have gz124 := fb_rng z124
                    have gz125 := fb_rng z125
                    have p132 : 0 ≤ (Int32.toInt r129) := w130.1
                    have p133 : (Int32.toInt r129) ≤ 2 := w130.2
                    refine r_istore_n 110 C dX10_takeLetters_110 [(1, .int r129), (3, .int z79), (2, .int x11), (0, .ref h0)] (by decide) rfl ?_
                    obtain ⟨z134, ez134⟩ : ∃ z_9, z79 + Int32.ofInt 1 = z_9 := ⟨_, rfl⟩
                    have tz134 : (Int32.toInt z134) = (Int32.toInt z79) + 1 := by rw [← ez134]; exact fb_addIv (a := 0) (b := 1501) (c := 1) (d := 1) ⟨i95a, i95b⟩ ⟨by decide, by decide⟩ (by decide) (by decide)
                    refine r_iinc 111 1 z134 C dX10_takeLetters_111 rfl ez134 [(3, .int z134), (1, .int r129), (2, .int x11), (0, .ref h0)] (by decide) rfl ?_
                    refine r_goto 114 60 C dX10_takeLetters_114 (by decide) ?_
                    refine r_lv [(3, .int z134), (2, .int x11), (1, .int r129), (0, .ref h0)] [0, 2, 1, 3] rfl ?_
                    refine r_pick [(h1, .inr (3, [.ref h2, .ref h3, .ref h7, .ref h8, .int x8, .int x9, .int x10])), (h3, .inr (7, [.ref h2, .ref h5, .ref h6, .int z125, .int x13, .int x14])), (h5, .inl (gI g, 40, .inl f127)), (h6, .inl (gI g, 40, .inl f128)), (h0, .inr (9, [.ref h1, .ref h2, .int z119, .int z120, .int z121, .int x3, .int x4, .int z122, .int z123, .int z124])), (h4, .inl (gB g, 1500, .inl f126)), (h2, .inr (4, [.ref h4, .int x11]))] [1, 3, 5, 6, 0, 4, 2] (by decide) rfl ?_
                    exact ih93 z134 r129 z125 f127 f128 z119 z120 z121 z122 z123 z124 f126 ⟨by omega, by omega⟩ ⟨p132, p133⟩ (by omega)
                  · skip
                    have k135 : ¬ ((Int32.toInt r113) = 0) := fun h_9 => c117 ((fa_eq r113 0).mpr h_9)
                    refine r_aload_n 87 3 C dX10_takeLetters_87 rfl ?_
                    refine r_get 88 C dX10_takeLetters_88 (k := 0) 4 rfl rfl hiX10 (by decide) rfl (mg 2 rfl) (Or.inl rfl) rfl ?_
                    refine r_getN 91 C dX10_takeLetters_91 (k := 1) 0 rfl rfl hiX3 (by decide) rfl (mg 23 rfl) rfl rfl ?_
                    refine r_callVi 94 C dX10_takeLetters_94 [] [(h3, .inr (7, [.ref h2, .ref h5, .ref h6, .int z81, .int x13, .int x14]))] [(h1, .inr (3, [.ref h2, .ref h3, .ref h7, .ref h8, .int x8, .int x9, .int x10])), (h5, .inl (gI g, 40, .inl f82)), (h6, .inl (gI g, 40, .inl f83)), (h0, .inr (9, [.ref h1, .ref h2, .int z103, .int z104, .int z105, .int x3, .int x4, .int z87, .int z88, .int z89])), (h2, .inr (4, [.ref h4, .int x11])), (h4, .inl (gB g, 1500, .inl f90))] (fun sz => c6_X8_size l g h3 h2 h5 h6 z81 x13 x14  sz) gX10_takeLetters_X8_size rfl ⟨rfl, rfl⟩ 0 (by decide) ⟨Nat.le_of_ble_eq_true rfl, Nat.le_of_ble_eq_true rfl⟩ 1 rfl rfl [1] [0, 2, 3, 4, 5, 6] rfl rfl (by decide) (by decide) (by decide) rfl rfl (Nat.le_of_ble_eq_true rfl) ⟨Nat.le_of_ble_eq_true rfl, Nat.le_of_ble_eq_true rfl⟩ (fun r136 _ w137 => ?_)
                    refine r_ws [(h1, .inr (3, [.ref h2, .ref h3, .ref h7, .ref h8, .int x8, .int x9, .int x10])), (h5, .inl (gI g, 40, .inl f82)), (h6, .inl (gI g, 40, .inl f83)), (h0, .inr (9, [.ref h1, .ref h2, .int z103, .int z104, .int z105, .int x3, .int x4, .int z87, .int z88, .int z89])), (h2, .inr (4, [.ref h4, .int x11])), (h4, .inl (gB g, 1500, .inl f90)), (h3, .inr (7, [.ref h2, .ref h5, .ref h6, .int z81, .int x13, .int x14]))] rfl ?_
                    have p138 : z81 = r136 := (w137).symm
                    subst p138
                    refine r_if_ne 97 104 C dX10_takeLetters_97 (by decide) (fun c139 => ?_) (fun c139 => ?_)
                    · skip
                      have k140 : ¬ ((Int32.toInt z81) = 0) := fun h_9 => c139 ((fa_eq z81 0).mpr h_9)
                      refine r_iconst 104 0 C dX10_takeLetters_104 (by decide) ?_
                      exact r_iret 105 Rt dX10_takeLetters_105 (z103, z104, z105, z87, z88, z89, z81, f90, f82, f83) (show 0 ≤ (Int32.toInt 0) ∧ (Int32.toInt 0) ≤ 3 from ⟨(by ((repeat' apply And.intro) <;> first | trivial | rfl | assumption | omega | decide | exact Or.inl rfl | exact Or.inr (Or.inl rfl) | exact Or.inr (Or.inr rfl))), (by ((repeat' apply And.intro) <;> first | trivial | rfl | assumption | omega | decide | exact Or.inl rfl | exact Or.inr (Or.inl rfl) | exact Or.inr (Or.inr rfl)))⟩) [3, 0, 4, 6, 5, 1, 2] (by decide) rfl (Nat.le_of_ble_eq_true rfl) (Nat.le_of_ble_eq_true rfl)
                    · skip
                      have k141 : (Int32.toInt z81) = 0 := (fa_eq z81 0).mp c139
                      refine r_iconst 100 3 C dX10_takeLetters_100 (by decide) ?_
                      refine r_goto 101 105 C dX10_takeLetters_101 (by decide) ?_
                      exact r_iret 105 Rt dX10_takeLetters_105 (z103, z104, z105, z87, z88, z89, z81, f90, f82, f83) (show 0 ≤ (Int32.toInt 3) ∧ (Int32.toInt 3) ≤ 3 from ⟨(by ((repeat' apply And.intro) <;> first | trivial | rfl | assumption | omega | decide | exact Or.inl rfl | exact Or.inr (Or.inl rfl) | exact Or.inr (Or.inr rfl))), (by ((repeat' apply And.intro) <;> first | trivial | rfl | assumption | omega | decide | exact Or.inl rfl | exact Or.inr (Or.inl rfl) | exact Or.inr (Or.inr rfl)))⟩) [3, 0, 4, 6, 5, 1, 2] (by decide) rfl (Nat.le_of_ble_eq_true rfl) (Nat.le_of_ble_eq_true rfl)
                · skip
                  have k142 : (Int32.toInt r106) = 0 := (fa_eq r106 0).mp c111
                  refine r_iconst 76 1 C dX10_takeLetters_76 (by decide) ?_
                  exact r_iret 77 Rt dX10_takeLetters_77 (z103, z104, z105, z87, z88, z89, z81, f90, f82, f83) (show 0 ≤ (Int32.toInt 1) ∧ (Int32.toInt 1) ≤ 3 from ⟨(by ((repeat' apply And.intro) <;> first | trivial | rfl | assumption | omega | decide | exact Or.inl rfl | exact Or.inr (Or.inl rfl) | exact Or.inr (Or.inr rfl))), (by ((repeat' apply And.intro) <;> first | trivial | rfl | assumption | omega | decide | exact Or.inl rfl | exact Or.inr (Or.inl rfl) | exact Or.inr (Or.inr rfl)))⟩) [4, 0, 5, 1, 6, 2, 3] (by decide) rfl (Nat.le_of_ble_eq_true rfl) (Nat.le_of_ble_eq_true rfl)
        exact lp92 _ 0 r71 x12 fn1 fn2 z68 z69 z70 z4 x6 x7 fn0 (by decide) ⟨p74, p75⟩ (Nat.lt_succ_self _)
