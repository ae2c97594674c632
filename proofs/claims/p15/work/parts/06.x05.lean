set_option maxHeartbeats 4000000 in
set_option maxRecDepth 100000 in
theorem c112_X10_behindEexec (l : Launch) (g : GD) (h0 : Nat) (h1 : Nat) (x0 : Int32) (fn0 : Nat → Int32) (i_x0 : (0 ≤ (Int32.toInt x0) ∧ (Int32.toInt x0) ≤ 1500)) (sz : Nat) : Met l yX10_behindEexec wsX10_behindEexec ({ frames := 5, cells := 0, slots := 0, locals := 108 }) (va_Pc [.ref h0] (PW g [(h0, .inr (4, [.ref h1, .int x0])), (h1, .inl (gB g, 1500, .inl fn0))] sz)) (va_Qi (fun (r : Int32) (_ : Unit) => -1 ≤ (Int32.toInt r) ∧ (Int32.toInt r) ≤ 1500) (BW g (va_A [(h0, .inr (4, [.ref h1, .int x0])), (h1, .inl (gB g, 1500, .inl fn0))] sz) (fun _ : Unit => [(h0, .inr (4, [.ref h1, .int x0])), (h1, .inl (gB g, 1500, .inl fn0))])) (va_A [(h0, .inr (4, [.ref h1, .int x0])), (h1, .inl (gB g, 1500, .inl fn0))] sz)) 0 0 (va_A [(h0, .inr (4, [.ref h1, .int x0])), (h1, .inl (gB g, 1500, .inl fn0))] sz) := by
  refine met_i RX10 (by decide) rfl rfl (Nat.le_of_ble_eq_true rfl) [(0, .ref h0)] rfl ?_
  intro p e s m args below meth c A Q C hnm Rt
  refine r_ldcS 0 0 C rfl (by decide) rfl dX10_behindEexec_0 ?_
  refine r_astore_n 2 C dX10_behindEexec_2 [(1, .ref (g.2.2.1 0)), (0, .ref h0)] (by decide) rfl ?_
  refine r_aload_n 3 0 C dX10_behindEexec_3 rfl ?_
  refine r_scallVi 4 C dX10_behindEexec_4 [] 0 (by decide) [] [(h0, .inr (4, [.ref h1, .int x0])), (h1, .inl (gB g, 1500, .inl fn0))] (fun sz => c103_J0_length_8abf5 l g   sz) gX10_behindEexec_J0_length_8abf5 rfl ⟨rfl, rfl⟩ 0 (by decide) ⟨Nat.le_of_ble_eq_true rfl, Nat.le_of_ble_eq_true rfl⟩ [] [0, 1] rfl rfl (by decide) (by decide) (by decide) rfl rfl (Nat.le_of_ble_eq_true rfl) ⟨Nat.le_of_ble_eq_true rfl, Nat.le_of_ble_eq_true rfl⟩ (fun r1 _ w2 => ?_)
  refine r_ws [(h0, .inr (4, [.ref h1, .int x0])), (h1, .inl (gB g, 1500, .inl fn0))] rfl ?_
  have p3 : 5 = r1 := (w2).symm
  subst p3
  refine r_istore_n 7 C dX10_behindEexec_7 [(2, .int 5), (1, .ref (g.2.2.1 0)), (0, .ref h0)] (by decide) rfl ?_
  refine r_iconst 8 0 C dX10_behindEexec_8 (by decide) ?_
  refine r_istore_n 9 C dX10_behindEexec_9 [(3, .int 0), (2, .int 5), (1, .ref (g.2.2.1 0)), (0, .ref h0)] (by decide) rfl ?_
  have lp6 : ∀ (n5 : Nat) (z4 : Int32), (0 ≤ (Int32.toInt z4) ∧ (Int32.toInt z4) ≤ 1495) → Int.toNat (1495 - (Int32.toInt z4)) < n5 → WW p l e ({ frames := 5, cells := 0, slots := 0, locals := 108 } : Room) s m args below meth c A Q g 4 0 0 [(h0, .inr (4, [.ref h1, .int x0])), (h1, .inl (gB g, 1500, .inl fn0))] 10 [(3, .int z4), (2, .int 5), (1, .ref (g.2.2.1 0)), (0, .ref h0)] [] := by
    intro n5
    induction n5 with
    | zero => intro z4 i9 hm8; exact absurd hm8 (Nat.not_lt_zero _)
    | succ n5 ih7 =>
      intro z4 i9 hm8
      obtain ⟨i9a, i9b⟩ := i9
      refine r_iload_n 10 0 C dX10_behindEexec_10 rfl ?_
      refine r_iload_n 11 1 C dX10_behindEexec_11 rfl ?_
      obtain ⟨z10, ez10⟩ : ∃ z_9, z4 + 5 = z_9 := ⟨_, rfl⟩
      have tz10 : (Int32.toInt z10) = (Int32.toInt z4) + 5 := by rw [← ez10]; exact fb_addIv (a := 0) (b := 1495) (c := 5) (d := 5) ⟨i9a, i9b⟩ ⟨by decide, by decide⟩ (by decide) (by decide)
      refine r_iadd 12 z10 C dX10_behindEexec_12 ez10 ?_
      refine r_aload_n 13 3 C dX10_behindEexec_13 rfl ?_
      refine r_callVi 14 C dX10_behindEexec_14 [.int z10] [(h0, .inr (4, [.ref h1, .int x0]))] [(h1, .inl (gB g, 1500, .inl fn0))] (fun sz => c0_X5_size l g h0 h1 x0 i_x0 sz) gX10_behindEexec_X5_size rfl ⟨rfl, rfl⟩ 0 (by decide) ⟨Nat.le_of_ble_eq_true rfl, Nat.le_of_ble_eq_true rfl⟩ 0 rfl rfl [0] [1] rfl rfl (by decide) (by decide) (by decide) rfl rfl (Nat.le_of_ble_eq_true rfl) ⟨Nat.le_of_ble_eq_true rfl, Nat.le_of_ble_eq_true rfl⟩ (fun r11 _ w12 => ?_)
      refine r_ws [(h1, .inl (gB g, 1500, .inl fn0)), (h0, .inr (4, [.ref h1, .int x0]))] rfl ?_
      have p13 : x0 = r11 := (w12).symm
      subst p13
      refine r_icmp_ge 17 55 C dX10_behindEexec_17 (by decide) (fun c14 => ?_) (fun c14 => ?_)
      · skip
        have k15 : (Int32.toInt x0) ≤ (Int32.toInt z10) := (fa_le x0 z10).mp c14
        refine r_iconst 55 (-1) C dX10_behindEexec_55 (by decide) ?_
        exact r_iret 56 Rt dX10_behindEexec_56 () (show -1 ≤ (Int32.toInt (-1)) ∧ (Int32.toInt (-1)) ≤ 1500 from ⟨(by ((repeat' apply And.intro) <;> first | trivial | rfl | assumption | omega | decide | exact Or.inl rfl | exact Or.inr (Or.inl rfl) | exact Or.inr (Or.inr rfl))), (by ((repeat' apply And.intro) <;> first | trivial | rfl | assumption | omega | decide | exact Or.inl rfl | exact Or.inr (Or.inl rfl) | exact Or.inr (Or.inr rfl)))⟩) [1, 0] (by decide) rfl (Nat.le_of_ble_eq_true rfl) (Nat.le_of_ble_eq_true rfl)
      · skip
        have k16 : ¬ ((Int32.toInt x0) ≤ (Int32.toInt z10)) := fun h_9 => c14 ((fa_le x0 z10).mpr h_9)
        refine r_aload_n 20 3 C dX10_behindEexec_20 rfl ?_
        refine r_iload_n 21 0 C dX10_behindEexec_21 rfl ?_
        refine r_aload_n 22 2 C dX10_behindEexec_22 rfl ?_
        refine r_callSi 23 C dX10_behindEexec_23 [] [(h0, .inr (4, [.ref h1, .int x0])), (h1, .inl (gB g, 1500, .inl fn0))] [] (fun sz => c110_X10_isAt l g h0 h1 z4 x0 fn0 i_x0 sz) gX10_behindEexec_X10_isAt rfl ⟨rfl, rfl⟩ 3 (by decide) ⟨Nat.le_of_ble_eq_true rfl, Nat.le_of_ble_eq_true rfl⟩ [1, 0] [] rfl rfl (by decide) (by decide) (by decide) rfl rfl (Nat.le_of_ble_eq_true rfl) ⟨Nat.le_of_ble_eq_true rfl, Nat.le_of_ble_eq_true rfl⟩ (fun r17 _ w18 => ?_)
        refine r_ws [(h0, .inr (4, [.ref h1, .int x0])), (h1, .inl (gB g, 1500, .inl fn0))] rfl ?_
        have p19 : 0 ≤ (Int32.toInt r17) := w18.1
        have p20 : (Int32.toInt r17) ≤ 1 := w18.2
        refine r_if_eq 26 49 C dX10_behindEexec_26 (by decide) (fun c21 => ?_) (fun c21 => ?_)
        · skip
          have k22 : (Int32.toInt r17) = 0 := (fa_eq r17 0).mp c21
          obtain ⟨z23, ez23⟩ : ∃ z_9, z4 + Int32.ofInt 1 = z_9 := ⟨_, rfl⟩
          have tz23 : (Int32.toInt z23) = (Int32.toInt z4) + 1 := by rw [← ez23]; exact fb_addIv (a := 0) (b := 1495) (c := 1) (d := 1) ⟨i9a, i9b⟩ ⟨by decide, by decide⟩ (by decide) (by decide)
          refine r_iinc 49 0 z23 C dX10_behindEexec_49 rfl ez23 [(3, .int z23), (2, .int 5), (1, .ref (g.2.2.1 0)), (0, .ref h0)] (by decide) rfl ?_
          refine r_goto 52 10 C dX10_behindEexec_52 (by decide) ?_
          exact ih7 z23 ⟨by omega, by omega⟩ (by omega)
        · skip
          have k24 : ¬ ((Int32.toInt r17) = 0) := fun h_9 => c21 ((fa_eq r17 0).mpr h_9)
          refine r_aload_n 29 3 C dX10_behindEexec_29 rfl ?_
          refine r_iload_n 30 0 C dX10_behindEexec_30 rfl ?_
          refine r_iload_n 31 1 C dX10_behindEexec_31 rfl ?_
          obtain ⟨z25, ez25⟩ : ∃ z_9, z4 + 5 = z_9 := ⟨_, rfl⟩
          have tz25 : (Int32.toInt z25) = (Int32.toInt z4) + 5 := by rw [← ez25]; exact fb_addIv (a := 0) (b := 1495) (c := 5) (d := 5) ⟨i9a, i9b⟩ ⟨by decide, by decide⟩ (by decide) (by decide)
          refine r_iadd 32 z25 C dX10_behindEexec_32 ez25 ?_
          obtain ⟨z26, ez26⟩ : ∃ z_9, Int32.toInt64 z25 = z_9 := ⟨_, rfl⟩
          have tz26 : (Int64.toInt z26) = (Int32.toInt z25) := by rw [← ez26]; exact Int32.toInt_toInt64 _
          refine r_i2l 33 z26 C dX10_behindEexec_33 ez26 ?_
          refine r_callVi 34 C dX10_behindEexec_34 [] [(h0, .inr (4, [.ref h1, .int x0])), (h1, .inl (gB g, 1500, .inl fn0))] [] (fun sz => c14_X5_get l g h0 h1 z26 x0 fn0 i_x0 sz) gX10_behindEexec_X5_get rfl ⟨rfl, rfl⟩ 1 (by decide) ⟨Nat.le_of_ble_eq_true rfl, Nat.le_of_ble_eq_true rfl⟩ 0 rfl rfl [0, 1] [] rfl rfl (by decide) (by decide) (by decide) rfl rfl (Nat.le_of_ble_eq_true rfl) ⟨Nat.le_of_ble_eq_true rfl, Nat.le_of_ble_eq_true rfl⟩ (fun r27 _ w28 => ?_)
          refine r_ws [(h0, .inr (4, [.ref h1, .int x0])), (h1, .inl (gB g, 1500, .inl fn0))] rfl ?_
          have p29 : -1 ≤ (Int32.toInt r27) := w28.1
          have p30 : (Int32.toInt r27) ≤ 255 := w28.2
          refine r_callSNi 37 C dX10_behindEexec_37 [] [] [(h0, .inr (4, [.ref h1, .int x0])), (h1, .inl (gB g, 1500, .inl fn0))] (fun sz => c111_X11_isBlank l g r27  sz) gX10_behindEexec_X11_isBlank_n80 rfl ⟨rfl, rfl⟩ 1 (by decide) ⟨Nat.le_of_ble_eq_true rfl, Nat.le_of_ble_eq_true rfl⟩ (mg 31 rfl) (mg 66 rfl) (mg 65 rfl) [] [0, 1] rfl rfl (by decide) (by decide) (by decide) rfl rfl (Nat.le_of_ble_eq_true rfl) ⟨Nat.le_of_ble_eq_true rfl, Nat.le_of_ble_eq_true rfl⟩ (fun r31 _ w32 => ?_)
          refine r_ws [(h0, .inr (4, [.ref h1, .int x0])), (h1, .inl (gB g, 1500, .inl fn0))] rfl ?_
          have p33 : 0 ≤ (Int32.toInt r31) := w32.1
          have p34 : (Int32.toInt r31) ≤ 1 := w32.2
          refine r_if_eq 40 49 C dX10_behindEexec_40 (by decide) (fun c35 => ?_) (fun c35 => ?_)
          · skip
            have k36 : (Int32.toInt r31) = 0 := (fa_eq r31 0).mp c35
            obtain ⟨z37, ez37⟩ : ∃ z_9, z4 + Int32.ofInt 1 = z_9 := ⟨_, rfl⟩
            have tz37 : (Int32.toInt z37) = (Int32.toInt z4) + 1 := by rw [← ez37]; exact fb_addIv (a := 0) (b := 1495) (c := 1) (d := 1) ⟨i9a, i9b⟩ ⟨by decide, by decide⟩ (by decide) (by decide)
            refine r_iinc 49 0 z37 C dX10_behindEexec_49 rfl ez37 [(3, .int z37), (2, .int 5), (1, .ref (g.2.2.1 0)), (0, .ref h0)] (by decide) rfl ?_
            refine r_goto 52 10 C dX10_behindEexec_52 (by decide) ?_
            exact ih7 z37 ⟨by omega, by omega⟩ (by omega)
          · skip
            have k38 : ¬ ((Int32.toInt r31) = 0) := fun h_9 => c35 ((fa_eq r31 0).mpr h_9)
            refine r_iload_n 43 0 C dX10_behindEexec_43 rfl ?_
            refine r_iload_n 44 1 C dX10_behindEexec_44 rfl ?_
            obtain ⟨z39, ez39⟩ : ∃ z_9, z4 + 5 = z_9 := ⟨_, rfl⟩
            have tz39 : (Int32.toInt z39) = (Int32.toInt z4) + 5 := by rw [← ez39]; exact fb_addIv (a := 0) (b := 1495) (c := 5) (d := 5) ⟨i9a, i9b⟩ ⟨by decide, by decide⟩ (by decide) (by decide)
            refine r_iadd 45 z39 C dX10_behindEexec_45 ez39 ?_
            refine r_iconst 46 1 C dX10_behindEexec_46 (by decide) ?_
            obtain ⟨z40, ez40⟩ : ∃ z_9, z39 + 1 = z_9 := ⟨_, rfl⟩
            have tz40 : (Int32.toInt z40) = (Int32.toInt z39) + 1 := by rw [← ez40]; exact fb_addIv (a := 5) (b := 1500) (c := 1) (d := 1) (iv_add (a := 0) (b := 1495) (c := 5) (d := 5) ⟨i9a, i9b⟩ ⟨by decide, by decide⟩ tz39) ⟨by decide, by decide⟩ (by decide) (by decide)
            refine r_iadd 47 z40 C dX10_behindEexec_47 ez40 ?_
            exact r_iret 48 Rt dX10_behindEexec_48 () (show -1 ≤ (Int32.toInt z40) ∧ (Int32.toInt z40) ≤ 1500 from ⟨(by ((repeat' apply And.intro) <;> first | trivial | rfl | assumption | omega | decide | exact Or.inl rfl | exact Or.inr (Or.inl rfl) | exact Or.inr (Or.inr rfl))), (by ((repeat' apply And.intro) <;> first | trivial | rfl | assumption | omega | decide | exact Or.inl rfl | exact Or.inr (Or.inl rfl) | exact Or.inr (Or.inr rfl)))⟩) [0, 1] (by decide) rfl (Nat.le_of_ble_eq_true rfl) (Nat.le_of_ble_eq_true rfl)
  exact lp6 _ 0 (by decide) (Nat.lt_succ_self _)
set_option maxHeartbeats 4000000 in
set_option maxRecDepth 100000 in
theorem c113_X11_digitOf (l : Launch) (g : GD) (x0 : Int32) (sz : Nat) : Met l yX11_digitOf wsX11_digitOf ({ frames := 0, cells := 0, slots := 0, locals := 0 }) (va_Pc [.int x0] (PW g [] sz)) (va_Qi (fun (r : Int32) (_ : Unit) => -1 ≤ (Int32.toInt r) ∧ (Int32.toInt r) ≤ 15) (BW g (va_A [] sz) (fun _ : Unit => [])) (va_A [] sz)) 0 0 (va_A [] sz) := by
  refine met_i RX11 (by decide) rfl rfl (Nat.le_of_ble_eq_true rfl) [(0, .int x0)] rfl ?_
  intro p e s m args below meth c A Q C hnm Rt
  have gx0 := fb_rng x0
  refine r_iload_n 0 0 C dX11_digitOf_0 rfl ?_
  refine r_bipush 1 48 C dX11_digitOf_1 (by decide) ?_
  refine r_icmp_lt 3 17 C dX11_digitOf_3 (by decide) (fun c1 => ?_) (fun c1 => ?_)
  · skip
    have k2 : (Int32.toInt x0) < 48 := (fa_lt x0 48).mp c1
    refine r_iload_n 17 0 C dX11_digitOf_17 rfl ?_
    refine r_bipush 18 97 C dX11_digitOf_18 (by decide) ?_
    refine r_icmp_lt_t 20 37 C dX11_digitOf_20 (by decide) ((fa_lt x0 97).mpr (by show (Int32.toInt x0) < 97; omega)) ?_
    refine r_iload_n 37 0 C dX11_digitOf_37 rfl ?_
    refine r_bipush 38 65 C dX11_digitOf_38 (by decide) ?_
    refine r_icmp_lt_t 40 57 C dX11_digitOf_40 (by decide) ((fa_lt x0 65).mpr (by show (Int32.toInt x0) < 65; omega)) ?_
    refine r_iconst 57 (-1) C dX11_digitOf_57 (by decide) ?_
    exact r_iret 58 Rt dX11_digitOf_58 () (show -1 ≤ (Int32.toInt (-1)) ∧ (Int32.toInt (-1)) ≤ 15 from ⟨(by ((repeat' apply And.intro) <;> first | trivial | rfl | assumption | omega | decide | exact Or.inl rfl | exact Or.inr (Or.inl rfl) | exact Or.inr (Or.inr rfl))), (by ((repeat' apply And.intro) <;> first | trivial | rfl | assumption | omega | decide | exact Or.inl rfl | exact Or.inr (Or.inl rfl) | exact Or.inr (Or.inr rfl)))⟩) [] (by decide) rfl (Nat.le_of_ble_eq_true rfl) (Nat.le_of_ble_eq_true rfl)
  · skip
    have k3 : ¬ ((Int32.toInt x0) < 48) := fun h_9 => c1 ((fa_lt x0 48).mpr h_9)
    refine r_iload_n 6 0 C dX11_digitOf_6 rfl ?_
    refine r_bipush 7 57 C dX11_digitOf_7 (by decide) ?_
    refine r_icmp_gt 9 17 C dX11_digitOf_9 (by decide) (fun c4 => ?_) (fun c4 => ?_)
    · skip
      have k5 : 57 < (Int32.toInt x0) := (fa_lt 57 x0).mp c4
      refine r_iload_n 17 0 C dX11_digitOf_17 rfl ?_
      refine r_bipush 18 97 C dX11_digitOf_18 (by decide) ?_
      refine r_icmp_lt 20 37 C dX11_digitOf_20 (by decide) (fun c6 => ?_) (fun c6 => ?_)
      · skip
        have k7 : (Int32.toInt x0) < 97 := (fa_lt x0 97).mp c6
        refine r_iload_n 37 0 C dX11_digitOf_37 rfl ?_
        refine r_bipush 38 65 C dX11_digitOf_38 (by decide) ?_
        refine r_icmp_lt 40 57 C dX11_digitOf_40 (by decide) (fun c8 => ?_) (fun c8 => ?_)
        · skip
          have k9 : (Int32.toInt x0) < 65 := (fa_lt x0 65).mp c8
          refine r_iconst 57 (-1) C dX11_digitOf_57 (by decide) ?_
          exact r_iret 58 Rt dX11_digitOf_58 () (show -1 ≤ (Int32.toInt (-1)) ∧ (Int32.toInt (-1)) ≤ 15 from ⟨(by ((repeat' apply And.intro) <;> first | trivial | rfl | assumption | omega | decide | exact Or.inl rfl | exact Or.inr (Or.inl rfl) | exact Or.inr (Or.inr rfl))), (by ((repeat' apply And.intro) <;> first | trivial | rfl | assumption | omega | decide | exact Or.inl rfl | exact Or.inr (Or.inl rfl) | exact Or.inr (Or.inr rfl)))⟩) [] (by decide) rfl (Nat.le_of_ble_eq_true rfl) (Nat.le_of_ble_eq_true rfl)
        · skip
          have k10 : ¬ ((Int32.toInt x0) < 65) := fun h_9 => c8 ((fa_lt x0 65).mpr h_9)
          refine r_iload_n 43 0 C dX11_digitOf_43 rfl ?_
          refine r_bipush 44 70 C dX11_digitOf_44 (by decide) ?_
          refine r_icmp_gt 46 57 C dX11_digitOf_46 (by decide) (fun c11 => ?_) (fun c11 => ?_)
          · skip
            have k12 : 70 < (Int32.toInt x0) := (fa_lt 70 x0).mp c11
            refine r_iconst 57 (-1) C dX11_digitOf_57 (by decide) ?_
            exact r_iret 58 Rt dX11_digitOf_58 () (show -1 ≤ (Int32.toInt (-1)) ∧ (Int32.toInt (-1)) ≤ 15 from ⟨(by ((repeat' apply And.intro) <;> first | trivial | rfl | assumption | omega | decide | exact Or.inl rfl | exact Or.inr (Or.inl rfl) | exact Or.inr (Or.inr rfl))), (by ((repeat' apply And.intro) <;> first | trivial | rfl | assumption | omega | decide | exact Or.inl rfl | exact Or.inr (Or.inl rfl) | exact Or.inr (Or.inr rfl)))⟩) [] (by decide) rfl (Nat.le_of_ble_eq_true rfl) (Nat.le_of_ble_eq_true rfl)
          · skip
            have k13 : ¬ (70 < (Int32.toInt x0)) := fun h_9 => c11 ((fa_lt 70 x0).mpr h_9)
            refine r_iload_n 49 0 C dX11_digitOf_49 rfl ?_
            refine r_bipush 50 65 C dX11_digitOf_50 (by decide) ?_
            obtain ⟨z14, ez14⟩ : ∃ z_9, x0 - 65 = z_9 := ⟨_, rfl⟩
            have tz14 : (Int32.toInt z14) = (Int32.toInt x0) - 65 := by rw [← ez14]; exact fb_subI (by show -2147483648 ≤ (Int32.toInt x0) - 65; omega) (by show (Int32.toInt x0) - 65 < 2147483648; omega)
            refine r_isub 52 z14 C dX11_digitOf_52 ez14 ?_
            refine r_bipush 53 10 C dX11_digitOf_53 (by decide) ?_
            obtain ⟨z15, ez15⟩ : ∃ z_9, z14 + 10 = z_9 := ⟨_, rfl⟩
            have tz15 : (Int32.toInt z15) = (Int32.toInt z14) + 10 := by rw [← ez15]; exact fb_addI (by show -2147483648 ≤ (Int32.toInt z14) + 10; omega) (by show (Int32.toInt z14) + 10 < 2147483648; omega)
            refine r_iadd 55 z15 C dX11_digitOf_55 ez15 ?_
            exact r_iret 56 Rt dX11_digitOf_56 () (show -1 ≤ (Int32.toInt z15) ∧ (Int32.toInt z15) ≤ 15 from ⟨(by ((repeat' apply And.intro) <;> first | trivial | rfl | assumption | omega | decide | exact Or.inl rfl | exact Or.inr (Or.inl rfl) | exact Or.inr (Or.inr rfl))), (by ((repeat' apply And.intro) <;> first | trivial | rfl | assumption | omega | decide | exact Or.inl rfl | exact Or.inr (Or.inl rfl) | exact Or.inr (Or.inr rfl)))⟩) [] (by decide) rfl (Nat.le_of_ble_eq_true rfl) (Nat.le_of_ble_eq_true rfl)
      · skip
        have k16 : ¬ ((Int32.toInt x0) < 97) := fun h_9 => c6 ((fa_lt x0 97).mpr h_9)
        refine r_iload_n 23 0 C dX11_digitOf_23 rfl ?_
        refine r_bipush 24 102 C dX11_digitOf_24 (by decide) ?_
        refine r_icmp_gt 26 37 C dX11_digitOf_26 (by decide) (fun c17 => ?_) (fun c17 => ?_)
        · skip
          have k18 : 102 < (Int32.toInt x0) := (fa_lt 102 x0).mp c17
          refine r_iload_n 37 0 C dX11_digitOf_37 rfl ?_
          refine r_bipush 38 65 C dX11_digitOf_38 (by decide) ?_
          refine r_icmp_lt_f 40 57 C dX11_digitOf_40 (by decide) (fun h_9 => by have h_8 : (Int32.toInt x0) < 65 := (fa_lt x0 65).mp h_9; omega) ?_
          refine r_iload_n 43 0 C dX11_digitOf_43 rfl ?_
          refine r_bipush 44 70 C dX11_digitOf_44 (by decide) ?_
          refine r_icmp_gt_t 46 57 C dX11_digitOf_46 (by decide) ((fa_lt 70 x0).mpr (by show 70 < (Int32.toInt x0); omega)) ?_
          refine r_iconst 57 (-1) C dX11_digitOf_57 (by decide) ?_
          exact r_iret 58 Rt dX11_digitOf_58 () (show -1 ≤ (Int32.toInt (-1)) ∧ (Int32.toInt (-1)) ≤ 15 from ⟨(by ((repeat' apply And.intro) <;> first | trivial | rfl | assumption | omega | decide | exact Or.inl rfl | exact Or.inr (Or.inl rfl) | exact Or.inr (Or.inr rfl))), (by ((repeat' apply And.intro) <;> first | trivial | rfl | assumption | omega | decide | exact Or.inl rfl | exact Or.inr (Or.inl rfl) | exact Or.inr (Or.inr rfl)))⟩) [] (by decide) rfl (Nat.le_of_ble_eq_true rfl) (Nat.le_of_ble_eq_true rfl)
        · skip
          have k19 : ¬ (102 < (Int32.toInt x0)) := fun h_9 => c17 ((fa_lt 102 x0).mpr h_9)
          refine r_iload_n 29 0 C dX11_digitOf_29 rfl ?_
          refine r_bipush 30 97 C dX11_digitOf_30 (by decide) ?_
          obtain ⟨z20, ez20⟩ : ∃ z_9, x0 - 97 = z_9 := ⟨_, rfl⟩
          have tz20 : (Int32.toInt z20) = (Int32.toInt x0) - 97 := by rw [← ez20]; exact fb_subI (by show -2147483648 ≤ (Int32.toInt x0) - 97; omega) (by show (Int32.toInt x0) - 97 < 2147483648; omega)
          refine r_isub 32 z20 C dX11_digitOf_32 ez20 ?_
          refine r_bipush 33 10 C dX11_digitOf_33 (by decide) ?_
          obtain ⟨z21, ez21⟩ : ∃ z_9, z20 + 10 = z_9 := ⟨_, rfl⟩
          have tz21 : (Int32.toInt z21) = (Int32.toInt z20) + 10 := by rw [← ez21]; exact fb_addI (by show -2147483648 ≤ (Int32.toInt z20) + 10; omega) (by show (Int32.toInt z20) + 10 < 2147483648; omega)
          refine r_iadd 35 z21 C dX11_digitOf_35 ez21 ?_
          exact r_iret 36 Rt dX11_digitOf_36 () (show -1 ≤ (Int32.toInt z21) ∧ (Int32.toInt z21) ≤ 15 from ⟨(by ((repeat' apply And.intro) <;> first | trivial | rfl | assumption | omega | decide | exact Or.inl rfl | exact Or.inr (Or.inl rfl) | exact Or.inr (Or.inr rfl))), (by ((repeat' apply And.intro) <;> first | trivial | rfl | assumption | omega | decide | exact Or.inl rfl | exact Or.inr (Or.inl rfl) | exact Or.inr (Or.inr rfl)))⟩) [] (by decide) rfl (Nat.le_of_ble_eq_true rfl) (Nat.le_of_ble_eq_true rfl)
    · skip
      have k22 : ¬ (57 < (Int32.toInt x0)) := fun h_9 => c4 ((fa_lt 57 x0).mpr h_9)
      refine r_iload_n 12 0 C dX11_digitOf_12 rfl ?_
      refine r_bipush 13 48 C dX11_digitOf_13 (by decide) ?_
      obtain ⟨z23, ez23⟩ : ∃ z_9, x0 - 48 = z_9 := ⟨_, rfl⟩
      have tz23 : (Int32.toInt z23) = (Int32.toInt x0) - 48 := by rw [← ez23]; exact fb_subI (by show -2147483648 ≤ (Int32.toInt x0) - 48; omega) (by show (Int32.toInt x0) - 48 < 2147483648; omega)
      refine r_isub 15 z23 C dX11_digitOf_15 ez23 ?_
      exact r_iret 16 Rt dX11_digitOf_16 () (show -1 ≤ (Int32.toInt z23) ∧ (Int32.toInt z23) ≤ 15 from ⟨(by ((repeat' apply And.intro) <;> first | trivial | rfl | assumption | omega | decide | exact Or.inl rfl | exact Or.inr (Or.inl rfl) | exact Or.inr (Or.inr rfl))), (by ((repeat' apply And.intro) <;> first | trivial | rfl | assumption | omega | decide | exact Or.inl rfl | exact Or.inr (Or.inl rfl) | exact Or.inr (Or.inr rfl)))⟩) [] (by decide) rfl (Nat.le_of_ble_eq_true rfl) (Nat.le_of_ble_eq_true rfl)
set_option maxHeartbeats 4000000 in
set_option maxRecDepth 100000 in
theorem c114_X10_isToldByDigits (l : Launch) (g : GD) (h0 : Nat) (h1 : Nat) (h2 : Nat) (h3 : Nat) (x0 : Int32) (x1 : Int32) (x2 : Int32) (x3 : Int32) (x4 : Int32) (x5 : Int32) (x6 : Int32) (x7 : Int32) (x8 : Int32) (fn0 : Nat → Int32) (i_x4 : (0 ≤ (Int32.toInt x4) ∧ (Int32.toInt x4) ≤ 1)) (i_x8 : (0 ≤ (Int32.toInt x8) ∧ (Int32.toInt x8) ≤ 1500)) (sz : Nat) : Met l yX10_isToldByDigits wsX10_isToldByDigits ({ frames := 1, cells := 0, slots := 0, locals := 22 }) (va_Pc [.ref h0] (PW g [(h0, .inr (9, [.ref h3, .ref h1, .int x0, .int x1, .int x2, .int x3, .int x4, .int x5, .int x6, .int x7])), (h1, .inr (4, [.ref h2, .int x8])), (h2, .inl (gB g, 1500, .inl fn0))] sz)) (va_Qi (fun (r : Int32) (_ : Unit) => 0 ≤ (Int32.toInt r) ∧ (Int32.toInt r) ≤ 1) (BW g (va_A [(h0, .inr (9, [.ref h3, .ref h1, .int x0, .int x1, .int x2, .int x3, .int x4, .int x5, .int x6, .int x7])), (h1, .inr (4, [.ref h2, .int x8])), (h2, .inl (gB g, 1500, .inl fn0))] sz) (fun _ : Unit => [(h0, .inr (9, [.ref h3, .ref h1, .int x0, .int x1, .int x2, .int x3, .int x4, .int x5, .int x6, .int x7])), (h1, .inr (4, [.ref h2, .int x8])), (h2, .inl (gB g, 1500, .inl fn0))])) (va_A [(h0, .inr (9, [.ref h3, .ref h1, .int x0, .int x1, .int x2, .int x3, .int x4, .int x5, .int x6, .int x7])), (h1, .inr (4, [.ref h2, .int x8])), (h2, .inl (gB g, 1500, .inl fn0))] sz)) 0 0 (va_A [(h0, .inr (9, [.ref h3, .ref h1, .int x0, .int x1, .int x2, .int x3, .int x4, .int x5, .int x6, .int x7])), (h1, .inr (4, [.ref h2, .int x8])), (h2, .inl (gB g, 1500, .inl fn0))] sz) := by
  refine met_z RX10 (by decide) rfl rfl (Nat.le_of_ble_eq_true rfl) [(0, .ref h0)] rfl ?_
  intro p e s m args below meth c A Q C hnm Rt
  have hiX10 : ∀ w ∈ wsX100, w ∈ wsX10_isToldByDigits := fun w h => List.mem_cons_of_mem _ (List.mem_append_left _ (List.mem_append_right _ (h)))
  refine r_iconst 0 0 C dX10_isToldByDigits_0 (by decide) ?_
  refine r_istore_n 1 C dX10_isToldByDigits_1 [(1, .int 0), (0, .ref h0)] (by decide) rfl ?_
  have lp3 : ∀ (n2 : Nat) (z1 : Int32), (0 ≤ (Int32.toInt z1) ∧ (Int32.toInt z1) ≤ 4) → Int.toNat (4 - (Int32.toInt z1)) < n2 → WW p l e ({ frames := 1, cells := 0, slots := 0, locals := 22 } : Room) s m args below meth c A Q g 2 0 0 [(h0, .inr (9, [.ref h3, .ref h1, .int x0, .int x1, .int x2, .int x3, .int x4, .int x5, .int x6, .int x7])), (h1, .inr (4, [.ref h2, .int x8])), (h2, .inl (gB g, 1500, .inl fn0))] 2 [(1, .int z1), (0, .ref h0)] [] := by
    intro n2
    induction n2 with
    | zero => intro z1 i6 hm5; exact absurd hm5 (Nat.not_lt_zero _)
    | succ n2 ih4 =>
      intro z1 i6 hm5
      obtain ⟨i6a, i6b⟩ := i6
      refine r_iload_n 2 0 C dX10_isToldByDigits_2 rfl ?_
      refine r_iconst 3 4 C dX10_isToldByDigits_3 (by decide) ?_
      refine r_icmp_ge 4 31 C dX10_isToldByDigits_4 (by decide) (fun c7 => ?_) (fun c7 => ?_)
      · skip
        have k8 : 4 ≤ (Int32.toInt z1) := (fa_le 4 z1).mp c7
        refine r_iconst 31 1 C dX10_isToldByDigits_31 (by decide) ?_
        exact r_zret 32 Rt dX10_isToldByDigits_32 (by decide) () (show 0 ≤ (Int32.toInt 1) ∧ (Int32.toInt 1) ≤ 1 from ⟨(by ((repeat' apply And.intro) <;> first | trivial | rfl | assumption | omega | decide | exact Or.inl rfl | exact Or.inr (Or.inl rfl) | exact Or.inr (Or.inr rfl))), (by ((repeat' apply And.intro) <;> first | trivial | rfl | assumption | omega | decide | exact Or.inl rfl | exact Or.inr (Or.inl rfl) | exact Or.inr (Or.inr rfl)))⟩) [0, 1, 2] (by decide) rfl (Nat.le_of_ble_eq_true rfl) (Nat.le_of_ble_eq_true rfl)
      · skip
        have k9 : ¬ (4 ≤ (Int32.toInt z1)) := fun h_9 => c7 ((fa_le 4 z1).mpr h_9)
        refine r_aload_n 7 1 C dX10_isToldByDigits_7 rfl ?_
        refine r_get 8 C dX10_isToldByDigits_8 (k := 1) 0 rfl rfl hiX10 (by decide) rfl (mg 1 rfl) (Or.inl rfl) rfl ?_
        refine r_iload_n 11 0 C dX10_isToldByDigits_11 rfl ?_
        obtain ⟨z10, ez10⟩ : ∃ z_9, Int32.toInt64 z1 = z_9 := ⟨_, rfl⟩
        have tz10 : (Int64.toInt z10) = (Int32.toInt z1) := by rw [← ez10]; exact Int32.toInt_toInt64 _
        refine r_i2l 12 z10 C dX10_isToldByDigits_12 ez10 ?_
        refine r_callVi 13 C dX10_isToldByDigits_13 [] [(h1, .inr (4, [.ref h2, .int x8])), (h2, .inl (gB g, 1500, .inl fn0))] [(h0, .inr (9, [.ref h3, .ref h1, .int x0, .int x1, .int x2, .int x3, .int x4, .int x5, .int x6, .int x7]))] (fun sz => c14_X5_get l g h1 h2 z10 x8 fn0 i_x8 sz) gX10_isToldByDigits_X5_get rfl ⟨rfl, rfl⟩ 1 (by decide) ⟨Nat.le_of_ble_eq_true rfl, Nat.le_of_ble_eq_true rfl⟩ 1 rfl rfl [1, 2] [0] rfl rfl (by decide) (by decide) (by decide) rfl rfl (Nat.le_of_ble_eq_true rfl) ⟨Nat.le_of_ble_eq_true rfl, Nat.le_of_ble_eq_true rfl⟩ (fun r11 _ w12 => ?_)
        refine r_ws [(h0, .inr (9, [.ref h3, .ref h1, .int x0, .int x1, .int x2, .int x3, .int x4, .int x5, .int x6, .int x7])), (h1, .inr (4, [.ref h2, .int x8])), (h2, .inl (gB g, 1500, .inl fn0))] rfl ?_
        have p13 : -1 ≤ (Int32.toInt r11) := w12.1
        have p14 : (Int32.toInt r11) ≤ 255 := w12.2
        refine r_callSNi 16 C dX10_isToldByDigits_16 [] [] [(h0, .inr (9, [.ref h3, .ref h1, .int x0, .int x1, .int x2, .int x3, .int x4, .int x5, .int x6, .int x7])), (h1, .inr (4, [.ref h2, .int x8])), (h2, .inl (gB g, 1500, .inl fn0))] (fun sz => c113_X11_digitOf l g r11  sz) gX10_isToldByDigits_X11_digitOf_n88 rfl ⟨rfl, rfl⟩ 1 (by decide) ⟨Nat.le_of_ble_eq_true rfl, Nat.le_of_ble_eq_true rfl⟩ (mg 32 rfl) (mg 10 rfl) (mg 9 rfl) [] [0, 1, 2] rfl rfl (by decide) (by decide) (by decide) rfl rfl (Nat.le_of_ble_eq_true rfl) ⟨Nat.le_of_ble_eq_true rfl, Nat.le_of_ble_eq_true rfl⟩ (fun r15 _ w16 => ?_)
        refine r_ws [(h0, .inr (9, [.ref h3, .ref h1, .int x0, .int x1, .int x2, .int x3, .int x4, .int x5, .int x6, .int x7])), (h1, .inr (4, [.ref h2, .int x8])), (h2, .inl (gB g, 1500, .inl fn0))] rfl ?_
        have p17 : -1 ≤ (Int32.toInt r15) := w16.1
        have p18 : (Int32.toInt r15) ≤ 15 := w16.2
        refine r_iconst 19 (-1) C dX10_isToldByDigits_19 (by decide) ?_
        refine r_icmp_ne 20 25 C dX10_isToldByDigits_20 (by decide) (fun c19 => ?_) (fun c19 => ?_)
        · skip
          have k20 : ¬ ((Int32.toInt r15) = (-1)) := fun h_9 => c19 ((fa_eq r15 (-1)).mpr h_9)
          obtain ⟨z21, ez21⟩ : ∃ z_9, z1 + Int32.ofInt 1 = z_9 := ⟨_, rfl⟩
          have tz21 : (Int32.toInt z21) = (Int32.toInt z1) + 1 := by rw [← ez21]; exact fb_addIv (a := 0) (b := 4) (c := 1) (d := 1) ⟨i6a, i6b⟩ ⟨by decide, by decide⟩ (by decide) (by decide)
          refine r_iinc 25 0 z21 C dX10_isToldByDigits_25 rfl ez21 [(1, .int z21), (0, .ref h0)] (by decide) rfl ?_
          refine r_goto 28 2 C dX10_isToldByDigits_28 (by decide) ?_
          exact ih4 z21 ⟨by omega, by omega⟩ (by omega)
        · skip
          have k22 : (Int32.toInt r15) = (-1) := (fa_eq r15 (-1)).mp c19
          refine r_iconst 23 0 C dX10_isToldByDigits_23 (by decide) ?_
          exact r_zret 24 Rt dX10_isToldByDigits_24 (by decide) () (show 0 ≤ (Int32.toInt 0) ∧ (Int32.toInt 0) ≤ 1 from ⟨(by ((repeat' apply And.intro) <;> first | trivial | rfl | assumption | omega | decide | exact Or.inl rfl | exact Or.inr (Or.inl rfl) | exact Or.inr (Or.inr rfl))), (by ((repeat' apply And.intro) <;> first | trivial | rfl | assumption | omega | decide | exact Or.inl rfl | exact Or.inr (Or.inl rfl) | exact Or.inr (Or.inr rfl)))⟩) [0, 1, 2] (by decide) rfl (Nat.le_of_ble_eq_true rfl) (Nat.le_of_ble_eq_true rfl)
  exact lp3 _ 0 (by decide) (Nat.lt_succ_self _)
set_option maxHeartbeats 4000000 in
set_option maxRecDepth 100000 in
theorem c115_X10_takeWord (l : Launch) (g : GD) (h0 : Nat) (h1 : Nat) (h2 : Nat) (h3 : Nat) (x0 : Int32) (x1 : Int32) (x2 : Int32) (x3 : Int32) (x4 : Int32) (x5 : Int32) (x6 : Int32) (x7 : Int32) (x8 : Int32) (fn0 : Nat → Int32) (i_x4 : (0 ≤ (Int32.toInt x4) ∧ (Int32.toInt x4) ≤ 1)) (i_x8 : (0 ≤ (Int32.toInt x8) ∧ (Int32.toInt x8) ≤ 1500)) (sz : Nat) : Met l yX10_takeWord wsX10_takeWord ({ frames := 1, cells := 0, slots := 0, locals := 22 }) (va_Pc [.ref h0] (PW g [(h0, .inr (9, [.ref h3, .ref h1, .int x0, .int x1, .int x2, .int x3, .int x4, .int x5, .int x6, .int x7])), (h1, .inr (4, [.ref h2, .int x8])), (h2, .inl (gB g, 1500, .inl fn0))] sz)) (va_Qi (fun (r : Int32) (u : (Int32) × (Int32) × (Int32)) => 0 ≤ (Int32.toInt r) ∧ (Int32.toInt r) ≤ 1) (BW g (va_A [(h0, .inr (9, [.ref h3, .ref h1, .int x0, .int x1, .int x2, .int x3, .int x4, .int x5, .int x6, .int x7])), (h1, .inr (4, [.ref h2, .int x8])), (h2, .inl (gB g, 1500, .inl fn0))] sz) (fun u : (Int32) × (Int32) × (Int32) => [(h0, .inr (9, [.ref h3, .ref h1, .int u.1, .int u.2.1, .int u.2.2, .int x3, .int x4, .int x5, .int x6, .int x7])), (h1, .inr (4, [.ref h2, .int x8])), (h2, .inl (gB g, 1500, .inl fn0))])) (va_A [(h0, .inr (9, [.ref h3, .ref h1, .int x0, .int x1, .int x2, .int x3, .int x4, .int x5, .int x6, .int x7])), (h1, .inr (4, [.ref h2, .int x8])), (h2, .inl (gB g, 1500, .inl fn0))] sz)) 0 0 (va_A [(h0, .inr (9, [.ref h3, .ref h1, .int x0, .int x1, .int x2, .int x3, .int x4, .int x5, .int x6, .int x7])), (h1, .inr (4, [.ref h2, .int x8])), (h2, .inl (gB g, 1500, .inl fn0))] sz) := by
  refine met_z RX10 (by decide) rfl rfl (Nat.le_of_ble_eq_true rfl) [(0, .ref h0)] rfl ?_
  intro p e s m args below meth c A Q C hnm Rt
  have hiX10 : ∀ w ∈ wsX100, w ∈ wsX10_takeWord := fun w h => List.mem_cons_of_mem _ (List.mem_append_left _ (List.mem_append_right _ (h)))
  refine r_aload_n 0 0 C dX10_takeWord_0 rfl ?_
  refine r_get 1 C dX10_takeWord_1 (k := 1) 0 rfl rfl hiX10 (by decide) rfl (mg 1 rfl) (Or.inl rfl) rfl ?_
  refine r_callVi 4 C dX10_takeWord_4 [] [(h1, .inr (4, [.ref h2, .int x8]))] [(h0, .inr (9, [.ref h3, .ref h1, .int x0, .int x1, .int x2, .int x3, .int x4, .int x5, .int x6, .int x7])), (h2, .inl (gB g, 1500, .inl fn0))] (fun sz => c0_X5_size l g h1 h2 x8 i_x8 sz) gX10_takeWord_X5_size rfl ⟨rfl, rfl⟩ 0 (by decide) ⟨Nat.le_of_ble_eq_true rfl, Nat.le_of_ble_eq_true rfl⟩ 1 rfl rfl [1] [0, 2] rfl rfl (by decide) (by decide) (by decide) rfl rfl (Nat.le_of_ble_eq_true rfl) ⟨Nat.le_of_ble_eq_true rfl, Nat.le_of_ble_eq_true rfl⟩ (fun r1 _ w2 => ?_)
  refine r_ws [(h0, .inr (9, [.ref h3, .ref h1, .int x0, .int x1, .int x2, .int x3, .int x4, .int x5, .int x6, .int x7])), (h2, .inl (gB g, 1500, .inl fn0)), (h1, .inr (4, [.ref h2, .int x8]))] rfl ?_
  have p3 : x8 = r1 := (w2).symm
  subst p3
  refine r_istore_n 7 C dX10_takeWord_7 [(1, .int x8), (0, .ref h0)] (by decide) rfl ?_
  have lp6 : ∀ (n5 : Nat) (z4 : Int32), Int.toNat (2147483647 - (Int32.toInt z4)) < n5 → WW p l e ({ frames := 1, cells := 0, slots := 0, locals := 22 } : Room) s m args below meth c A Q g 2 0 0 [(h0, .inr (9, [.ref h3, .ref h1, .int z4, .int x1, .int x2, .int x3, .int x4, .int x5, .int x6, .int x7])), (h2, .inl (gB g, 1500, .inl fn0)), (h1, .inr (4, [.ref h2, .int x8]))] 8 [(1, .int x8), (0, .ref h0)] [] := by
    intro n5
    induction n5 with
    | zero => intro z4  hm8; exact absurd hm8 (Nat.not_lt_zero _)
    | succ n5 ih7 =>
      intro z4  hm8
      have gz4 := fb_rng z4
      refine r_aload_n 8 1 C dX10_takeWord_8 rfl ?_
      refine r_get 9 C dX10_takeWord_9 (k := 2) 0 rfl rfl hiX10 (by decide) rfl (mg 2 rfl) (Or.inl rfl) rfl ?_
      refine r_iload_n 12 0 C dX10_takeWord_12 rfl ?_
      refine r_icmp_ge 13 47 C dX10_takeWord_13 (by decide) (fun c9 => ?_) (fun c9 => ?_)
      · skip
        have k10 : (Int32.toInt x8) ≤ (Int32.toInt z4) := (fa_le x8 z4).mp c9
        refine r_aload_n 47 1 C dX10_takeWord_47 rfl ?_
        refine r_aload_n 48 1 C dX10_takeWord_48 rfl ?_
        refine r_get 49 C dX10_takeWord_49 (k := 2) 0 rfl rfl hiX10 (by decide) rfl (mg 2 rfl) (Or.inl rfl) rfl ?_
        refine r_put 52 C dX10_takeWord_52 (k := 3) 0 rfl rfl hiX10 tyX10 tyX10_ok nmX10 (by decide) rfl (mg 3 rfl) (Or.inl rfl) rfl rfl rfl rfl (Nat.le_of_ble_eq_true rfl) [(h0, .inr (9, [.ref h3, .ref h1, .int z4, .int z4, .int x2, .int x3, .int x4, .int x5, .int x6, .int x7])), (h2, .inl (gB g, 1500, .inl fn0)), (h1, .inr (4, [.ref h2, .int x8]))] rfl ?_
        have lp13 : ∀ (n12 : Nat) (z11 : Int32), (0 ≤ (Int32.toInt z11) ∧ (Int32.toInt z11) ≤ 2147483647) → Int.toNat (2147483647 - (Int32.toInt z11)) < n12 → WW p l e ({ frames := 1, cells := 0, slots := 0, locals := 22 } : Room) s m args below meth c A Q g 2 0 0 [(h0, .inr (9, [.ref h3, .ref h1, .int z11, .int z4, .int x2, .int x3, .int x4, .int x5, .int x6, .int x7])), (h2, .inl (gB g, 1500, .inl fn0)), (h1, .inr (4, [.ref h2, .int x8]))] 55 [(1, .int x8), (0, .ref h0)] [] := by
          intro n12
          induction n12 with
          | zero => intro z11 i16 hm15; exact absurd hm15 (Nat.not_lt_zero _)
          | succ n12 ih14 =>
            intro z11 i16 hm15
            obtain ⟨i16a, i16b⟩ := i16
            refine r_aload_n 55 1 C dX10_takeWord_55 rfl ?_
            refine r_get 56 C dX10_takeWord_56 (k := 2) 0 rfl rfl hiX10 (by decide) rfl (mg 2 rfl) (Or.inl rfl) rfl ?_
            refine r_iload_n 59 0 C dX10_takeWord_59 rfl ?_
            refine r_icmp_ge 60 94 C dX10_takeWord_60 (by decide) (fun c17 => ?_) (fun c17 => ?_)
            · skip
              have k18 : (Int32.toInt x8) ≤ (Int32.toInt z11) := (fa_le x8 z11).mp c17
              refine r_aload_n 94 1 C dX10_takeWord_94 rfl ?_
              refine r_aload_n 95 1 C dX10_takeWord_95 rfl ?_
              refine r_get 96 C dX10_takeWord_96 (k := 2) 0 rfl rfl hiX10 (by decide) rfl (mg 2 rfl) (Or.inl rfl) rfl ?_
              refine r_put 99 C dX10_takeWord_99 (k := 4) 0 rfl rfl hiX10 tyX10 tyX10_ok nmX10 (by decide) rfl (mg 4 rfl) (Or.inl rfl) rfl rfl rfl rfl (Nat.le_of_ble_eq_true rfl) [(h0, .inr (9, [.ref h3, .ref h1, .int z11, .int z4, .int z11, .int x3, .int x4, .int x5, .int x6, .int x7])), (h2, .inl (gB g, 1500, .inl fn0)), (h1, .inr (4, [.ref h2, .int x8]))] rfl ?_
              refine r_aload_n 102 1 C dX10_takeWord_102 rfl ?_
              refine r_get 103 C dX10_takeWord_103 (k := 4) 0 rfl rfl hiX10 (by decide) rfl (mg 4 rfl) (Or.inl rfl) rfl ?_
              refine r_aload_n 106 1 C dX10_takeWord_106 rfl ?_
              refine r_get 107 C dX10_takeWord_107 (k := 3) 0 rfl rfl hiX10 (by decide) rfl (mg 3 rfl) (Or.inl rfl) rfl ?_
              refine r_icmp_le 110 117 C dX10_takeWord_110 (by decide) (fun c19 => ?_) (fun c19 => ?_)
              · skip
                have k20 : (Int32.toInt z11) ≤ (Int32.toInt z4) := (fa_le z11 z4).mp c19
                refine r_iconst 117 0 C dX10_takeWord_117 (by decide) ?_
                exact r_zret 118 Rt dX10_takeWord_118 (by decide) (z11, z4, z11) (show 0 ≤ (Int32.toInt 0) ∧ (Int32.toInt 0) ≤ 1 from ⟨(by ((repeat' apply And.intro) <;> first | trivial | rfl | assumption | omega | decide | exact Or.inl rfl | exact Or.inr (Or.inl rfl) | exact Or.inr (Or.inr rfl))), (by ((repeat' apply And.intro) <;> first | trivial | rfl | assumption | omega | decide | exact Or.inl rfl | exact Or.inr (Or.inl rfl) | exact Or.inr (Or.inr rfl)))⟩) [0, 2, 1] (by decide) rfl (Nat.le_of_ble_eq_true rfl) (Nat.le_of_ble_eq_true rfl)
              · skip
                have k21 : ¬ ((Int32.toInt z11) ≤ (Int32.toInt z4)) := fun h_9 => c19 ((fa_le z11 z4).mpr h_9)
                refine r_iconst 113 1 C dX10_takeWord_113 (by decide) ?_
                refine r_goto 114 118 C dX10_takeWord_114 (by decide) ?_
                exact r_zret 118 Rt dX10_takeWord_118 (by decide) (z11, z4, z11) (show 0 ≤ (Int32.toInt 1) ∧ (Int32.toInt 1) ≤ 1 from ⟨(by ((repeat' apply And.intro) <;> first | trivial | rfl | assumption | omega | decide | exact Or.inl rfl | exact Or.inr (Or.inl rfl) | exact Or.inr (Or.inr rfl))), (by ((repeat' apply And.intro) <;> first | trivial | rfl | assumption | omega | decide | exact Or.inl rfl | exact Or.inr (Or.inl rfl) | exact Or.inr (Or.inr rfl)))⟩) [0, 2, 1] (by decide) rfl (Nat.le_of_ble_eq_true rfl) (Nat.le_of_ble_eq_true rfl)
            · skip
              have k22 : ¬ ((Int32.toInt x8) ≤ (Int32.toInt z11)) := fun h_9 => c17 ((fa_le x8 z11).mpr h_9)
              refine r_aload_n 63 1 C dX10_takeWord_63 rfl ?_
              refine r_get 64 C dX10_takeWord_64 (k := 1) 0 rfl rfl hiX10 (by decide) rfl (mg 1 rfl) (Or.inl rfl) rfl ?_
              refine r_aload_n 67 1 C dX10_takeWord_67 rfl ?_
              refine r_get 68 C dX10_takeWord_68 (k := 2) 0 rfl rfl hiX10 (by decide) rfl (mg 2 rfl) (Or.inl rfl) rfl ?_
              obtain ⟨z23, ez23⟩ : ∃ z_9, Int32.toInt64 z11 = z_9 := ⟨_, rfl⟩
              have tz23 : (Int64.toInt z23) = (Int32.toInt z11) := by rw [← ez23]; exact Int32.toInt_toInt64 _
              refine r_i2l 71 z23 C dX10_takeWord_71 ez23 ?_
              refine r_callVi 72 C dX10_takeWord_72 [] [(h1, .inr (4, [.ref h2, .int x8])), (h2, .inl (gB g, 1500, .inl fn0))] [(h0, .inr (9, [.ref h3, .ref h1, .int z11, .int z4, .int x2, .int x3, .int x4, .int x5, .int x6, .int x7]))] (fun sz => c14_X5_get l g h1 h2 z23 x8 fn0 i_x8 sz) gX10_takeWord_X5_get rfl ⟨rfl, rfl⟩ 1 (by decide) ⟨Nat.le_of_ble_eq_true rfl, Nat.le_of_ble_eq_true rfl⟩ 2 rfl rfl [2, 1] [0] rfl rfl (by decide) (by decide) (by decide) rfl rfl (Nat.le_of_ble_eq_true rfl) ⟨Nat.le_of_ble_eq_true rfl, Nat.le_of_ble_eq_true rfl⟩ (fun r24 _ w25 => ?_)
              refine r_ws [(h0, .inr (9, [.ref h3, .ref h1, .int z11, .int z4, .int x2, .int x3, .int x4, .int x5, .int x6, .int x7])), (h1, .inr (4, [.ref h2, .int x8])), (h2, .inl (gB g, 1500, .inl fn0))] rfl ?_
              have p26 : -1 ≤ (Int32.toInt r24) := w25.1
              have p27 : (Int32.toInt r24) ≤ 255 := w25.2
              refine r_callSNi 75 C dX10_takeWord_75 [] [] [(h0, .inr (9, [.ref h3, .ref h1, .int z11, .int z4, .int x2, .int x3, .int x4, .int x5, .int x6, .int x7])), (h1, .inr (4, [.ref h2, .int x8])), (h2, .inl (gB g, 1500, .inl fn0))] (fun sz => c111_X11_isBlank l g r24  sz) gX10_takeWord_X11_isBlank_n80 rfl ⟨rfl, rfl⟩ 1 (by decide) ⟨Nat.le_of_ble_eq_true rfl, Nat.le_of_ble_eq_true rfl⟩ (mg 31 rfl) (mg 17 rfl) (mg 16 rfl) [] [0, 1, 2] rfl rfl (by decide) (by decide) (by decide) rfl rfl (Nat.le_of_ble_eq_true rfl) ⟨Nat.le_of_ble_eq_true rfl, Nat.le_of_ble_eq_true rfl⟩ (fun r28 _ w29 => ?_)
              refine r_ws [(h0, .inr (9, [.ref h3, .ref h1, .int z11, .int z4, .int x2, .int x3, .int x4, .int x5, .int x6, .int x7])), (h1, .inr (4, [.ref h2, .int x8])), (h2, .inl (gB g, 1500, .inl fn0))] rfl ?_
              have p30 : 0 ≤ (Int32.toInt r28) := w29.1
              have p31 : (Int32.toInt r28) ≤ 1 := w29.2
              refine r_if_ne 78 94 C dX10_takeWord_78 (by decide) (fun c32 => ?_) (fun c32 => ?_)
              · skip
                have k33 : ¬ ((Int32.toInt r28) = 0) := fun h_9 => c32 ((fa_eq r28 0).mpr h_9)
                refine r_aload_n 94 1 C dX10_takeWord_94 rfl ?_
                refine r_aload_n 95 1 C dX10_takeWord_95 rfl ?_
                refine r_get 96 C dX10_takeWord_96 (k := 2) 0 rfl rfl hiX10 (by decide) rfl (mg 2 rfl) (Or.inl rfl) rfl ?_
                refine r_put 99 C dX10_takeWord_99 (k := 4) 0 rfl rfl hiX10 tyX10 tyX10_ok nmX10 (by decide) rfl (mg 4 rfl) (Or.inl rfl) rfl rfl rfl rfl (Nat.le_of_ble_eq_true rfl) [(h0, .inr (9, [.ref h3, .ref h1, .int z11, .int z4, .int z11, .int x3, .int x4, .int x5, .int x6, .int x7])), (h1, .inr (4, [.ref h2, .int x8])), (h2, .inl (gB g, 1500, .inl fn0))] rfl ?_
                refine r_aload_n 102 1 C dX10_takeWord_102 rfl ?_
                refine r_get 103 C dX10_takeWord_103 (k := 4) 0 rfl rfl hiX10 (by decide) rfl (mg 4 rfl) (Or.inl rfl) rfl ?_
                refine r_aload_n 106 1 C dX10_takeWord_106 rfl ?_
                refine r_get 107 C dX10_takeWord_107 (k := 3) 0 rfl rfl hiX10 (by decide) rfl (mg 3 rfl) (Or.inl rfl) rfl ?_
                refine r_icmp_le 110 117 C dX10_takeWord_110 (by decide) (fun c34 => ?_) (fun c34 => ?_)
                · skip
                  have k35 : (Int32.toInt z11) ≤ (Int32.toInt z4) := (fa_le z11 z4).mp c34
                  refine r_iconst 117 0 C dX10_takeWord_117 (by decide) ?_
                  exact r_zret 118 Rt dX10_takeWord_118 (by decide) (z11, z4, z11) (show 0 ≤ (Int32.toInt 0) ∧ (Int32.toInt 0) ≤ 1 from ⟨(by ((repeat' apply And.intro) <;> first | trivial | rfl | assumption | omega | decide | exact Or.inl rfl | exact Or.inr (Or.inl rfl) | exact Or.inr (Or.inr rfl))), (by ((repeat' apply And.intro) <;> first | trivial | rfl | assumption | omega | decide | exact Or.inl rfl | exact Or.inr (Or.inl rfl) | exact Or.inr (Or.inr rfl)))⟩) [0, 1, 2] (by decide) rfl (Nat.le_of_ble_eq_true rfl) (Nat.le_of_ble_eq_true rfl)
                · skip
                  have k36 : ¬ ((Int32.toInt z11) ≤ (Int32.toInt z4)) := fun h_9 => c34 ((fa_le z11 z4).mpr h_9)
                  refine r_iconst 113 1 C dX10_takeWord_113 (by decide) ?_
                  refine r_goto 114 118 C dX10_takeWord_114 (by decide) ?_
                  exact r_zret 118 Rt dX10_takeWord_118 (by decide) (z11, z4, z11) (show 0 ≤ (Int32.toInt 1) ∧ (Int32.toInt 1) ≤ 1 from ⟨(by ((repeat' apply And.intro) <;> first | trivial | rfl | assumption | omega | decide | exact Or.inl rfl | exact Or.inr (Or.inl rfl) | exact Or.inr (Or.inr rfl))), (by ((repeat' apply And.intro) <;> first | trivial | rfl | assumption | omega | decide | exact Or.inl rfl | exact Or.inr (Or.inl rfl) | exact Or.inr (Or.inr rfl)))⟩) [0, 1, 2] (by decide) rfl (Nat.le_of_ble_eq_true rfl) (Nat.le_of_ble_eq_true rfl)
              · skip
                have k37 : (Int32.toInt r28) = 0 := (fa_eq r28 0).mp c32
                refine r_aload_n 81 1 C dX10_takeWord_81 rfl ?_
                refine r_dup 82 C dX10_takeWord_82 rfl ?_
                refine r_get 83 C dX10_takeWord_83 (k := 2) 0 rfl rfl hiX10 (by decide) rfl (mg 2 rfl) (Or.inl rfl) rfl ?_
                refine r_iconst 86 1 C dX10_takeWord_86 (by decide) ?_
                obtain ⟨z38, ez38⟩ : ∃ z_9, z11 + 1 = z_9 := ⟨_, rfl⟩
                have tz38 : (Int32.toInt z38) = (Int32.toInt z11) + 1 := by rw [← ez38]; exact fb_addI (by show -2147483648 ≤ (Int32.toInt z11) + 1; omega) (by show (Int32.toInt z11) + 1 < 2147483648; omega)
                refine r_iadd 87 z38 C dX10_takeWord_87 ez38 ?_
                refine r_put 88 C dX10_takeWord_88 (k := 2) 0 rfl rfl hiX10 tyX10 tyX10_ok nmX10 (by decide) rfl (mg 2 rfl) (Or.inl rfl) rfl rfl rfl rfl (Nat.le_of_ble_eq_true rfl) [(h0, .inr (9, [.ref h3, .ref h1, .int z38, .int z4, .int x2, .int x3, .int x4, .int x5, .int x6, .int x7])), (h1, .inr (4, [.ref h2, .int x8])), (h2, .inl (gB g, 1500, .inl fn0))] rfl ?_
                refine r_goto 91 55 C dX10_takeWord_91 (by decide) ?_
                refine r_pick [(h0, .inr (9, [.ref h3, .ref h1, .int z38, .int z4, .int x2, .int x3, .int x4, .int x5, .int x6, .int x7])), (h2, .inl (gB g, 1500, .inl fn0)), (h1, .inr (4, [.ref h2, .int x8]))] [0, 2, 1] (by decide) rfl ?_
                exact ih14 z38 ⟨by omega, by omega⟩ (by omega)
        exact lp13 _ z4 ⟨by omega, by omega⟩ (Nat.lt_succ_self _)
      · skip
        have k39 : ¬ ((Int32.toInt x8) ≤ (Int32.toInt z4)) := fun h_9 => c9 ((fa_le x8 z4).mpr h_9)
        refine r_aload_n 16 1 C dX10_takeWord_16 rfl ?_
        refine r_get 17 C dX10_takeWord_17 (k := 1) 0 rfl rfl hiX10 (by decide) rfl (mg 1 rfl) (Or.inl rfl) rfl ?_
        refine r_aload_n 20 1 C dX10_takeWord_20 rfl ?_
        refine r_get 21 C dX10_takeWord_21 (k := 2) 0 rfl rfl hiX10 (by decide) rfl (mg 2 rfl) (Or.inl rfl) rfl ?_
        obtain ⟨z40, ez40⟩ : ∃ z_9, Int32.toInt64 z4 = z_9 := ⟨_, rfl⟩
        have tz40 : (Int64.toInt z40) = (Int32.toInt z4) := by rw [← ez40]; exact Int32.toInt_toInt64 _
        refine r_i2l 24 z40 C dX10_takeWord_24 ez40 ?_
        refine r_callVi 25 C dX10_takeWord_25 [] [(h1, .inr (4, [.ref h2, .int x8])), (h2, .inl (gB g, 1500, .inl fn0))] [(h0, .inr (9, [.ref h3, .ref h1, .int z4, .int x1, .int x2, .int x3, .int x4, .int x5, .int x6, .int x7]))] (fun sz => c14_X5_get l g h1 h2 z40 x8 fn0 i_x8 sz) gX10_takeWord_X5_get rfl ⟨rfl, rfl⟩ 1 (by decide) ⟨Nat.le_of_ble_eq_true rfl, Nat.le_of_ble_eq_true rfl⟩ 2 rfl rfl [2, 1] [0] rfl rfl (by decide) (by decide) (by decide) rfl rfl (Nat.le_of_ble_eq_true rfl) ⟨Nat.le_of_ble_eq_true rfl, Nat.le_of_ble_eq_true rfl⟩ (fun r41 _ w42 => ?_)
        refine r_ws [(h0, .inr (9, [.ref h3, .ref h1, .int z4, .int x1, .int x2, .int x3, .int x4, .int x5, .int x6, .int x7])), (h1, .inr (4, [.ref h2, .int x8])), (h2, .inl (gB g, 1500, .inl fn0))] rfl ?_
        have p43 : -1 ≤ (Int32.toInt r41) := w42.1
        have p44 : (Int32.toInt r41) ≤ 255 := w42.2
        refine r_callSNi 28 C dX10_takeWord_28 [] [] [(h0, .inr (9, [.ref h3, .ref h1, .int z4, .int x1, .int x2, .int x3, .int x4, .int x5, .int x6, .int x7])), (h1, .inr (4, [.ref h2, .int x8])), (h2, .inl (gB g, 1500, .inl fn0))] (fun sz => c111_X11_isBlank l g r41  sz) gX10_takeWord_X11_isBlank_n80 rfl ⟨rfl, rfl⟩ 1 (by decide) ⟨Nat.le_of_ble_eq_true rfl, Nat.le_of_ble_eq_true rfl⟩ (mg 31 rfl) (mg 17 rfl) (mg 16 rfl) [] [0, 1, 2] rfl rfl (by decide) (by decide) (by decide) rfl rfl (Nat.le_of_ble_eq_true rfl) ⟨Nat.le_of_ble_eq_true rfl, Nat.le_of_ble_eq_true rfl⟩ (fun r45 _ w46 => ?_)
        refine r_ws [(h0, .inr (9, [.ref h3, .ref h1, .int z4, .int x1, .int x2, .int x3, .int x4, .int x5, .int x6, .int x7])), (h1, .inr (4, [.ref h2, .int x8])), (h2, .inl (gB g, 1500, .inl fn0))] rfl ?_
        have p47 : 0 ≤ (Int32.toInt r45) := w46.1
        have p48 : (Int32.toInt r45) ≤ 1 := w46.2
        refine r_if_eq 31 47 C dX10_takeWord_31 (by decide) (fun c49 => ?_) (fun c49 => ?_)
        · skip
          have k50 : (Int32.toInt r45) = 0 := (fa_eq r45 0).mp c49
          refine r_aload_n 47 1 C dX10_takeWord_47 rfl ?_
          refine r_aload_n 48 1 C dX10_takeWord_48 rfl ?_
          refine r_get 49 C dX10_takeWord_49 (k := 2) 0 rfl rfl hiX10 (by decide) rfl (mg 2 rfl) (Or.inl rfl) rfl ?_
          refine r_put 52 C dX10_takeWord_52 (k := 3) 0 rfl rfl hiX10 tyX10 tyX10_ok nmX10 (by decide) rfl (mg 3 rfl) (Or.inl rfl) rfl rfl rfl rfl (Nat.le_of_ble_eq_true rfl) [(h0, .inr (9, [.ref h3, .ref h1, .int z4, .int z4, .int x2, .int x3, .int x4, .int x5, .int x6, .int x7])), (h1, .inr (4, [.ref h2, .int x8])), (h2, .inl (gB g, 1500, .inl fn0))] rfl ?_
          have lp53 : ∀ (n52 : Nat) (z51 : Int32), (-2147483648 ≤ (Int32.toInt z51) ∧ (Int32.toInt z51) ≤ 1510) → Int.toNat (1510 - (Int32.toInt z51)) < n52 → WW p l e ({ frames := 1, cells := 0, slots := 0, locals := 22 } : Room) s m args below meth c A Q g 2 0 0 [(h0, .inr (9, [.ref h3, .ref h1, .int z51, .int z4, .int x2, .int x3, .int x4, .int x5, .int x6, .int x7])), (h1, .inr (4, [.ref h2, .int x8])), (h2, .inl (gB g, 1500, .inl fn0))] 55 [(1, .int x8), (0, .ref h0)] [] := by
            intro n52
            induction n52 with
            | zero => intro z51 i56 hm55; exact absurd hm55 (Nat.not_lt_zero _)
            | succ n52 ih54 =>
              intro z51 i56 hm55
              obtain ⟨i56a, i56b⟩ := i56
              refine r_aload_n 55 1 C dX10_takeWord_55 rfl ?_
              refine r_get 56 C dX10_takeWord_56 (k := 2) 0 rfl rfl hiX10 (by decide) rfl (mg 2 rfl) (Or.inl rfl) rfl ?_
              refine r_iload_n 59 0 C dX10_takeWord_59 rfl ?_
              refine r_icmp_ge 60 94 C dX10_takeWord_60 (by decide) (fun c57 => ?_) (fun c57 => ?_)
              · skip
                have k58 : (Int32.toInt x8) ≤ (Int32.toInt z51) := (fa_le x8 z51).mp c57
                refine r_aload_n 94 1 C dX10_takeWord_94 rfl ?_
                refine r_aload_n 95 1 C dX10_takeWord_95 rfl ?_
                refine r_get 96 C dX10_takeWord_96 (k := 2) 0 rfl rfl hiX10 (by decide) rfl (mg 2 rfl) (Or.inl rfl) rfl ?_
                refine r_put 99 C dX10_takeWord_99 (k := 4) 0 rfl rfl hiX10 tyX10 tyX10_ok nmX10 (by decide) rfl (mg 4 rfl) (Or.inl rfl) rfl rfl rfl rfl (Nat.le_of_ble_eq_true rfl) [(h0, .inr (9, [.ref h3, .ref h1, .int z51, .int z4, .int z51, .int x3, .int x4, .int x5, .int x6, .int x7])), (h1, .inr (4, [.ref h2, .int x8])), (h2, .inl (gB g, 1500, .inl fn0))] rfl ?_
                refine r_aload_n 102 1 C dX10_takeWord_102 rfl ?_
                refine r_get 103 C dX10_takeWord_103 (k := 4) 0 rfl rfl hiX10 (by decide) rfl (mg 4 rfl) (Or.inl rfl) rfl ?_
                refine r_aload_n 106 1 C dX10_takeWord_106 rfl ?_
                refine r_get 107 C dX10_takeWord_107 (k := 3) 0 rfl rfl hiX10 (by decide) rfl (mg 3 rfl) (Or.inl rfl) rfl ?_
                refine r_icmp_le 110 117 C dX10_takeWord_110 (by decide) (fun c59 => ?_) (fun c59 => ?_)
                · skip
                  have k60 : (Int32.toInt z51) ≤ (Int32.toInt z4) := (fa_le z51 z4).mp c59
                  refine r_iconst 117 0 C dX10_takeWord_117 (by decide) ?_
                  exact r_zret 118 Rt dX10_takeWord_118 (by decide) (z51, z4, z51) (show 0 ≤ (Int32.toInt 0) ∧ (Int32.toInt 0) ≤ 1 from ⟨(by ((repeat' apply And.intro) <;> first | trivial | rfl | assumption | omega | decide | exact Or.inl rfl | exact Or.inr (Or.inl rfl) | exact Or.inr (Or.inr rfl))), (by ((repeat' apply And.intro) <;> first | trivial | rfl | assumption | omega | decide | exact Or.inl rfl | exact Or.inr (Or.inl rfl) | exact Or.inr (Or.inr rfl)))⟩) [0, 1, 2] (by decide) rfl (Nat.le_of_ble_eq_true rfl) (Nat.le_of_ble_eq_true rfl)
                · skip
                  have k61 : ¬ ((Int32.toInt z51) ≤ (Int32.toInt z4)) := fun h_9 => c59 ((fa_le z51 z4).mpr h_9)
                  refine r_iconst 113 1 C dX10_takeWord_113 (by decide) ?_
                  refine r_goto 114 118 C dX10_takeWord_114 (by decide) ?_
                  exact r_zret 118 Rt dX10_takeWord_118 (by decide) (z51, z4, z51) (show 0 ≤ (Int32.toInt 1) ∧ (Int32.toInt 1) ≤ 1 from ⟨(by ((repeat' apply And.intro) <;> first | trivial | rfl | assumption | omega | decide | exact Or.inl rfl | exact Or.inr (Or.inl rfl) | exact Or.inr (Or.inr rfl))), (by ((repeat' apply And.intro) <;> first | trivial | rfl | assumption | omega | decide | exact Or.inl rfl | exact Or.inr (Or.inl rfl) | exact Or.inr (Or.inr rfl)))⟩) [0, 1, 2] (by decide) rfl (Nat.le_of_ble_eq_true rfl) (Nat.le_of_ble_eq_true rfl)
              · skip
                have k62 : ¬ ((Int32.toInt x8) ≤ (Int32.toInt z51)) := fun h_9 => c57 ((fa_le x8 z51).mpr h_9)
                refine r_aload_n 63 1 C dX10_takeWord_63 rfl ?_
                refine r_get 64 C dX10_takeWord_64 (k := 1) 0 rfl rfl hiX10 (by decide) rfl (mg 1 rfl) (Or.inl rfl) rfl ?_
                refine r_aload_n 67 1 C dX10_takeWord_67 rfl ?_
                refine r_get 68 C dX10_takeWord_68 (k := 2) 0 rfl rfl hiX10 (by decide) rfl (mg 2 rfl) (Or.inl rfl) rfl ?_
                obtain ⟨z63, ez63⟩ : ∃ z_9, Int32.toInt64 z51 = z_9 := ⟨_, rfl⟩
                have tz63 : (Int64.toInt z63) = (Int32.toInt z51) := by rw [← ez63]; exact Int32.toInt_toInt64 _
                refine r_i2l 71 z63 C dX10_takeWord_71 ez63 ?_
                refine r_callVi 72 C dX10_takeWord_72 [] [(h1, .inr (4, [.ref h2, .int x8])), (h2, .inl (gB g, 1500, .inl fn0))] [(h0, .inr (9, [.ref h3, .ref h1, .int z51, .int z4, .int x2, .int x3, .int x4, .int x5, .int x6, .int x7]))] (fun sz => c14_X5_get l g h1 h2 z63 x8 fn0 i_x8 sz) gX10_takeWord_X5_get rfl ⟨rfl, rfl⟩ 1 (by decide) ⟨Nat.le_of_ble_eq_true rfl, Nat.le_of_ble_eq_true rfl⟩ 1 rfl rfl [1, 2] [0] rfl rfl (by decide) (by decide) (by decide) rfl rfl (Nat.le_of_ble_eq_true rfl) ⟨Nat.le_of_ble_eq_true rfl, Nat.le_of_ble_eq_true rfl⟩ (fun r64 _ w65 => ?_)
                refine r_ws [(h0, .inr (9, [.ref h3, .ref h1, .int z51, .int z4, .int x2, .int x3, .int x4, .int x5, .int x6, .int x7])), (h1, .inr (4, [.ref h2, .int x8])), (h2, .inl (gB g, 1500, .inl fn0))] rfl ?_
                have p66 : -1 ≤ (Int32.toInt r64) := w65.1
                have p67 : (Int32.toInt r64) ≤ 255 := w65.2
                refine r_callSNi 75 C dX10_takeWord_75 [] [] [(h0, .inr (9, [.ref h3, .ref h1, .int z51, .int z4, .int x2, .int x3, .int x4, .int x5, .int x6, .int x7])), (h1, .inr (4, [.ref h2, .int x8])), (h2, .inl (gB g, 1500, .inl fn0))] (fun sz => c111_X11_isBlank l g r64  sz) gX10_takeWord_X11_isBlank_n80 rfl ⟨rfl, rfl⟩ 1 (by decide) ⟨Nat.le_of_ble_eq_true rfl, Nat.le_of_ble_eq_true rfl⟩ (mg 31 rfl) (mg 17 rfl) (mg 16 rfl) [] [0, 1, 2] rfl rfl (by decide) (by decide) (by decide) rfl rfl (Nat.le_of_ble_eq_true rfl) ⟨Nat.le_of_ble_eq_true rfl, Nat.le_of_ble_eq_true rfl⟩ (fun r68 _ w69 => ?_)
                refine r_ws [(h0, .inr (9, [.ref h3, .ref h1, .int z51, .int z4, .int x2, .int x3, .int x4, .int x5, .int x6, .int x7])), (h1, .inr (4, [.ref h2, .int x8])), (h2, .inl (gB g, 1500, .inl fn0))] rfl ?_
                have p70 : 0 ≤ (Int32.toInt r68) := w69.1
                have p71 : (Int32.toInt r68) ≤ 1 := w69.2
                refine r_if_ne 78 94 C dX10_takeWord_78 (by decide) (fun c72 => ?_) (fun c72 => ?_)
                · skip
                  have k73 : ¬ ((Int32.toInt r68) = 0) := fun h_9 => c72 ((fa_eq r68 0).mpr h_9)
                  refine r_aload_n 94 1 C dX10_takeWord_94 rfl ?_
                  refine r_aload_n 95 1 C dX10_takeWord_95 rfl ?_
                  refine r_get 96 C dX10_takeWord_96 (k := 2) 0 rfl rfl hiX10 (by decide) rfl (mg 2 rfl) (Or.inl rfl) rfl ?_
                  refine r_put 99 C dX10_takeWord_99 (k := 4) 0 rfl rfl hiX10 tyX10 tyX10_ok nmX10 (by decide) rfl (mg 4 rfl) (Or.inl rfl) rfl rfl rfl rfl (Nat.le_of_ble_eq_true rfl) [(h0, .inr (9, [.ref h3, .ref h1, .int z51, .int z4, .int z51, .int x3, .int x4, .int x5, .int x6, .int x7])), (h1, .inr (4, [.ref h2, .int x8])), (h2, .inl (gB g, 1500, .inl fn0))] rfl ?_
                  refine r_aload_n 102 1 C dX10_takeWord_102 rfl ?_
                  refine r_get 103 C dX10_takeWord_103 (k := 4) 0 rfl rfl hiX10 (by decide) rfl (mg 4 rfl) (Or.inl rfl) rfl ?_
                  refine r_aload_n 106 1 C dX10_takeWord_106 rfl ?_
                  refine r_get 107 C dX10_takeWord_107 (k := 3) 0 rfl rfl hiX10 (by decide) rfl (mg 3 rfl) (Or.inl rfl) rfl ?_
                  refine r_icmp_le 110 117 C dX10_takeWord_110 (by decide) (fun c74 => ?_) (fun c74 => ?_)
                  · skip
                    have k75 : (Int32.toInt z51) ≤ (Int32.toInt z4) := (fa_le z51 z4).mp c74
                    refine r_iconst 117 0 C dX10_takeWord_117 (by decide) ?_
                    exact r_zret 118 Rt dX10_takeWord_118 (by decide) (z51, z4, z51) (show 0 ≤ (Int32.toInt 0) ∧ (Int32.toInt 0) ≤ 1 from ⟨(by ((repeat' apply And.intro) <;> first | trivial | rfl | assumption | omega | decide | exact Or.inl rfl | exact Or.inr (Or.inl rfl) | exact Or.inr (Or.inr rfl))), (by ((repeat' apply And.intro) <;> first | trivial | rfl | assumption | omega | decide | exact Or.inl rfl | exact Or.inr (Or.inl rfl) | exact Or.inr (Or.inr rfl)))⟩) [0, 1, 2] (by decide) rfl (Nat.le_of_ble_eq_true rfl) (Nat.le_of_ble_eq_true rfl)
                  · skip
                    have k76 : ¬ ((Int32.toInt z51) ≤ (Int32.toInt z4)) := fun h_9 => c74 ((fa_le z51 z4).mpr h_9)
                    refine r_iconst 113 1 C dX10_takeWord_113 (by decide) ?_
                    refine r_goto 114 118 C dX10_takeWord_114 (by decide) ?_
                    exact r_zret 118 Rt dX10_takeWord_118 (by decide) (z51, z4, z51) (show 0 ≤ (Int32.toInt 1) ∧ (Int32.toInt 1) ≤ 1 from ⟨(by ((repeat' apply And.intro) <;> first | trivial | rfl | assumption | omega | decide | exact Or.inl rfl | exact Or.inr (Or.inl rfl) | exact Or.inr (Or.inr rfl))), (by ((repeat' apply And.intro) <;> first | trivial | rfl | assumption | omega | decide | exact Or.inl rfl | exact Or.inr (Or.inl rfl) | exact Or.inr (Or.inr rfl)))⟩) [0, 1, 2] (by decide) rfl (Nat.le_of_ble_eq_true rfl) (Nat.le_of_ble_eq_true rfl)
                · skip
                  have k77 : (Int32.toInt r68) = 0 := (fa_eq r68 0).mp c72
                  refine r_aload_n 81 1 C dX10_takeWord_81 rfl ?_
                  refine r_dup 82 C dX10_takeWord_82 rfl ?_
                  refine r_get 83 C dX10_takeWord_83 (k := 2) 0 rfl rfl hiX10 (by decide) rfl (mg 2 rfl) (Or.inl rfl) rfl ?_
                  refine r_iconst 86 1 C dX10_takeWord_86 (by decide) ?_
                  obtain ⟨z78, ez78⟩ : ∃ z_9, z51 + 1 = z_9 := ⟨_, rfl⟩
                  have tz78 : (Int32.toInt z78) = (Int32.toInt z51) + 1 := by rw [← ez78]; exact fb_addIv (a := (-2147483648)) (b := 1510) (c := 1) (d := 1) ⟨i56a, i56b⟩ ⟨by decide, by decide⟩ (by decide) (by decide)
                  refine r_iadd 87 z78 C dX10_takeWord_87 ez78 ?_
                  refine r_put 88 C dX10_takeWord_88 (k := 2) 0 rfl rfl hiX10 tyX10 tyX10_ok nmX10 (by decide) rfl (mg 2 rfl) (Or.inl rfl) rfl rfl rfl rfl (Nat.le_of_ble_eq_true rfl) [(h0, .inr (9, [.ref h3, .ref h1, .int z78, .int z4, .int x2, .int x3, .int x4, .int x5, .int x6, .int x7])), (h1, .inr (4, [.ref h2, .int x8])), (h2, .inl (gB g, 1500, .inl fn0))] rfl ?_
                  refine r_goto 91 55 C dX10_takeWord_91 (by decide) ?_
                  exact ih54 z78 ⟨by omega, by omega⟩ (by omega)
          exact lp53 _ z4 ⟨by omega, by omega⟩ (Nat.lt_succ_self _)
        · skip
          have k79 : ¬ ((Int32.toInt r45) = 0) := fun h_9 => c49 ((fa_eq r45 0).mpr h_9)
          refine r_aload_n 34 1 C dX10_takeWord_34 rfl ?_
          refine r_dup 35 C dX10_takeWord_35 rfl ?_
          refine r_get 36 C dX10_takeWord_36 (k := 2) 0 rfl rfl hiX10 (by decide) rfl (mg 2 rfl) (Or.inl rfl) rfl ?_
          refine r_iconst 39 1 C dX10_takeWord_39 (by decide) ?_
          obtain ⟨z80, ez80⟩ : ∃ z_9, z4 + 1 = z_9 := ⟨_, rfl⟩
          have tz80 : (Int32.toInt z80) = (Int32.toInt z4) + 1 := by rw [← ez80]; exact fb_addI (by show -2147483648 ≤ (Int32.toInt z4) + 1; omega) (by show (Int32.toInt z4) + 1 < 2147483648; omega)
          refine r_iadd 40 z80 C dX10_takeWord_40 ez80 ?_
          refine r_put 41 C dX10_takeWord_41 (k := 2) 0 rfl rfl hiX10 tyX10 tyX10_ok nmX10 (by decide) rfl (mg 2 rfl) (Or.inl rfl) rfl rfl rfl rfl (Nat.le_of_ble_eq_true rfl) [(h0, .inr (9, [.ref h3, .ref h1, .int z80, .int x1, .int x2, .int x3, .int x4, .int x5, .int x6, .int x7])), (h1, .inr (4, [.ref h2, .int x8])), (h2, .inl (gB g, 1500, .inl fn0))] rfl ?_
          refine r_goto 44 8 C dX10_takeWord_44 (by decide) ?_
          refine r_pick [(h0, .inr (9, [.ref h3, .ref h1, .int z80, .int x1, .int x2, .int x3, .int x4, .int x5, .int x6, .int x7])), (h2, .inl (gB g, 1500, .inl fn0)), (h1, .inr (4, [.ref h2, .int x8]))] [0, 2, 1] (by decide) rfl ?_
          exact ih7 z80  (by omega)
  exact lp6 _ x0  (Nat.lt_succ_self _)
set_option maxHeartbeats 4000000 in
set_option maxRecDepth 100000 in
theorem c116_J0_coder_7d493 (l : Launch) (g : GD) (sz : Nat) : Met l yJ0_coder_7d493 wsJ0_coder_7d493 ({ frames := 0, cells := 0, slots := 0, locals := 0 }) (va_Pc [.ref (g.2.2.1 1)] (PW g [] sz)) (va_Qi (fun (r : Int32) (_ : Unit) => r = 0) (BW g (va_A [] sz) (fun _ : Unit => [])) (va_A [] sz)) 0 0 (va_A [] sz) := by
  refine met_b RJ0 (by decide) rfl rfl (Nat.le_of_ble_eq_true rfl) [(0, .ref (g.2.2.1 1))] rfl ?_
  intro p e s m args below meth c A Q C hnm Rt
  refine r_gets 0 C dJ0_coder_7d493_0 C.2.2.2.2.2.1.2.2.2.2.1 (mg 1 rfl) ?_
  refine r_if_eq_f 3 13 C dJ0_coder_7d493_3 (by decide) (by decide) ?_
  refine r_aload_n 6 0 C dJ0_coder_7d493_6 rfl ?_
  refine r_sget 7 1 C dJ0_coder_7d493_7 ((C.2.2.2.2.2.1.2.2.1.1 1 (by decide)).2.1) (mg 2 rfl) ?_
  refine r_goto 10 14 C dJ0_coder_7d493_10 (by decide) ?_
  exact r_bret 14 Rt dJ0_coder_7d493_14 (by decide) () (show 0 = 0 from (by ((repeat' apply And.intro) <;> first | trivial | rfl | assumption | omega | decide | exact Or.inl rfl | exact Or.inr (Or.inl rfl) | exact Or.inr (Or.inr rfl)))) [] (by decide) rfl (Nat.le_of_ble_eq_true rfl) (Nat.le_of_ble_eq_true rfl)
set_option maxHeartbeats 4000000 in
set_option maxRecDepth 100000 in
theorem c117_J0_length_8abf5 (l : Launch) (g : GD) (sz : Nat) : Met l yJ0_length_8abf5 wsJ0_length_8abf5 ({ frames := 1, cells := 0, slots := 0, locals := 20 }) (va_Pc [.ref (g.2.2.1 1)] (PW g [] sz)) (va_Qi (fun (r : Int32) (_ : Unit) => r = 12) (BW g (va_A [] sz) (fun _ : Unit => [])) (va_A [] sz)) 0 0 (va_A [] sz) := by
  refine met_i RJ0 (by decide) rfl rfl (Nat.le_of_ble_eq_true rfl) [(0, .ref (g.2.2.1 1))] rfl ?_
  intro p e s m args below meth c A Q C hnm Rt
  refine r_aload_n 0 0 C dJ0_length_8abf5_0 rfl ?_
  refine r_sget 1 1 C dJ0_length_8abf5_1 ((C.2.2.2.2.2.1.2.2.1.1 1 (by decide)).2.2.1) (mg 1 rfl) ?_
  refine r_stlen 4 12 C dJ0_length_8abf5_4 ((C.2.2.2.2.2.1.2.2.1.1 1 (by decide)).2.2.2) (by decide) ?_
  refine r_aload_n 5 0 C dJ0_length_8abf5_5 rfl ?_
  refine r_scallVi 6 C dJ0_length_8abf5_6 [.int 12] 1 (by decide) [] [] (fun sz => c116_J0_coder_7d493 l g   sz) gJ0_length_8abf5_J0_coder_7d493 rfl ⟨rfl, rfl⟩ 0 (by decide) ⟨Nat.le_of_ble_eq_true rfl, Nat.le_of_ble_eq_true rfl⟩ [] [] rfl rfl (by decide) (by decide) (by decide) rfl rfl (Nat.le_of_ble_eq_true rfl) ⟨Nat.le_of_ble_eq_true rfl, Nat.le_of_ble_eq_true rfl⟩ (fun r1 _ w2 => ?_)
  refine r_ws [] rfl ?_
  have p3 : 0 = r1 := (w2).symm
  subst p3
  refine r_ishr 9 12 C dJ0_length_8abf5_9 (by decide) ?_
  exact r_iret 10 Rt dJ0_length_8abf5_10 () (show 12 = 12 from (by ((repeat' apply And.intro) <;> first | trivial | rfl | assumption | omega | decide | exact Or.inl rfl | exact Or.inr (Or.inl rfl) | exact Or.inr (Or.inr rfl)))) [] (by decide) rfl (Nat.le_of_ble_eq_true rfl) (Nat.le_of_ble_eq_true rfl)
set_option maxHeartbeats 4000000 in
set_option maxRecDepth 100000 in
theorem c118_J0_isLatin1_aae02 (l : Launch) (g : GD) (sz : Nat) : Met l yJ0_isLatin1_aae02 wsJ0_isLatin1_aae02 ({ frames := 0, cells := 0, slots := 0, locals := 0 }) (va_Pc [.ref (g.2.2.1 1)] (PW g [] sz)) (va_Qi (fun (r : Int32) (_ : Unit) => r = 1) (BW g (va_A [] sz) (fun _ : Unit => [])) (va_A [] sz)) 0 0 (va_A [] sz) := by
  refine met_z RJ0 (by decide) rfl rfl (Nat.le_of_ble_eq_true rfl) [(0, .ref (g.2.2.1 1))] rfl ?_
  intro p e s m args below meth c A Q C hnm Rt
  refine r_gets 0 C dJ0_isLatin1_aae02_0 C.2.2.2.2.2.1.2.2.2.2.1 (mg 1 rfl) ?_
  refine r_if_eq_f 3 17 C dJ0_isLatin1_aae02_3 (by decide) (by decide) ?_
  refine r_aload_n 6 0 C dJ0_isLatin1_aae02_6 rfl ?_
  refine r_sget 7 1 C dJ0_isLatin1_aae02_7 ((C.2.2.2.2.2.1.2.2.1.1 1 (by decide)).2.1) (mg 2 rfl) ?_
  refine r_if_ne_f 10 17 C dJ0_isLatin1_aae02_10 (by decide) (by decide) ?_
  refine r_iconst 13 1 C dJ0_isLatin1_aae02_13 (by decide) ?_
  refine r_goto 14 18 C dJ0_isLatin1_aae02_14 (by decide) ?_
  exact r_zret 18 Rt dJ0_isLatin1_aae02_18 (by decide) () (show 1 = 1 from (by ((repeat' apply And.intro) <;> first | trivial | rfl | assumption | omega | decide | exact Or.inl rfl | exact Or.inr (Or.inl rfl) | exact Or.inr (Or.inr rfl)))) [] (by decide) rfl (Nat.le_of_ble_eq_true rfl) (Nat.le_of_ble_eq_true rfl)
set_option maxHeartbeats 4000000 in
set_option maxRecDepth 100000 in
theorem c119_J3_checkIndex_8e157 (l : Launch) (g : GD) (x0 : Int32) (i_x0 : (0 ≤ (Int32.toInt x0) ∧ (Int32.toInt x0) ≤ 11)) (sz : Nat) : Met l yJ3_checkIndex_8e157 wsJ3_checkIndex_8e157 ({ frames := 0, cells := 0, slots := 0, locals := 0 }) (va_Pc [.int x0, .int 12, .null] (PW g [] sz)) (va_Qi (fun (r : Int32) (_ : Unit) => r = x0) (BW g (va_A [] sz) (fun _ : Unit => [])) (va_A [] sz)) 0 0 (va_A [] sz) := by
  refine met_i RJ3 (by decide) rfl rfl (Nat.le_of_ble_eq_true rfl) [(0, .int x0), (1, .int 12), (2, .null)] rfl ?_
  intro p e s m args below meth c A Q C hnm Rt
  refine r_iload_n 0 0 C dJ3_checkIndex_8e157_0 rfl ?_
  refine r_if_lt_f 1 9 C dJ3_checkIndex_8e157_1 (by decide) (fun h_9 => by have h_8 : (Int32.toInt x0) < 0 := (fa_lt x0 0).mp h_9; omega) ?_
  refine r_iload_n 4 0 C dJ3_checkIndex_8e157_4 rfl ?_
  refine r_iload_n 5 1 C dJ3_checkIndex_8e157_5 rfl ?_
  refine r_icmp_lt_t 6 16 C dJ3_checkIndex_8e157_6 (by decide) ((fa_lt x0 12).mpr (by show (Int32.toInt x0) < 12; omega)) ?_
  refine r_iload_n 16 0 C dJ3_checkIndex_8e157_16 rfl ?_
  exact r_iret 17 Rt dJ3_checkIndex_8e157_17 () (show x0 = x0 from (by ((repeat' apply And.intro) <;> first | trivial | rfl | assumption | omega | decide | exact Or.inl rfl | exact Or.inr (Or.inl rfl) | exact Or.inr (Or.inr rfl)))) [] (by decide) rfl (Nat.le_of_ble_eq_true rfl) (Nat.le_of_ble_eq_true rfl)
set_option maxHeartbeats 4000000 in
set_option maxRecDepth 100000 in
theorem c120_J3_checkIndex_8e157 (l : Launch) (g : GD) (x0 : Int32) (h0 : Nat) (i_x0 : (0 ≤ (Int32.toInt x0) ∧ (Int32.toInt x0) ≤ 11)) (sz : Nat) : Met l yJ3_checkIndex_8e157 wsJ3_checkIndex_8e157 ({ frames := 0, cells := 0, slots := 0, locals := 0 }) (va_Pc [.int x0, .int 12, .ref h0] (PW g [] sz)) (va_Qi (fun (r : Int32) (_ : Unit) => r = x0) (BW g (va_A [] sz) (fun _ : Unit => [])) (va_A [] sz)) 0 0 (va_A [] sz) := by
  refine met_i RJ3 (by decide) rfl rfl (Nat.le_of_ble_eq_true rfl) [(0, .int x0), (1, .int 12), (2, .ref h0)] rfl ?_
  intro p e s m args below meth c A Q C hnm Rt
  refine r_iload_n 0 0 C dJ3_checkIndex_8e157_0 rfl ?_
  refine r_if_lt_f 1 9 C dJ3_checkIndex_8e157_1 (by decide) (fun h_9 => by have h_8 : (Int32.toInt x0) < 0 := (fa_lt x0 0).mp h_9; omega) ?_
  refine r_iload_n 4 0 C dJ3_checkIndex_8e157_4 rfl ?_
  refine r_iload_n 5 1 C dJ3_checkIndex_8e157_5 rfl ?_
  refine r_icmp_lt_t 6 16 C dJ3_checkIndex_8e157_6 (by decide) ((fa_lt x0 12).mpr (by show (Int32.toInt x0) < 12; omega)) ?_
  refine r_iload_n 16 0 C dJ3_checkIndex_8e157_16 rfl ?_
  exact r_iret 17 Rt dJ3_checkIndex_8e157_17 () (show x0 = x0 from (by ((repeat' apply And.intro) <;> first | trivial | rfl | assumption | omega | decide | exact Or.inl rfl | exact Or.inr (Or.inl rfl) | exact Or.inr (Or.inr rfl)))) [] (by decide) rfl (Nat.le_of_ble_eq_true rfl) (Nat.le_of_ble_eq_true rfl)
set_option maxHeartbeats 4000000 in
set_option maxRecDepth 100000 in
theorem c121_J0_checkIndex_df160 (l : Launch) (g : GD) (x0 : Int32) (i_x0 : (0 ≤ (Int32.toInt x0) ∧ (Int32.toInt x0) ≤ 11)) (sz : Nat) : Met l yJ0_checkIndex_df160 wsJ0_checkIndex_df160 ({ frames := 1, cells := 0, slots := 0, locals := 22 }) (va_Pc [.int x0, .int 12] (PW g [] sz)) (va_Qv (fun (_ : Unit) => True) (BW g (va_A [] sz) (fun _ : Unit => [])) (va_A [] sz)) 0 0 (va_A [] sz) := by
  refine met_v RJ0 (by decide) rfl rfl (Nat.le_of_ble_eq_true rfl) [(0, .int x0), (1, .int 12)] rfl ?_
  intro p e s m args below meth c A Q C hnm Rt
  refine r_iload_n 0 0 C dJ0_checkIndex_df160_0 rfl ?_
  refine r_iload_n 1 1 C dJ0_checkIndex_df160_1 rfl ?_
  refine r_getsq2 2 C dJ0_checkIndex_df160_2 C.2.2.2.2.2.1.2.2.2.2.2 (mg 1 rfl) ?_ (fun q1 => ?_)
  · skip
    refine r_callSi 5 C dJ0_checkIndex_df160_5 [] [] [] (fun sz => c119_J3_checkIndex_8e157 l g x0 i_x0 sz) gJ0_checkIndex_df160_J3_checkIndex_8e157 rfl ⟨rfl, rfl⟩ 3 (by decide) ⟨Nat.le_of_ble_eq_true rfl, Nat.le_of_ble_eq_true rfl⟩ [] [] rfl rfl (by decide) (by decide) (by decide) rfl rfl (Nat.le_of_ble_eq_true rfl) ⟨Nat.le_of_ble_eq_true rfl, Nat.le_of_ble_eq_true rfl⟩ (fun r2 _ w3 => ?_)
    refine r_ws [] rfl ?_
    have p4 : x0 = r2 := (w3).symm
    subst p4
    refine r_pop 8 C dJ0_checkIndex_df160_8 rfl ?_
    exact r_vret 9 Rt dJ0_checkIndex_df160_9 () trivial [] (by decide) rfl (Nat.le_of_ble_eq_true rfl) (Nat.le_of_ble_eq_true rfl)
  · skip
    refine r_callSi 5 C dJ0_checkIndex_df160_5 [] [] [] (fun sz => c120_J3_checkIndex_8e157 l g x0 q1 i_x0 sz) gJ0_checkIndex_df160_J3_checkIndex_8e157 rfl ⟨rfl, rfl⟩ 3 (by decide) ⟨Nat.le_of_ble_eq_true rfl, Nat.le_of_ble_eq_true rfl⟩ [] [] rfl rfl (by decide) (by decide) (by decide) rfl rfl (Nat.le_of_ble_eq_true rfl) ⟨Nat.le_of_ble_eq_true rfl, Nat.le_of_ble_eq_true rfl⟩ (fun r5 _ w6 => ?_)
    refine r_ws [] rfl ?_
    have p7 : x0 = r5 := (w6).symm
    subst p7
    refine r_pop 8 C dJ0_checkIndex_df160_8 rfl ?_
    exact r_vret 9 Rt dJ0_checkIndex_df160_9 () trivial [] (by decide) rfl (Nat.le_of_ble_eq_true rfl) (Nat.le_of_ble_eq_true rfl)
set_option maxHeartbeats 4000000 in
set_option maxRecDepth 100000 in
theorem c122_J1_charAt_3b067 (l : Launch) (g : GD) (x0 : Int32) (i_x0 : (0 ≤ (Int32.toInt x0) ∧ (Int32.toInt x0) ≤ 11)) (sz : Nat) : Met l yJ1_charAt_3b067 wsJ1_charAt_3b067 ({ frames := 2, cells := 0, slots := 0, locals := 43 }) (va_Pc [.ref (g.2.2.2 1), .int x0] (PW g [] sz)) (va_Qi (fun (r : Int32) (_ : Unit) => 0 ≤ (Int32.toInt r) ∧ (Int32.toInt r) ≤ 65535) (BW g (va_A [] sz) (fun _ : Unit => [])) (va_A [] sz)) 0 0 (va_A [] sz) := by
  refine met_c RJ1 (by decide) rfl rfl (Nat.le_of_ble_eq_true rfl) [(0, .ref (g.2.2.2 1)), (1, .int x0)] rfl ?_
  intro p e s m args below meth c A Q C hnm Rt
  refine r_iload_n 0 1 C dJ1_charAt_3b067_0 rfl ?_
  refine r_aload_n 1 0 C dJ1_charAt_3b067_1 rfl ?_
  refine r_stlen 2 12 C dJ1_charAt_3b067_2 ((C.2.2.2.2.2.1.2.2.1.1 1 (by decide)).2.2.2) (by decide) ?_
  refine r_callSv 3 C dJ1_charAt_3b067_3 [] [] [] (fun sz => c121_J0_checkIndex_df160 l g x0 i_x0 sz) gJ1_charAt_3b067_J0_checkIndex_df160 rfl ⟨rfl, rfl⟩ 2 (by decide) ⟨Nat.le_of_ble_eq_true rfl, Nat.le_of_ble_eq_true rfl⟩ [] [] rfl rfl (by decide) (by decide) (by decide) rfl rfl (Nat.le_of_ble_eq_true rfl) ⟨Nat.le_of_ble_eq_true rfl, Nat.le_of_ble_eq_true rfl⟩ (fun  _ w1 => ?_)
  refine r_ws [] rfl ?_
  refine r_aload_n 6 0 C dJ1_charAt_3b067_6 rfl ?_
  refine r_iload_n 7 1 C dJ1_charAt_3b067_7 rfl ?_
  obtain ⟨z2, ez2⟩ : ∃ z_9, (stB.getD 1 []).getD (Int32.toNatClampNeg x0) 0 = z_9 := ⟨_, rfl⟩
  refine r_stb 8 (.int z2) C dJ1_charAt_3b067_8 ((C.2.2.2.2.2.1.2.2.1.1 1 (by decide)).2.2.2) (vinI (n := 12) (by omega) (by omega)) (by rw [← ez2]) ?_
  have gz2 := fb_rng z2
  refine r_sipush 9 255 C dJ1_charAt_3b067_9 (by decide) ?_
  obtain ⟨z3, ez3⟩ : ∃ z_9, z2 &&& 255 = z_9 := ⟨_, rfl⟩
  have tz3 : 0 ≤ (Int32.toInt z3) ∧ (Int32.toInt z3) ≤ 255 := by rw [← ez3]; exact and_255 z2
  refine r_iand 12 z3 C dJ1_charAt_3b067_12 ez3 ?_
  obtain ⟨z4, ez4⟩ : ∃ z_9, (Int32.toUInt32 z3 % 65536).toInt32 = z_9 := ⟨_, rfl⟩
  have tz4 : 0 ≤ (Int32.toInt z4) ∧ (Int32.toInt z4) ≤ 65535 := by rw [← ez4]; exact chr_in _
  refine r_i2c 13 z4 C dJ1_charAt_3b067_13 ez4 ?_
  exact r_cret 14 Rt dJ1_charAt_3b067_14 (by rw [← ez4]; exact pk_nc _) () (show 0 ≤ (Int32.toInt z4) ∧ (Int32.toInt z4) ≤ 65535 from ⟨(by ((repeat' apply And.intro) <;> first | trivial | rfl | assumption | omega | decide | exact Or.inl rfl | exact Or.inr (Or.inl rfl) | exact Or.inr (Or.inr rfl))), (by ((repeat' apply And.intro) <;> first | trivial | rfl | assumption | omega | decide | exact Or.inl rfl | exact Or.inr (Or.inl rfl) | exact Or.inr (Or.inr rfl)))⟩) [] (by decide) rfl (Nat.le_of_ble_eq_true rfl) (Nat.le_of_ble_eq_true rfl)
set_option maxHeartbeats 4000000 in
set_option maxRecDepth 100000 in
theorem c123_J0_charAt_5068e (l : Launch) (g : GD) (x0 : Int32) (i_x0 : (0 ≤ (Int32.toInt x0) ∧ (Int32.toInt x0) ≤ 11)) (sz : Nat) : Met l yJ0_charAt_5068e wsJ0_charAt_5068e ({ frames := 3, cells := 0, slots := 0, locals := 64 }) (va_Pc [.ref (g.2.2.1 1), .int x0] (PW g [] sz)) (va_Qi (fun (r : Int32) (_ : Unit) => 0 ≤ (Int32.toInt r) ∧ (Int32.toInt r) ≤ 65535) (BW g (va_A [] sz) (fun _ : Unit => [])) (va_A [] sz)) 0 0 (va_A [] sz) := by
  refine met_c RJ0 (by decide) rfl rfl (Nat.le_of_ble_eq_true rfl) [(0, .ref (g.2.2.1 1)), (1, .int x0)] rfl ?_
  intro p e s m args below meth c A Q C hnm Rt
  refine r_aload_n 0 0 C dJ0_charAt_5068e_0 rfl ?_
  refine r_scallVi 1 C dJ0_charAt_5068e_1 [] 1 (by decide) [] [] (fun sz => c118_J0_isLatin1_aae02 l g   sz) gJ0_charAt_5068e_J0_isLatin1_aae02 rfl ⟨rfl, rfl⟩ 0 (by decide) ⟨Nat.le_of_ble_eq_true rfl, Nat.le_of_ble_eq_true rfl⟩ [] [] rfl rfl (by decide) (by decide) (by decide) rfl rfl (Nat.le_of_ble_eq_true rfl) ⟨Nat.le_of_ble_eq_true rfl, Nat.le_of_ble_eq_true rfl⟩ (fun r1 _ w2 => ?_)
  refine r_ws [] rfl ?_
  have p3 : 1 = r1 := (w2).symm
  subst p3
  refine r_if_eq_f 4 16 C dJ0_charAt_5068e_4 (by decide) (by decide) ?_
  refine r_aload_n 7 0 C dJ0_charAt_5068e_7 rfl ?_
  refine r_sget 8 1 C dJ0_charAt_5068e_8 ((C.2.2.2.2.2.1.2.2.1.1 1 (by decide)).2.2.1) (mg 1 rfl) ?_
  refine r_iload_n 11 1 C dJ0_charAt_5068e_11 rfl ?_
  refine r_callSi 12 C dJ0_charAt_5068e_12 [] [] [] (fun sz => c122_J1_charAt_3b067 l g x0 i_x0 sz) gJ0_charAt_5068e_J1_charAt_3b067 rfl ⟨rfl, rfl⟩ 2 (by decide) ⟨Nat.le_of_ble_eq_true rfl, Nat.le_of_ble_eq_true rfl⟩ [] [] rfl rfl (by decide) (by decide) (by decide) rfl rfl (Nat.le_of_ble_eq_true rfl) ⟨Nat.le_of_ble_eq_true rfl, Nat.le_of_ble_eq_true rfl⟩ (fun r4 _ w5 => ?_)
  refine r_ws [] rfl ?_
  have p6 : 0 ≤ (Int32.toInt r4) := w5.1
  have p7 : (Int32.toInt r4) ≤ 65535 := w5.2
  exact r_cret 15 Rt dJ0_charAt_5068e_15 (nc_in (by omega) (by omega)) () (show 0 ≤ (Int32.toInt r4) ∧ (Int32.toInt r4) ≤ 65535 from ⟨(show _ ∧ _ from ⟨p6, p7⟩).1, (show _ ∧ _ from ⟨p6, p7⟩).2⟩) [] (by decide) rfl (Nat.le_of_ble_eq_true rfl) (Nat.le_of_ble_eq_true rfl)
set_option maxHeartbeats 4000000 in
set_option maxRecDepth 100000 in
theorem c124_X10_isAt (l : Launch) (g : GD) (h0 : Nat) (h1 : Nat) (x0 : Int32) (x1 : Int32) (fn0 : Nat → Int32) (i_x1 : (0 ≤ (Int32.toInt x1) ∧ (Int32.toInt x1) ≤ 1500)) (sz : Nat) : Met l yX10_isAt wsX10_isAt ({ frames := 4, cells := 0, slots := 0, locals := 85 }) (va_Pc [.ref h0, .int x0, .ref (g.2.2.1 1)] (PW g [(h0, .inr (4, [.ref h1, .int x1])), (h1, .inl (gB g, 1500, .inl fn0))] sz)) (va_Qi (fun (r : Int32) (_ : Unit) => 0 ≤ (Int32.toInt r) ∧ (Int32.toInt r) ≤ 1) (BW g (va_A [(h0, .inr (4, [.ref h1, .int x1])), (h1, .inl (gB g, 1500, .inl fn0))] sz) (fun _ : Unit => [(h0, .inr (4, [.ref h1, .int x1])), (h1, .inl (gB g, 1500, .inl fn0))])) (va_A [(h0, .inr (4, [.ref h1, .int x1])), (h1, .inl (gB g, 1500, .inl fn0))] sz)) 0 0 (va_A [(h0, .inr (4, [.ref h1, .int x1])), (h1, .inl (gB g, 1500, .inl fn0))] sz) := by
  refine met_z RX10 (by decide) rfl rfl (Nat.le_of_ble_eq_true rfl) [(0, .ref h0), (1, .int x0), (2, .ref (g.2.2.1 1))] rfl ?_
  intro p e s m args below meth c A Q C hnm Rt
  refine r_iconst 0 0 C dX10_isAt_0 (by decide) ?_
  refine r_istore_n 1 C dX10_isAt_1 [(3, .int 0), (0, .ref h0), (1, .int x0), (2, .ref (g.2.2.1 1))] (by decide) rfl ?_
  have lp3 : ∀ (n2 : Nat) (z1 : Int32), (0 ≤ (Int32.toInt z1) ∧ (Int32.toInt z1) ≤ 12) → Int.toNat (12 - (Int32.toInt z1)) < n2 → WW p l e ({ frames := 4, cells := 0, slots := 0, locals := 85 } : Room) s m args below meth c A Q g 4 0 0 [(h0, .inr (4, [.ref h1, .int x1])), (h1, .inl (gB g, 1500, .inl fn0))] 2 [(3, .int z1), (0, .ref h0), (1, .int x0), (2, .ref (g.2.2.1 1))] [] := by
    intro n2
    induction n2 with
    | zero => intro z1 i6 hm5; exact absurd hm5 (Nat.not_lt_zero _)
    | succ n2 ih4 =>
      intro z1 i6 hm5
      obtain ⟨i6a, i6b⟩ := i6
      refine r_iload_n 2 0 C dX10_isAt_2 rfl ?_
      refine r_aload_n 3 3 C dX10_isAt_3 rfl ?_
      refine r_scallVi 4 C dX10_isAt_4 [.int z1] 1 (by decide) [] [(h0, .inr (4, [.ref h1, .int x1])), (h1, .inl (gB g, 1500, .inl fn0))] (fun sz => c117_J0_length_8abf5 l g   sz) gX10_isAt_J0_length_8abf5 rfl ⟨rfl, rfl⟩ 0 (by decide) ⟨Nat.le_of_ble_eq_true rfl, Nat.le_of_ble_eq_true rfl⟩ [] [0, 1] rfl rfl (by decide) (by decide) (by decide) rfl rfl (Nat.le_of_ble_eq_true rfl) ⟨Nat.le_of_ble_eq_true rfl, Nat.le_of_ble_eq_true rfl⟩ (fun r7 _ w8 => ?_)
      refine r_ws [(h0, .inr (4, [.ref h1, .int x1])), (h1, .inl (gB g, 1500, .inl fn0))] rfl ?_
      have p9 : 12 = r7 := (w8).symm
      subst p9
      refine r_icmp_ge 7 34 C dX10_isAt_7 (by decide) (fun c10 => ?_) (fun c10 => ?_)
      · skip
        have k11 : 12 ≤ (Int32.toInt z1) := (fa_le 12 z1).mp c10
        refine r_iconst 34 1 C dX10_isAt_34 (by decide) ?_
        exact r_zret 35 Rt dX10_isAt_35 (by decide) () (show 0 ≤ (Int32.toInt 1) ∧ (Int32.toInt 1) ≤ 1 from ⟨(by ((repeat' apply And.intro) <;> first | trivial | rfl | assumption | omega | decide | exact Or.inl rfl | exact Or.inr (Or.inl rfl) | exact Or.inr (Or.inr rfl))), (by ((repeat' apply And.intro) <;> first | trivial | rfl | assumption | omega | decide | exact Or.inl rfl | exact Or.inr (Or.inl rfl) | exact Or.inr (Or.inr rfl)))⟩) [0, 1] (by decide) rfl (Nat.le_of_ble_eq_true rfl) (Nat.le_of_ble_eq_true rfl)
      · skip
        have k12 : ¬ (12 ≤ (Int32.toInt z1)) := fun h_9 => c10 ((fa_le 12 z1).mpr h_9)
        refine r_aload_n 10 1 C dX10_isAt_10 rfl ?_
        refine r_iload_n 11 2 C dX10_isAt_11 rfl ?_
        refine r_iload_n 12 0 C dX10_isAt_12 rfl ?_
        obtain ⟨z13, ez13⟩ : ∃ z_9, x0 + z1 = z_9 := ⟨_, rfl⟩
        have gz13 := fb_rng z13
        refine r_iadd 13 z13 C dX10_isAt_13 ez13 ?_
        obtain ⟨z14, ez14⟩ : ∃ z_9, Int32.toInt64 z13 = z_9 := ⟨_, rfl⟩
        have tz14 : (Int64.toInt z14) = (Int32.toInt z13) := by rw [← ez14]; exact Int32.toInt_toInt64 _
        refine r_i2l 14 z14 C dX10_isAt_14 ez14 ?_
        refine r_callVi 15 C dX10_isAt_15 [] [(h0, .inr (4, [.ref h1, .int x1])), (h1, .inl (gB g, 1500, .inl fn0))] [] (fun sz => c14_X5_get l g h0 h1 z14 x1 fn0 i_x1 sz) gX10_isAt_X5_get rfl ⟨rfl, rfl⟩ 1 (by decide) ⟨Nat.le_of_ble_eq_true rfl, Nat.le_of_ble_eq_true rfl⟩ 0 rfl rfl [0, 1] [] rfl rfl (by decide) (by decide) (by decide) rfl rfl (Nat.le_of_ble_eq_true rfl) ⟨Nat.le_of_ble_eq_true rfl, Nat.le_of_ble_eq_true rfl⟩ (fun r15 _ w16 => ?_)
        refine r_ws [(h0, .inr (4, [.ref h1, .int x1])), (h1, .inl (gB g, 1500, .inl fn0))] rfl ?_
        have p17 : -1 ≤ (Int32.toInt r15) := w16.1
        have p18 : (Int32.toInt r15) ≤ 255 := w16.2
        refine r_aload_n 18 3 C dX10_isAt_18 rfl ?_
        refine r_iload_n 19 0 C dX10_isAt_19 rfl ?_
        refine r_scallVi 20 C dX10_isAt_20 [.int r15] 1 (by decide) [] [(h0, .inr (4, [.ref h1, .int x1])), (h1, .inl (gB g, 1500, .inl fn0))] (fun sz => c123_J0_charAt_5068e l g z1 ⟨by omega, by omega⟩ sz) gX10_isAt_J0_charAt_5068e rfl ⟨rfl, rfl⟩ 1 (by decide) ⟨Nat.le_of_ble_eq_true rfl, Nat.le_of_ble_eq_true rfl⟩ [] [0, 1] rfl rfl (by decide) (by decide) (by decide) rfl rfl (Nat.le_of_ble_eq_true rfl) ⟨Nat.le_of_ble_eq_true rfl, Nat.le_of_ble_eq_true rfl⟩ (fun r19 _ w20 => ?_)
        refine r_ws [(h0, .inr (4, [.ref h1, .int x1])), (h1, .inl (gB g, 1500, .inl fn0))] rfl ?_
        have p21 : 0 ≤ (Int32.toInt r19) := w20.1
        have p22 : (Int32.toInt r19) ≤ 65535 := w20.2
        refine r_icmp_eq 23 28 C dX10_isAt_23 (by decide) (fun c23 => ?_) (fun c23 => ?_)
        · skip
          have k24 : (Int32.toInt r15) = (Int32.toInt r19) := (fa_eq r15 r19).mp c23
          obtain ⟨z25, ez25⟩ : ∃ z_9, z1 + Int32.ofInt 1 = z_9 := ⟨_, rfl⟩
          have tz25 : (Int32.toInt z25) = (Int32.toInt z1) + 1 := by rw [← ez25]; exact fb_addIv (a := 0) (b := 12) (c := 1) (d := 1) ⟨i6a, i6b⟩ ⟨by decide, by decide⟩ (by decide) (by decide)
          refine r_iinc 28 0 z25 C dX10_isAt_28 rfl ez25 [(3, .int z25), (0, .ref h0), (1, .int x0), (2, .ref (g.2.2.1 1))] (by decide) rfl ?_
          refine r_goto 31 2 C dX10_isAt_31 (by decide) ?_
          exact ih4 z25 ⟨by omega, by omega⟩ (by omega)
        · skip
          have k26 : ¬ ((Int32.toInt r15) = (Int32.toInt r19)) := fun h_9 => c23 ((fa_eq r15 r19).mpr h_9)
          refine r_iconst 26 0 C dX10_isAt_26 (by decide) ?_
          exact r_zret 27 Rt dX10_isAt_27 (by decide) () (show 0 ≤ (Int32.toInt 0) ∧ (Int32.toInt 0) ≤ 1 from ⟨(by ((repeat' apply And.intro) <;> first | trivial | rfl | assumption | omega | decide | exact Or.inl rfl | exact Or.inr (Or.inl rfl) | exact Or.inr (Or.inr rfl))), (by ((repeat' apply And.intro) <;> first | trivial | rfl | assumption | omega | decide | exact Or.inl rfl | exact Or.inr (Or.inl rfl) | exact Or.inr (Or.inr rfl)))⟩) [0, 1] (by decide) rfl (Nat.le_of_ble_eq_true rfl) (Nat.le_of_ble_eq_true rfl)
  exact lp3 _ 0 (by decide) (Nat.lt_succ_self _)
set_option maxHeartbeats 4000000 in
set_option maxRecDepth 100000 in
theorem c125_X10_isWord (l : Launch) (g : GD) (h0 : Nat) (h1 : Nat) (h2 : Nat) (h3 : Nat) (x0 : Int32) (x1 : Int32) (x2 : Int32) (x3 : Int32) (x4 : Int32) (x5 : Int32) (x6 : Int32) (x7 : Int32) (x8 : Int32) (fn0 : Nat → Int32) (i_x4 : (0 ≤ (Int32.toInt x4) ∧ (Int32.toInt x4) ≤ 1)) (i_x8 : (0 ≤ (Int32.toInt x8) ∧ (Int32.toInt x8) ≤ 1500)) (sz : Nat) : Met l yX10_isWord wsX10_isWord ({ frames := 5, cells := 0, slots := 0, locals := 108 }) (va_Pc [.ref h0, .ref (g.2.2.1 1)] (PW g [(h0, .inr (9, [.ref h3, .ref h1, .int x0, .int x1, .int x2, .int x3, .int x4, .int x5, .int x6, .int x7])), (h1, .inr (4, [.ref h2, .int x8])), (h2, .inl (gB g, 1500, .inl fn0))] sz)) (va_Qi (fun (r : Int32) (_ : Unit) => 0 ≤ (Int32.toInt r) ∧ (Int32.toInt r) ≤ 1) (BW g (va_A [(h0, .inr (9, [.ref h3, .ref h1, .int x0, .int x1, .int x2, .int x3, .int x4, .int x5, .int x6, .int x7])), (h1, .inr (4, [.ref h2, .int x8])), (h2, .inl (gB g, 1500, .inl fn0))] sz) (fun _ : Unit => [(h0, .inr (9, [.ref h3, .ref h1, .int x0, .int x1, .int x2, .int x3, .int x4, .int x5, .int x6, .int x7])), (h1, .inr (4, [.ref h2, .int x8])), (h2, .inl (gB g, 1500, .inl fn0))])) (va_A [(h0, .inr (9, [.ref h3, .ref h1, .int x0, .int x1, .int x2, .int x3, .int x4, .int x5, .int x6, .int x7])), (h1, .inr (4, [.ref h2, .int x8])), (h2, .inl (gB g, 1500, .inl fn0))] sz)) 0 0 (va_A [(h0, .inr (9, [.ref h3, .ref h1, .int x0, .int x1, .int x2, .int x3, .int x4, .int x5, .int x6, .int x7])), (h1, .inr (4, [.ref h2, .int x8])), (h2, .inl (gB g, 1500, .inl fn0))] sz) := by
  refine met_z RX10 (by decide) rfl rfl (Nat.le_of_ble_eq_true rfl) [(0, .ref h0), (1, .ref (g.2.2.1 1))] rfl ?_
  intro p e s m args below meth c A Q C hnm Rt
  have hiX10 : ∀ w ∈ wsX100, w ∈ wsX10_isWord := fun w h => List.mem_cons_of_mem _ (List.mem_append_left _ (List.mem_append_right _ (h)))
  refine r_aload_n 0 0 C dX10_isWord_0 rfl ?_
  refine r_get 1 C dX10_isWord_1 (k := 4) 0 rfl rfl hiX10 (by decide) rfl (mg 1 rfl) (Or.inl rfl) rfl ?_
  refine r_aload_n 4 0 C dX10_isWord_4 rfl ?_
  refine r_get 5 C dX10_isWord_5 (k := 3) 0 rfl rfl hiX10 (by decide) rfl (mg 2 rfl) (Or.inl rfl) rfl ?_
  obtain ⟨z1, ez1⟩ : ∃ z_9, x2 - x1 = z_9 := ⟨_, rfl⟩
  have gz1 := fb_rng z1
  refine r_isub 8 z1 C dX10_isWord_8 ez1 ?_
  refine r_aload_n 9 1 C dX10_isWord_9 rfl ?_
  refine r_scallVi 10 C dX10_isWord_10 [.int z1] 1 (by decide) [] [(h0, .inr (9, [.ref h3, .ref h1, .int x0, .int x1, .int x2, .int x3, .int x4, .int x5, .int x6, .int x7])), (h1, .inr (4, [.ref h2, .int x8])), (h2, .inl (gB g, 1500, .inl fn0))] (fun sz => c117_J0_length_8abf5 l g   sz) gX10_isWord_J0_length_8abf5 rfl ⟨rfl, rfl⟩ 0 (by decide) ⟨Nat.le_of_ble_eq_true rfl, Nat.le_of_ble_eq_true rfl⟩ [] [0, 1, 2] rfl rfl (by decide) (by decide) (by decide) rfl rfl (Nat.le_of_ble_eq_true rfl) ⟨Nat.le_of_ble_eq_true rfl, Nat.le_of_ble_eq_true rfl⟩ (fun r2 _ w3 => ?_)
  refine r_ws [(h0, .inr (9, [.ref h3, .ref h1, .int x0, .int x1, .int x2, .int x3, .int x4, .int x5, .int x6, .int x7])), (h1, .inr (4, [.ref h2, .int x8])), (h2, .inl (gB g, 1500, .inl fn0))] rfl ?_
  have p4 : 12 = r2 := (w3).symm
  subst p4
  refine r_icmp_ne 13 35 C dX10_isWord_13 (by decide) (fun c5 => ?_) (fun c5 => ?_)
  · skip
    have k6 : ¬ ((Int32.toInt z1) = 12) := fun h_9 => c5 ((fa_eq z1 12).mpr h_9)
    refine r_iconst 35 0 C dX10_isWord_35 (by decide) ?_
    exact r_zret 36 Rt dX10_isWord_36 (by decide) () (show 0 ≤ (Int32.toInt 0) ∧ (Int32.toInt 0) ≤ 1 from ⟨(by ((repeat' apply And.intro) <;> first | trivial | rfl | assumption | omega | decide | exact Or.inl rfl | exact Or.inr (Or.inl rfl) | exact Or.inr (Or.inr rfl))), (by ((repeat' apply And.intro) <;> first | trivial | rfl | assumption | omega | decide | exact Or.inl rfl | exact Or.inr (Or.inl rfl) | exact Or.inr (Or.inr rfl)))⟩) [0, 1, 2] (by decide) rfl (Nat.le_of_ble_eq_true rfl) (Nat.le_of_ble_eq_true rfl)
  · skip
    have k7 : (Int32.toInt z1) = 12 := (fa_eq z1 12).mp c5
    refine r_aload_n 16 0 C dX10_isWord_16 rfl ?_
    refine r_get 17 C dX10_isWord_17 (k := 1) 0 rfl rfl hiX10 (by decide) rfl (mg 3 rfl) (Or.inl rfl) rfl ?_
    refine r_aload_n 20 0 C dX10_isWord_20 rfl ?_
    refine r_get 21 C dX10_isWord_21 (k := 3) 0 rfl rfl hiX10 (by decide) rfl (mg 2 rfl) (Or.inl rfl) rfl ?_
    refine r_aload_n 24 1 C dX10_isWord_24 rfl ?_
    refine r_callSi 25 C dX10_isWord_25 [] [(h1, .inr (4, [.ref h2, .int x8])), (h2, .inl (gB g, 1500, .inl fn0))] [(h0, .inr (9, [.ref h3, .ref h1, .int x0, .int x1, .int x2, .int x3, .int x4, .int x5, .int x6, .int x7]))] (fun sz => c124_X10_isAt l g h1 h2 x1 x8 fn0 i_x8 sz) gX10_isWord_X10_isAt rfl ⟨rfl, rfl⟩ 3 (by decide) ⟨Nat.le_of_ble_eq_true rfl, Nat.le_of_ble_eq_true rfl⟩ [1, 2] [0] rfl rfl (by decide) (by decide) (by decide) rfl rfl (Nat.le_of_ble_eq_true rfl) ⟨Nat.le_of_ble_eq_true rfl, Nat.le_of_ble_eq_true rfl⟩ (fun r8 _ w9 => ?_)
    refine r_ws [(h0, .inr (9, [.ref h3, .ref h1, .int x0, .int x1, .int x2, .int x3, .int x4, .int x5, .int x6, .int x7])), (h1, .inr (4, [.ref h2, .int x8])), (h2, .inl (gB g, 1500, .inl fn0))] rfl ?_
    have p10 : 0 ≤ (Int32.toInt r8) := w9.1
    have p11 : (Int32.toInt r8) ≤ 1 := w9.2
    refine r_if_eq 28 35 C dX10_isWord_28 (by decide) (fun c12 => ?_) (fun c12 => ?_)
    · skip
      have k13 : (Int32.toInt r8) = 0 := (fa_eq r8 0).mp c12
      refine r_iconst 35 0 C dX10_isWord_35 (by decide) ?_
      exact r_zret 36 Rt dX10_isWord_36 (by decide) () (show 0 ≤ (Int32.toInt 0) ∧ (Int32.toInt 0) ≤ 1 from ⟨(by ((repeat' apply And.intro) <;> first | trivial | rfl | assumption | omega | decide | exact Or.inl rfl | exact Or.inr (Or.inl rfl) | exact Or.inr (Or.inr rfl))), (by ((repeat' apply And.intro) <;> first | trivial | rfl | assumption | omega | decide | exact Or.inl rfl | exact Or.inr (Or.inl rfl) | exact Or.inr (Or.inr rfl)))⟩) [0, 1, 2] (by decide) rfl (Nat.le_of_ble_eq_true rfl) (Nat.le_of_ble_eq_true rfl)
    · skip
      have k14 : ¬ ((Int32.toInt r8) = 0) := fun h_9 => c12 ((fa_eq r8 0).mpr h_9)
      refine r_iconst 31 1 C dX10_isWord_31 (by decide) ?_
      refine r_goto 32 36 C dX10_isWord_32 (by decide) ?_
      exact r_zret 36 Rt dX10_isWord_36 (by decide) () (show 0 ≤ (Int32.toInt 1) ∧ (Int32.toInt 1) ≤ 1 from ⟨(by ((repeat' apply And.intro) <;> first | trivial | rfl | assumption | omega | decide | exact Or.inl rfl | exact Or.inr (Or.inl rfl) | exact Or.inr (Or.inr rfl))), (by ((repeat' apply And.intro) <;> first | trivial | rfl | assumption | omega | decide | exact Or.inl rfl | exact Or.inr (Or.inl rfl) | exact Or.inr (Or.inr rfl)))⟩) [0, 1, 2] (by decide) rfl (Nat.le_of_ble_eq_true rfl) (Nat.le_of_ble_eq_true rfl)
set_option maxHeartbeats 4000000 in
set_option maxRecDepth 100000 in
theorem c126_J0_coder_7d493 (l : Launch) (g : GD) (sz : Nat) : Met l yJ0_coder_7d493 wsJ0_coder_7d493 ({ frames := 0, cells := 0, slots := 0, locals := 0 }) (va_Pc [.ref (g.2.2.1 2)] (PW g [] sz)) (va_Qi (fun (r : Int32) (_ : Unit) => r = 0) (BW g (va_A [] sz) (fun _ : Unit => [])) (va_A [] sz)) 0 0 (va_A [] sz) := by
  refine met_b RJ0 (by decide) rfl rfl (Nat.le_of_ble_eq_true rfl) [(0, .ref (g.2.2.1 2))] rfl ?_
  intro p e s m args below meth c A Q C hnm Rt
  refine r_gets 0 C dJ0_coder_7d493_0 C.2.2.2.2.2.1.2.2.2.2.1 (mg 1 rfl) ?_
  refine r_if_eq_f 3 13 C dJ0_coder_7d493_3 (by decide) (by decide) ?_
  refine r_aload_n 6 0 C dJ0_coder_7d493_6 rfl ?_
  refine r_sget 7 2 C dJ0_coder_7d493_7 ((C.2.2.2.2.2.1.2.2.1.1 2 (by decide)).2.1) (mg 2 rfl) ?_
  refine r_goto 10 14 C dJ0_coder_7d493_10 (by decide) ?_
  exact r_bret 14 Rt dJ0_coder_7d493_14 (by decide) () (show 0 = 0 from (by ((repeat' apply And.intro) <;> first | trivial | rfl | assumption | omega | decide | exact Or.inl rfl | exact Or.inr (Or.inl rfl) | exact Or.inr (Or.inr rfl)))) [] (by decide) rfl (Nat.le_of_ble_eq_true rfl) (Nat.le_of_ble_eq_true rfl)
set_option maxHeartbeats 4000000 in
set_option maxRecDepth 100000 in
theorem c127_J0_length_8abf5 (l : Launch) (g : GD) (sz : Nat) : Met l yJ0_length_8abf5 wsJ0_length_8abf5 ({ frames := 1, cells := 0, slots := 0, locals := 20 }) (va_Pc [.ref (g.2.2.1 2)] (PW g [] sz)) (va_Qi (fun (r : Int32) (_ : Unit) => r = 6) (BW g (va_A [] sz) (fun _ : Unit => [])) (va_A [] sz)) 0 0 (va_A [] sz) := by
  refine met_i RJ0 (by decide) rfl rfl (Nat.le_of_ble_eq_true rfl) [(0, .ref (g.2.2.1 2))] rfl ?_
  intro p e s m args below meth c A Q C hnm Rt
  refine r_aload_n 0 0 C dJ0_length_8abf5_0 rfl ?_
  refine r_sget 1 2 C dJ0_length_8abf5_1 ((C.2.2.2.2.2.1.2.2.1.1 2 (by decide)).2.2.1) (mg 1 rfl) ?_
  refine r_stlen 4 6 C dJ0_length_8abf5_4 ((C.2.2.2.2.2.1.2.2.1.1 2 (by decide)).2.2.2) (by decide) ?_
  refine r_aload_n 5 0 C dJ0_length_8abf5_5 rfl ?_
  refine r_scallVi 6 C dJ0_length_8abf5_6 [.int 6] 2 (by decide) [] [] (fun sz => c126_J0_coder_7d493 l g   sz) gJ0_length_8abf5_J0_coder_7d493 rfl ⟨rfl, rfl⟩ 0 (by decide) ⟨Nat.le_of_ble_eq_true rfl, Nat.le_of_ble_eq_true rfl⟩ [] [] rfl rfl (by decide) (by decide) (by decide) rfl rfl (Nat.le_of_ble_eq_true rfl) ⟨Nat.le_of_ble_eq_true rfl, Nat.le_of_ble_eq_true rfl⟩ (fun r1 _ w2 => ?_)
  refine r_ws [] rfl ?_
  have p3 : 0 = r1 := (w2).symm
  subst p3
  refine r_ishr 9 6 C dJ0_length_8abf5_9 (by decide) ?_
  exact r_iret 10 Rt dJ0_length_8abf5_10 () (show 6 = 6 from (by ((repeat' apply And.intro) <;> first | trivial | rfl | assumption | omega | decide | exact Or.inl rfl | exact Or.inr (Or.inl rfl) | exact Or.inr (Or.inr rfl)))) [] (by decide) rfl (Nat.le_of_ble_eq_true rfl) (Nat.le_of_ble_eq_true rfl)
set_option maxHeartbeats 4000000 in
set_option maxRecDepth 100000 in
theorem c128_J0_isLatin1_aae02 (l : Launch) (g : GD) (sz : Nat) : Met l yJ0_isLatin1_aae02 wsJ0_isLatin1_aae02 ({ frames := 0, cells := 0, slots := 0, locals := 0 }) (va_Pc [.ref (g.2.2.1 2)] (PW g [] sz)) (va_Qi (fun (r : Int32) (_ : Unit) => r = 1) (BW g (va_A [] sz) (fun _ : Unit => [])) (va_A [] sz)) 0 0 (va_A [] sz) := by
  refine met_z RJ0 (by decide) rfl rfl (Nat.le_of_ble_eq_true rfl) [(0, .ref (g.2.2.1 2))] rfl ?_
  intro p e s m args below meth c A Q C hnm Rt
  refine r_gets 0 C dJ0_isLatin1_aae02_0 C.2.2.2.2.2.1.2.2.2.2.1 (mg 1 rfl) ?_
  refine r_if_eq_f 3 17 C dJ0_isLatin1_aae02_3 (by decide) (by decide) ?_
  refine r_aload_n 6 0 C dJ0_isLatin1_aae02_6 rfl ?_
  refine r_sget 7 2 C dJ0_isLatin1_aae02_7 ((C.2.2.2.2.2.1.2.2.1.1 2 (by decide)).2.1) (mg 2 rfl) ?_
  refine r_if_ne_f 10 17 C dJ0_isLatin1_aae02_10 (by decide) (by decide) ?_
  refine r_iconst 13 1 C dJ0_isLatin1_aae02_13 (by decide) ?_
  refine r_goto 14 18 C dJ0_isLatin1_aae02_14 (by decide) ?_
  exact r_zret 18 Rt dJ0_isLatin1_aae02_18 (by decide) () (show 1 = 1 from (by ((repeat' apply And.intro) <;> first | trivial | rfl | assumption | omega | decide | exact Or.inl rfl | exact Or.inr (Or.inl rfl) | exact Or.inr (Or.inr rfl)))) [] (by decide) rfl (Nat.le_of_ble_eq_true rfl) (Nat.le_of_ble_eq_true rfl)
set_option maxHeartbeats 4000000 in
set_option maxRecDepth 100000 in
theorem c129_J3_checkIndex_8e157 (l : Launch) (g : GD) (x0 : Int32) (i_x0 : (0 ≤ (Int32.toInt x0) ∧ (Int32.toInt x0) ≤ 5)) (sz : Nat) : Met l yJ3_checkIndex_8e157 wsJ3_checkIndex_8e157 ({ frames := 0, cells := 0, slots := 0, locals := 0 }) (va_Pc [.int x0, .int 6, .null] (PW g [] sz)) (va_Qi (fun (r : Int32) (_ : Unit) => r = x0) (BW g (va_A [] sz) (fun _ : Unit => [])) (va_A [] sz)) 0 0 (va_A [] sz) := by
  refine met_i RJ3 (by decide) rfl rfl (Nat.le_of_ble_eq_true rfl) [(0, .int x0), (1, .int 6), (2, .null)] rfl ?_
  intro p e s m args below meth c A Q C hnm Rt
  refine r_iload_n 0 0 C dJ3_checkIndex_8e157_0 rfl ?_
  refine r_if_lt_f 1 9 C dJ3_checkIndex_8e157_1 (by decide) (fun h_9 => by have h_8 : (Int32.toInt x0) < 0 := (fa_lt x0 0).mp h_9; omega) ?_
  refine r_iload_n 4 0 C dJ3_checkIndex_8e157_4 rfl ?_
  refine r_iload_n 5 1 C dJ3_checkIndex_8e157_5 rfl ?_
  refine r_icmp_lt_t 6 16 C dJ3_checkIndex_8e157_6 (by decide) ((fa_lt x0 6).mpr (by show (Int32.toInt x0) < 6; omega)) ?_
  refine r_iload_n 16 0 C dJ3_checkIndex_8e157_16 rfl ?_
  exact r_iret 17 Rt dJ3_checkIndex_8e157_17 () (show x0 = x0 from (by ((repeat' apply And.intro) <;> first | trivial | rfl | assumption | omega | decide | exact Or.inl rfl | exact Or.inr (Or.inl rfl) | exact Or.inr (Or.inr rfl)))) [] (by decide) rfl (Nat.le_of_ble_eq_true rfl) (Nat.le_of_ble_eq_true rfl)
set_option maxHeartbeats 4000000 in
set_option maxRecDepth 100000 in
theorem c130_J3_checkIndex_8e157 (l : Launch) (g : GD) (x0 : Int32) (h0 : Nat) (i_x0 : (0 ≤ (Int32.toInt x0) ∧ (Int32.toInt x0) ≤ 5)) (sz : Nat) : Met l yJ3_checkIndex_8e157 wsJ3_checkIndex_8e157 ({ frames := 0, cells := 0, slots := 0, locals := 0 }) (va_Pc [.int x0, .int 6, .ref h0] (PW g [] sz)) (va_Qi (fun (r : Int32) (_ : Unit) => r = x0) (BW g (va_A [] sz) (fun _ : Unit => [])) (va_A [] sz)) 0 0 (va_A [] sz) := by
  refine met_i RJ3 (by decide) rfl rfl (Nat.le_of_ble_eq_true rfl) [(0, .int x0), (1, .int 6), (2, .ref h0)] rfl ?_
  intro p e s m args below meth c A Q C hnm Rt
  refine r_iload_n 0 0 C dJ3_checkIndex_8e157_0 rfl ?_
  refine r_if_lt_f 1 9 C dJ3_checkIndex_8e157_1 (by decide) (fun h_9 => by have h_8 : (Int32.toInt x0) < 0 := (fa_lt x0 0).mp h_9; omega) ?_
  refine r_iload_n 4 0 C dJ3_checkIndex_8e157_4 rfl ?_
  refine r_iload_n 5 1 C dJ3_checkIndex_8e157_5 rfl ?_
  refine r_icmp_lt_t 6 16 C dJ3_checkIndex_8e157_6 (by decide) ((fa_lt x0 6).mpr (by show (Int32.toInt x0) < 6; omega)) ?_
  refine r_iload_n 16 0 C dJ3_checkIndex_8e157_16 rfl ?_
  exact r_iret 17 Rt dJ3_checkIndex_8e157_17 () (show x0 = x0 from (by ((repeat' apply And.intro) <;> first | trivial | rfl | assumption | omega | decide | exact Or.inl rfl | exact Or.inr (Or.inl rfl) | exact Or.inr (Or.inr rfl)))) [] (by decide) rfl (Nat.le_of_ble_eq_true rfl) (Nat.le_of_ble_eq_true rfl)
set_option maxHeartbeats 4000000 in
set_option maxRecDepth 100000 in
theorem c131_J0_checkIndex_df160 (l : Launch) (g : GD) (x0 : Int32) (i_x0 : (0 ≤ (Int32.toInt x0) ∧ (Int32.toInt x0) ≤ 5)) (sz : Nat) : Met l yJ0_checkIndex_df160 wsJ0_checkIndex_df160 ({ frames := 1, cells := 0, slots := 0, locals := 22 }) (va_Pc [.int x0, .int 6] (PW g [] sz)) (va_Qv (fun (_ : Unit) => True) (BW g (va_A [] sz) (fun _ : Unit => [])) (va_A [] sz)) 0 0 (va_A [] sz) := by
  refine met_v RJ0 (by decide) rfl rfl (Nat.le_of_ble_eq_true rfl) [(0, .int x0), (1, .int 6)] rfl ?_
  intro p e s m args below meth c A Q C hnm Rt
  refine r_iload_n 0 0 C dJ0_checkIndex_df160_0 rfl ?_
  refine r_iload_n 1 1 C dJ0_checkIndex_df160_1 rfl ?_
  refine r_getsq2 2 C dJ0_checkIndex_df160_2 C.2.2.2.2.2.1.2.2.2.2.2 (mg 1 rfl) ?_ (fun q1 => ?_)
  · skip
    refine r_callSi 5 C dJ0_checkIndex_df160_5 [] [] [] (fun sz => c129_J3_checkIndex_8e157 l g x0 i_x0 sz) gJ0_checkIndex_df160_J3_checkIndex_8e157 rfl ⟨rfl, rfl⟩ 3 (by decide) ⟨Nat.le_of_ble_eq_true rfl, Nat.le_of_ble_eq_true rfl⟩ [] [] rfl rfl (by decide) (by decide) (by decide) rfl rfl (Nat.le_of_ble_eq_true rfl) ⟨Nat.le_of_ble_eq_true rfl, Nat.le_of_ble_eq_true rfl⟩ (fun r2 _ w3 => ?_)
    refine r_ws [] rfl ?_
    have p4 : x0 = r2 := (w3).symm
    subst p4
    refine r_pop 8 C dJ0_checkIndex_df160_8 rfl ?_
    exact r_vret 9 Rt dJ0_checkIndex_df160_9 () trivial [] (by decide) rfl (Nat.le_of_ble_eq_true rfl) (Nat.le_of_ble_eq_true rfl)
  · skip
    refine r_callSi 5 C dJ0_checkIndex_df160_5 [] [] [] (fun sz => c130_J3_checkIndex_8e157 l g x0 q1 i_x0 sz) gJ0_checkIndex_df160_J3_checkIndex_8e157 rfl ⟨rfl, rfl⟩ 3 (by decide) ⟨Nat.le_of_ble_eq_true rfl, Nat.le_of_ble_eq_true rfl⟩ [] [] rfl rfl (by decide) (by decide) (by decide) rfl rfl (Nat.le_of_ble_eq_true rfl) ⟨Nat.le_of_ble_eq_true rfl, Nat.le_of_ble_eq_true rfl⟩ (fun r5 _ w6 => ?_)
    refine r_ws [] rfl ?_
    have p7 : x0 = r5 := (w6).symm
    subst p7
    refine r_pop 8 C dJ0_checkIndex_df160_8 rfl ?_
    exact r_vret 9 Rt dJ0_checkIndex_df160_9 () trivial [] (by decide) rfl (Nat.le_of_ble_eq_true rfl) (Nat.le_of_ble_eq_true rfl)
set_option maxHeartbeats 4000000 in
set_option maxRecDepth 100000 in
theorem c132_J1_charAt_3b067 (l : Launch) (g : GD) (x0 : Int32) (i_x0 : (0 ≤ (Int32.toInt x0) ∧ (Int32.toInt x0) ≤ 5)) (sz : Nat) : Met l yJ1_charAt_3b067 wsJ1_charAt_3b067 ({ frames := 2, cells := 0, slots := 0, locals := 43 }) (va_Pc [.ref (g.2.2.2 2), .int x0] (PW g [] sz)) (va_Qi (fun (r : Int32) (_ : Unit) => 0 ≤ (Int32.toInt r) ∧ (Int32.toInt r) ≤ 65535) (BW g (va_A [] sz) (fun _ : Unit => [])) (va_A [] sz)) 0 0 (va_A [] sz) := by
  refine met_c RJ1 (by decide) rfl rfl (Nat.le_of_ble_eq_true rfl) [(0, .ref (g.2.2.2 2)), (1, .int x0)] rfl ?_
  intro p e s m args below meth c A Q C hnm Rt
  refine r_iload_n 0 1 C dJ1_charAt_3b067_0 rfl ?_
  refine r_aload_n 1 0 C dJ1_charAt_3b067_1 rfl ?_
  refine r_stlen 2 6 C dJ1_charAt_3b067_2 ((C.2.2.2.2.2.1.2.2.1.1 2 (by decide)).2.2.2) (by decide) ?_
  refine r_callSv 3 C dJ1_charAt_3b067_3 [] [] [] (fun sz => c131_J0_checkIndex_df160 l g x0 i_x0 sz) gJ1_charAt_3b067_J0_checkIndex_df160 rfl ⟨rfl, rfl⟩ 2 (by decide) ⟨Nat.le_of_ble_eq_true rfl, Nat.le_of_ble_eq_true rfl⟩ [] [] rfl rfl (by decide) (by decide) (by decide) rfl rfl (Nat.le_of_ble_eq_true rfl) ⟨Nat.le_of_ble_eq_true rfl, Nat.le_of_ble_eq_true rfl⟩ (fun  _ w1 => ?_)
  refine r_ws [] rfl ?_
  refine r_aload_n 6 0 C dJ1_charAt_3b067_6 rfl ?_
  refine r_iload_n 7 1 C dJ1_charAt_3b067_7 rfl ?_
  obtain ⟨z2, ez2⟩ : ∃ z_9, (stB.getD 2 []).getD (Int32.toNatClampNeg x0) 0 = z_9 := ⟨_, rfl⟩
  refine r_stb 8 (.int z2) C dJ1_charAt_3b067_8 ((C.2.2.2.2.2.1.2.2.1.1 2 (by decide)).2.2.2) (vinI (n := 6) (by omega) (by omega)) (by rw [← ez2]) ?_
  have gz2 := fb_rng z2
  refine r_sipush 9 255 C dJ1_charAt_3b067_9 (by decide) ?_
  obtain ⟨z3, ez3⟩ : ∃ z_9, z2 &&& 255 = z_9 := ⟨_, rfl⟩
  have tz3 : 0 ≤ (Int32.toInt z3) ∧ (Int32.toInt z3) ≤ 255 := by rw [← ez3]; exact and_255 z2
  refine r_iand 12 z3 C dJ1_charAt_3b067_12 ez3 ?_
  obtain ⟨z4, ez4⟩ : ∃ z_9, (Int32.toUInt32 z3 % 65536).toInt32 = z_9 := ⟨_, rfl⟩
  have tz4 : 0 ≤ (Int32.toInt z4) ∧ (Int32.toInt z4) ≤ 65535 := by rw [← ez4]; exact chr_in _
  refine r_i2c 13 z4 C dJ1_charAt_3b067_13 ez4 ?_
  exact r_cret 14 Rt dJ1_charAt_3b067_14 (by rw [← ez4]; exact pk_nc _) () (show 0 ≤ (Int32.toInt z4) ∧ (Int32.toInt z4) ≤ 65535 from ⟨(by ((repeat' apply And.intro) <;> first | trivial | rfl | assumption | omega | decide | exact Or.inl rfl | exact Or.inr (Or.inl rfl) | exact Or.inr (Or.inr rfl))), (by ((repeat' apply And.intro) <;> first | trivial | rfl | assumption | omega | decide | exact Or.inl rfl | exact Or.inr (Or.inl rfl) | exact Or.inr (Or.inr rfl)))⟩) [] (by decide) rfl (Nat.le_of_ble_eq_true rfl) (Nat.le_of_ble_eq_true rfl)
set_option maxHeartbeats 4000000 in
set_option maxRecDepth 100000 in
theorem c133_J0_charAt_5068e (l : Launch) (g : GD) (x0 : Int32) (i_x0 : (0 ≤ (Int32.toInt x0) ∧ (Int32.toInt x0) ≤ 5)) (sz : Nat) : Met l yJ0_charAt_5068e wsJ0_charAt_5068e ({ frames := 3, cells := 0, slots := 0, locals := 64 }) (va_Pc [.ref (g.2.2.1 2), .int x0] (PW g [] sz)) (va_Qi (fun (r : Int32) (_ : Unit) => 0 ≤ (Int32.toInt r) ∧ (Int32.toInt r) ≤ 65535) (BW g (va_A [] sz) (fun _ : Unit => [])) (va_A [] sz)) 0 0 (va_A [] sz) := by
  refine met_c RJ0 (by decide) rfl rfl (Nat.le_of_ble_eq_true rfl) [(0, .ref (g.2.2.1 2)), (1, .int x0)] rfl ?_
  intro p e s m args below meth c A Q C hnm Rt
  refine r_aload_n 0 0 C dJ0_charAt_5068e_0 rfl ?_
  refine r_scallVi 1 C dJ0_charAt_5068e_1 [] 2 (by decide) [] [] (fun sz => c128_J0_isLatin1_aae02 l g   sz) gJ0_charAt_5068e_J0_isLatin1_aae02 rfl ⟨rfl, rfl⟩ 0 (by decide) ⟨Nat.le_of_ble_eq_true rfl, Nat.le_of_ble_eq_true rfl⟩ [] [] rfl rfl (by decide) (by decide) (by decide) rfl rfl (Nat.le_of_ble_eq_true rfl) ⟨Nat.le_of_ble_eq_true rfl, Nat.le_of_ble_eq_true rfl⟩ (fun r1 _ w2 => ?_)
  refine r_ws [] rfl ?_
  have p3 : 1 = r1 := (w2).symm
  subst p3
  refine r_if_eq_f 4 16 C dJ0_charAt_5068e_4 (by decide) (by decide) ?_
  refine r_aload_n 7 0 C dJ0_charAt_5068e_7 rfl ?_
  refine r_sget 8 2 C dJ0_charAt_5068e_8 ((C.2.2.2.2.2.1.2.2.1.1 2 (by decide)).2.2.1) (mg 1 rfl) ?_
  refine r_iload_n 11 1 C dJ0_charAt_5068e_11 rfl ?_
  refine r_callSi 12 C dJ0_charAt_5068e_12 [] [] [] (fun sz => c132_J1_charAt_3b067 l g x0 i_x0 sz) gJ0_charAt_5068e_J1_charAt_3b067 rfl ⟨rfl, rfl⟩ 2 (by decide) ⟨Nat.le_of_ble_eq_true rfl, Nat.le_of_ble_eq_true rfl⟩ [] [] rfl rfl (by decide) (by decide) (by decide) rfl rfl (Nat.le_of_ble_eq_true rfl) ⟨Nat.le_of_ble_eq_true rfl, Nat.le_of_ble_eq_true rfl⟩ (fun r4 _ w5 => ?_)
  refine r_ws [] rfl ?_
  have p6 : 0 ≤ (Int32.toInt r4) := w5.1
  have p7 : (Int32.toInt r4) ≤ 65535 := w5.2
  exact r_cret 15 Rt dJ0_charAt_5068e_15 (nc_in (by omega) (by omega)) () (show 0 ≤ (Int32.toInt r4) ∧ (Int32.toInt r4) ≤ 65535 from ⟨(show _ ∧ _ from ⟨p6, p7⟩).1, (show _ ∧ _ from ⟨p6, p7⟩).2⟩) [] (by decide) rfl (Nat.le_of_ble_eq_true rfl) (Nat.le_of_ble_eq_true rfl)
set_option maxHeartbeats 4000000 in
set_option maxRecDepth 100000 in
theorem c134_X10_isAt (l : Launch) (g : GD) (h0 : Nat) (h1 : Nat) (x0 : Int32) (x1 : Int32) (fn0 : Nat → Int32) (i_x1 : (0 ≤ (Int32.toInt x1) ∧ (Int32.toInt x1) ≤ 1500)) (sz : Nat) : Met l yX10_isAt wsX10_isAt ({ frames := 4, cells := 0, slots := 0, locals := 85 }) (va_Pc [.ref h0, .int x0, .ref (g.2.2.1 2)] (PW g [(h0, .inr (4, [.ref h1, .int x1])), (h1, .inl (gB g, 1500, .inl fn0))] sz)) (va_Qi (fun (r : Int32) (_ : Unit) => 0 ≤ (Int32.toInt r) ∧ (Int32.toInt r) ≤ 1) (BW g (va_A [(h0, .inr (4, [.ref h1, .int x1])), (h1, .inl (gB g, 1500, .inl fn0))] sz) (fun _ : Unit => [(h0, .inr (4, [.ref h1, .int x1])), (h1, .inl (gB g, 1500, .inl fn0))])) (va_A [(h0, .inr (4, [.ref h1, .int x1])), (h1, .inl (gB g, 1500, .inl fn0))] sz)) 0 0 (va_A [(h0, .inr (4, [.ref h1, .int x1])), (h1, .inl (gB g, 1500, .inl fn0))] sz) := by
  refine met_z RX10 (by decide) rfl rfl (Nat.le_of_ble_eq_true rfl) [(0, .ref h0), (1, .int x0), (2, .ref (g.2.2.1 2))] rfl ?_
  intro p e s m args below meth c A Q C hnm Rt
  refine r_iconst 0 0 C dX10_isAt_0 (by decide) ?_
  refine r_istore_n 1 C dX10_isAt_1 [(3, .int 0), (0, .ref h0), (1, .int x0), (2, .ref (g.2.2.1 2))] (by decide) rfl ?_
  have lp3 : ∀ (n2 : Nat) (z1 : Int32), (0 ≤ (Int32.toInt z1) ∧ (Int32.toInt z1) ≤ 6) → Int.toNat (6 - (Int32.toInt z1)) < n2 → WW p l e ({ frames := 4, cells := 0, slots := 0, locals := 85 } : Room) s m args below meth c A Q g 4 0 0 [(h0, .inr (4, [.ref h1, .int x1])), (h1, .inl (gB g, 1500, .inl fn0))] 2 [(3, .int z1), (0, .ref h0), (1, .int x0), (2, .ref (g.2.2.1 2))] [] := by
    intro n2
    induction n2 with
    | zero => intro z1 i6 hm5; exact absurd hm5 (Nat.not_lt_zero _)
    | succ n2 ih4 =>
      intro z1 i6 hm5
      obtain ⟨i6a, i6b⟩ := i6
      refine r_iload_n 2 0 C dX10_isAt_2 rfl ?_
      refine r_aload_n 3 3 C dX10_isAt_3 rfl ?_
      refine r_scallVi 4 C dX10_isAt_4 [.int z1] 2 (by decide) [] [(h0, .inr (4, [.ref h1, .int x1])), (h1, .inl (gB g, 1500, .inl fn0))] (fun sz => c127_J0_length_8abf5 l g   sz) gX10_isAt_J0_length_8abf5 rfl ⟨rfl, rfl⟩ 0 (by decide) ⟨Nat.le_of_ble_eq_true rfl, Nat.le_of_ble_eq_true rfl⟩ [] [0, 1] rfl rfl (by decide) (by decide) (by decide) rfl rfl (Nat.le_of_ble_eq_true rfl) ⟨Nat.le_of_ble_eq_true rfl, Nat.le_of_ble_eq_true rfl⟩ (fun r7 _ w8 => ?_)
      refine r_ws [(h0, .inr (4, [.ref h1, .int x1])), (h1, .inl (gB g, 1500, .inl fn0))] rfl ?_
      have p9 : 6 = r7 := (w8).symm
      subst p9
      refine r_icmp_ge 7 34 C dX10_isAt_7 (by decide) (fun c10 => ?_) (fun c10 => ?_)
      · skip
        have k11 : 6 ≤ (Int32.toInt z1) := (fa_le 6 z1).mp c10
        refine r_iconst 34 1 C dX10_isAt_34 (by decide) ?_
        exact r_zret 35 Rt dX10_isAt_35 (by decide) () (show 0 ≤ (Int32.toInt 1) ∧ (Int32.toInt 1) ≤ 1 from ⟨(by ((repeat' apply And.intro) <;> first | trivial | rfl | assumption | omega | decide | exact Or.inl rfl | exact Or.inr (Or.inl rfl) | exact Or.inr (Or.inr rfl))), (by ((repeat' apply And.intro) <;> first | trivial | rfl | assumption | omega | decide | exact Or.inl rfl | exact Or.inr (Or.inl rfl) | exact Or.inr (Or.inr rfl)))⟩) [0, 1] (by decide) rfl (Nat.le_of_ble_eq_true rfl) (Nat.le_of_ble_eq_true rfl)
      · skip
        have k12 : ¬ (6 ≤ (Int32.toInt z1)) := fun h_9 => c10 ((fa_le 6 z1).mpr h_9)
        refine r_aload_n 10 1 C dX10_isAt_10 rfl ?_
        refine r_iload_n 11 2 C dX10_isAt_11 rfl ?_
        refine r_iload_n 12 0 C dX10_isAt_12 rfl ?_
        obtain ⟨z13, ez13⟩ : ∃ z_9, x0 + z1 = z_9 := ⟨_, rfl⟩
        have gz13 := fb_rng z13
        refine r_iadd 13 z13 C dX10_isAt_13 ez13 ?_
        obtain ⟨z14, ez14⟩ : ∃ z_9, Int32.toInt64 z13 = z_9 := ⟨_, rfl⟩
        have tz14 : (Int64.toInt z14) = (Int32.toInt z13) := by rw [← ez14]; exact Int32.toInt_toInt64 _
        refine r_i2l 14 z14 C dX10_isAt_14 ez14 ?_
        refine r_callVi 15 C dX10_isAt_15 [] [(h0, .inr (4, [.ref h1, .int x1])), (h1, .inl (gB g, 1500, .inl fn0))] [] (fun sz => c14_X5_get l g h0 h1 z14 x1 fn0 i_x1 sz) gX10_isAt_X5_get rfl ⟨rfl, rfl⟩ 1 (by decide) ⟨Nat.le_of_ble_eq_true rfl, Nat.le_of_ble_eq_true rfl⟩ 0 rfl rfl [0, 1] [] rfl rfl (by decide) (by decide) (by decide) rfl rfl (Nat.le_of_ble_eq_true rfl) ⟨Nat.le_of_ble_eq_true rfl, Nat.le_of_ble_eq_true rfl⟩ (fun r15 _ w16 => ?_)
        refine r_ws [(h0, .inr (4, [.ref h1, .int x1])), (h1, .inl (gB g, 1500, .inl fn0))] rfl ?_
        have p17 : -1 ≤ (Int32.toInt r15) := w16.1
        have p18 : (Int32.toInt r15) ≤ 255 := w16.2
        refine r_aload_n 18 3 C dX10_isAt_18 rfl ?_
        refine r_iload_n 19 0 C dX10_isAt_19 rfl ?_
        refine r_scallVi 20 C dX10_isAt_20 [.int r15] 2 (by decide) [] [(h0, .inr (4, [.ref h1, .int x1])), (h1, .inl (gB g, 1500, .inl fn0))] (fun sz => c133_J0_charAt_5068e l g z1 ⟨by omega, by omega⟩ sz) gX10_isAt_J0_charAt_5068e rfl ⟨rfl, rfl⟩ 1 (by decide) ⟨Nat.le_of_ble_eq_true rfl, Nat.le_of_ble_eq_true rfl⟩ [] [0, 1] rfl rfl (by decide) (by decide) (by decide) rfl rfl (Nat.le_of_ble_eq_true rfl) ⟨Nat.le_of_ble_eq_true rfl, Nat.le_of_ble_eq_true rfl⟩ (fun r19 _ w20 => ?_)
        refine r_ws [(h0, .inr (4, [.ref h1, .int x1])), (h1, .inl (gB g, 1500, .inl fn0))] rfl ?_
        have p21 : 0 ≤ (Int32.toInt r19) := w20.1
        have p22 : (Int32.toInt r19) ≤ 65535 := w20.2
        refine r_icmp_eq 23 28 C dX10_isAt_23 (by decide) (fun c23 => ?_) (fun c23 => ?_)
        · skip
          have k24 : (Int32.toInt r15) = (Int32.toInt r19) := (fa_eq r15 r19).mp c23
          obtain ⟨z25, ez25⟩ : ∃ z_9, z1 + Int32.ofInt 1 = z_9 := ⟨_, rfl⟩
          have tz25 : (Int32.toInt z25) = (Int32.toInt z1) + 1 := by rw [← ez25]; exact fb_addIv (a := 0) (b := 6) (c := 1) (d := 1) ⟨i6a, i6b⟩ ⟨by decide, by decide⟩ (by decide) (by decide)
          refine r_iinc 28 0 z25 C dX10_isAt_28 rfl ez25 [(3, .int z25), (0, .ref h0), (1, .int x0), (2, .ref (g.2.2.1 2))] (by decide) rfl ?_
          refine r_goto 31 2 C dX10_isAt_31 (by decide) ?_
          exact ih4 z25 ⟨by omega, by omega⟩ (by omega)
        · skip
          have k26 : ¬ ((Int32.toInt r15) = (Int32.toInt r19)) := fun h_9 => c23 ((fa_eq r15 r19).mpr h_9)
          refine r_iconst 26 0 C dX10_isAt_26 (by decide) ?_
          exact r_zret 27 Rt dX10_isAt_27 (by decide) () (show 0 ≤ (Int32.toInt 0) ∧ (Int32.toInt 0) ≤ 1 from ⟨(by ((repeat' apply And.intro) <;> first | trivial | rfl | assumption | omega | decide | exact Or.inl rfl | exact Or.inr (Or.inl rfl) | exact Or.inr (Or.inr rfl))), (by ((repeat' apply And.intro) <;> first | trivial | rfl | assumption | omega | decide | exact Or.inl rfl | exact Or.inr (Or.inl rfl) | exact Or.inr (Or.inr rfl)))⟩) [0, 1] (by decide) rfl (Nat.le_of_ble_eq_true rfl) (Nat.le_of_ble_eq_true rfl)
  exact lp3 _ 0 (by decide) (Nat.lt_succ_self _)
set_option maxHeartbeats 4000000 in
set_option maxRecDepth 100000 in
theorem c135_X10_isWord (l : Launch) (g : GD) (h0 : Nat) (h1 : Nat) (h2 : Nat) (h3 : Nat) (x0 : Int32) (x1 : Int32) (x2 : Int32) (x3 : Int32) (x4 : Int32) (x5 : Int32) (x6 : Int32) (x7 : Int32) (x8 : Int32) (fn0 : Nat → Int32) (i_x4 : (0 ≤ (Int32.toInt x4) ∧ (Int32.toInt x4) ≤ 1)) (i_x8 : (0 ≤ (Int32.toInt x8) ∧ (Int32.toInt x8) ≤ 1500)) (sz : Nat) : Met l yX10_isWord wsX10_isWord ({ frames := 5, cells := 0, slots := 0, locals := 108 }) (va_Pc [.ref h0, .ref (g.2.2.1 2)] (PW g [(h0, .inr (9, [.ref h3, .ref h1, .int x0, .int x1, .int x2, .int x3, .int x4, .int x5, .int x6, .int x7])), (h1, .inr (4, [.ref h2, .int x8])), (h2, .inl (gB g, 1500, .inl fn0))] sz)) (va_Qi (fun (r : Int32) (_ : Unit) => 0 ≤ (Int32.toInt r) ∧ (Int32.toInt r) ≤ 1) (BW g (va_A [(h0, .inr (9, [.ref h3, .ref h1, .int x0, .int x1, .int x2, .int x3, .int x4, .int x5, .int x6, .int x7])), (h1, .inr (4, [.ref h2, .int x8])), (h2, .inl (gB g, 1500, .inl fn0))] sz) (fun _ : Unit => [(h0, .inr (9, [.ref h3, .ref h1, .int x0, .int x1, .int x2, .int x3, .int x4, .int x5, .int x6, .int x7])), (h1, .inr (4, [.ref h2, .int x8])), (h2, .inl (gB g, 1500, .inl fn0))])) (va_A [(h0, .inr (9, [.ref h3, .ref h1, .int x0, .int x1, .int x2, .int x3, .int x4, .int x5, .int x6, .int x7])), (h1, .inr (4, [.ref h2, .int x8])), (h2, .inl (gB g, 1500, .inl fn0))] sz)) 0 0 (va_A [(h0, .inr (9, [.ref h3, .ref h1, .int x0, .int x1, .int x2, .int x3, .int x4, .int x5, .int x6, .int x7])), (h1, .inr (4, [.ref h2, .int x8])), (h2, .inl (gB g, 1500, .inl fn0))] sz) := by
  refine met_z RX10 (by decide) rfl rfl (Nat.le_of_ble_eq_true rfl) [(0, .ref h0), (1, .ref (g.2.2.1 2))] rfl ?_
  intro p e s m args below meth c A Q C hnm Rt
  have hiX10 : ∀ w ∈ wsX100, w ∈ wsX10_isWord := fun w h => List.mem_cons_of_mem _ (List.mem_append_left _ (List.mem_append_right _ (h)))
  refine r_aload_n 0 0 C dX10_isWord_0 rfl ?_
  refine r_get 1 C dX10_isWord_1 (k := 4) 0 rfl rfl hiX10 (by decide) rfl (mg 1 rfl) (Or.inl rfl) rfl ?_
  refine r_aload_n 4 0 C dX10_isWord_4 rfl ?_
  refine r_get 5 C dX10_isWord_5 (k := 3) 0 rfl rfl hiX10 (by decide) rfl (mg 2 rfl) (Or.inl rfl) rfl ?_
  obtain ⟨z1, ez1⟩ : ∃ z_9, x2 - x1 = z_9 := ⟨_, rfl⟩
  have gz1 := fb_rng z1
  refine r_isub 8 z1 C dX10_isWord_8 ez1 ?_
  refine r_aload_n 9 1 C dX10_isWord_9 rfl ?_
  refine r_scallVi 10 C dX10_isWord_10 [.int z1] 2 (by decide) [] [(h0, .inr (9, [.ref h3, .ref h1, .int x0, .int x1, .int x2, .int x3, .int x4, .int x5, .int x6, .int x7])), (h1, .inr (4, [.ref h2, .int x8])), (h2, .inl (gB g, 1500, .inl fn0))] (fun sz => c127_J0_length_8abf5 l g   sz) gX10_isWord_J0_length_8abf5 rfl ⟨rfl, rfl⟩ 0 (by decide) ⟨Nat.le_of_ble_eq_true rfl, Nat.le_of_ble_eq_true rfl⟩ [] [0, 1, 2] rfl rfl (by decide) (by decide) (by decide) rfl rfl (Nat.le_of_ble_eq_true rfl) ⟨Nat.le_of_ble_eq_true rfl, Nat.le_of_ble_eq_true rfl⟩ (fun r2 _ w3 => ?_)
  refine r_ws [(h0, .inr (9, [.ref h3, .ref h1, .int x0, .int x1, .int x2, .int x3, .int x4, .int x5, .int x6, .int x7])), (h1, .inr (4, [.ref h2, .int x8])), (h2, .inl (gB g, 1500, .inl fn0))] rfl ?_
  have p4 : 6 = r2 := (w3).symm
  subst p4
  refine r_icmp_ne 13 35 C dX10_isWord_13 (by decide) (fun c5 => ?_) (fun c5 => ?_)
  · skip
    have k6 : ¬ ((Int32.toInt z1) = 6) := fun h_9 => c5 ((fa_eq z1 6).mpr h_9)
    refine r_iconst 35 0 C dX10_isWord_35 (by decide) ?_
    exact r_zret 36 Rt dX10_isWord_36 (by decide) () (show 0 ≤ (Int32.toInt 0) ∧ (Int32.toInt 0) ≤ 1 from ⟨(by ((repeat' apply And.intro) <;> first | trivial | rfl | assumption | omega | decide | exact Or.inl rfl | exact Or.inr (Or.inl rfl) | exact Or.inr (Or.inr rfl))), (by ((repeat' apply And.intro) <;> first | trivial | rfl | assumption | omega | decide | exact Or.inl rfl | exact Or.inr (Or.inl rfl) | exact Or.inr (Or.inr rfl)))⟩) [0, 1, 2] (by decide) rfl (Nat.le_of_ble_eq_true rfl) (Nat.le_of_ble_eq_true rfl)
  · skip
    have k7 : (Int32.toInt z1) = 6 := (fa_eq z1 6).mp c5
    refine r_aload_n 16 0 C dX10_isWord_16 rfl ?_
    refine r_get 17 C dX10_isWord_17 (k := 1) 0 rfl rfl hiX10 (by decide) rfl (mg 3 rfl) (Or.inl rfl) rfl ?_
    refine r_aload_n 20 0 C dX10_isWord_20 rfl ?_
    refine r_get 21 C dX10_isWord_21 (k := 3) 0 rfl rfl hiX10 (by decide) rfl (mg 2 rfl) (Or.inl rfl) rfl ?_
    refine r_aload_n 24 1 C dX10_isWord_24 rfl ?_
    refine r_callSi 25 C dX10_isWord_25 [] [(h1, .inr (4, [.ref h2, .int x8])), (h2, .inl (gB g, 1500, .inl fn0))] [(h0, .inr (9, [.ref h3, .ref h1, .int x0, .int x1, .int x2, .int x3, .int x4, .int x5, .int x6, .int x7]))] (fun sz => c134_X10_isAt l g h1 h2 x1 x8 fn0 i_x8 sz) gX10_isWord_X10_isAt rfl ⟨rfl, rfl⟩ 3 (by decide) ⟨Nat.le_of_ble_eq_true rfl, Nat.le_of_ble_eq_true rfl⟩ [1, 2] [0] rfl rfl (by decide) (by decide) (by decide) rfl rfl (Nat.le_of_ble_eq_true rfl) ⟨Nat.le_of_ble_eq_true rfl, Nat.le_of_ble_eq_true rfl⟩ (fun r8 _ w9 => ?_)
    refine r_ws [(h0, .inr (9, [.ref h3, .ref h1, .int x0, .int x1, .int x2, .int x3, .int x4, .int x5, .int x6, .int x7])), (h1, .inr (4, [.ref h2, .int x8])), (h2, .inl (gB g, 1500, .inl fn0))] rfl ?_
    have p10 : 0 ≤ (Int32.toInt r8) := w9.1
    have p11 : (Int32.toInt r8) ≤ 1 := w9.2
    refine r_if_eq 28 35 C dX10_isWord_28 (by decide) (fun c12 => ?_) (fun c12 => ?_)
    · skip
      have k13 : (Int32.toInt r8) = 0 := (fa_eq r8 0).mp c12
      refine r_iconst 35 0 C dX10_isWord_35 (by decide) ?_
      exact r_zret 36 Rt dX10_isWord_36 (by decide) () (show 0 ≤ (Int32.toInt 0) ∧ (Int32.toInt 0) ≤ 1 from ⟨(by ((repeat' apply And.intro) <;> first | trivial | rfl | assumption | omega | decide | exact Or.inl rfl | exact Or.inr (Or.inl rfl) | exact Or.inr (Or.inr rfl))), (by ((repeat' apply And.intro) <;> first | trivial | rfl | assumption | omega | decide | exact Or.inl rfl | exact Or.inr (Or.inl rfl) | exact Or.inr (Or.inr rfl)))⟩) [0, 1, 2] (by decide) rfl (Nat.le_of_ble_eq_true rfl) (Nat.le_of_ble_eq_true rfl)
    · skip
      have k14 : ¬ ((Int32.toInt r8) = 0) := fun h_9 => c12 ((fa_eq r8 0).mpr h_9)
      refine r_iconst 31 1 C dX10_isWord_31 (by decide) ?_
      refine r_goto 32 36 C dX10_isWord_32 (by decide) ?_
      exact r_zret 36 Rt dX10_isWord_36 (by decide) () (show 0 ≤ (Int32.toInt 1) ∧ (Int32.toInt 1) ≤ 1 from ⟨(by ((repeat' apply And.intro) <;> first | trivial | rfl | assumption | omega | decide | exact Or.inl rfl | exact Or.inr (Or.inl rfl) | exact Or.inr (Or.inr rfl))), (by ((repeat' apply And.intro) <;> first | trivial | rfl | assumption | omega | decide | exact Or.inl rfl | exact Or.inr (Or.inl rfl) | exact Or.inr (Or.inr rfl)))⟩) [0, 1, 2] (by decide) rfl (Nat.le_of_ble_eq_true rfl) (Nat.le_of_ble_eq_true rfl)
set_option maxHeartbeats 4000000 in
set_option maxRecDepth 100000 in
theorem c136_J0_coder_7d493 (l : Launch) (g : GD) (sz : Nat) : Met l yJ0_coder_7d493 wsJ0_coder_7d493 ({ frames := 0, cells := 0, slots := 0, locals := 0 }) (va_Pc [.ref (g.2.2.1 3)] (PW g [] sz)) (va_Qi (fun (r : Int32) (_ : Unit) => r = 0) (BW g (va_A [] sz) (fun _ : Unit => [])) (va_A [] sz)) 0 0 (va_A [] sz) := by
  refine met_b RJ0 (by decide) rfl rfl (Nat.le_of_ble_eq_true rfl) [(0, .ref (g.2.2.1 3))] rfl ?_
  intro p e s m args below meth c A Q C hnm Rt
  refine r_gets 0 C dJ0_coder_7d493_0 C.2.2.2.2.2.1.2.2.2.2.1 (mg 1 rfl) ?_
  refine r_if_eq_f 3 13 C dJ0_coder_7d493_3 (by decide) (by decide) ?_
  refine r_aload_n 6 0 C dJ0_coder_7d493_6 rfl ?_
  refine r_sget 7 3 C dJ0_coder_7d493_7 ((C.2.2.2.2.2.1.2.2.1.1 3 (by decide)).2.1) (mg 2 rfl) ?_
  refine r_goto 10 14 C dJ0_coder_7d493_10 (by decide) ?_
  exact r_bret 14 Rt dJ0_coder_7d493_14 (by decide) () (show 0 = 0 from (by ((repeat' apply And.intro) <;> first | trivial | rfl | assumption | omega | decide | exact Or.inl rfl | exact Or.inr (Or.inl rfl) | exact Or.inr (Or.inr rfl)))) [] (by decide) rfl (Nat.le_of_ble_eq_true rfl) (Nat.le_of_ble_eq_true rfl)
set_option maxHeartbeats 4000000 in
set_option maxRecDepth 100000 in
theorem c137_J0_length_8abf5 (l : Launch) (g : GD) (sz : Nat) : Met l yJ0_length_8abf5 wsJ0_length_8abf5 ({ frames := 1, cells := 0, slots := 0, locals := 20 }) (va_Pc [.ref (g.2.2.1 3)] (PW g [] sz)) (va_Qi (fun (r : Int32) (_ : Unit) => r = 6) (BW g (va_A [] sz) (fun _ : Unit => [])) (va_A [] sz)) 0 0 (va_A [] sz) := by
  refine met_i RJ0 (by decide) rfl rfl (Nat.le_of_ble_eq_true rfl) [(0, .ref (g.2.2.1 3))] rfl ?_
  intro p e s m args below meth c A Q C hnm Rt
  refine r_aload_n 0 0 C dJ0_length_8abf5_0 rfl ?_
  refine r_sget 1 3 C dJ0_length_8abf5_1 ((C.2.2.2.2.2.1.2.2.1.1 3 (by decide)).2.2.1) (mg 1 rfl) ?_
  refine r_stlen 4 6 C dJ0_length_8abf5_4 ((C.2.2.2.2.2.1.2.2.1.1 3 (by decide)).2.2.2) (by decide) ?_
  refine r_aload_n 5 0 C dJ0_length_8abf5_5 rfl ?_
  refine r_scallVi 6 C dJ0_length_8abf5_6 [.int 6] 3 (by decide) [] [] (fun sz => c136_J0_coder_7d493 l g   sz) gJ0_length_8abf5_J0_coder_7d493 rfl ⟨rfl, rfl⟩ 0 (by decide) ⟨Nat.le_of_ble_eq_true rfl, Nat.le_of_ble_eq_true rfl⟩ [] [] rfl rfl (by decide) (by decide) (by decide) rfl rfl (Nat.le_of_ble_eq_true rfl) ⟨Nat.le_of_ble_eq_true rfl, Nat.le_of_ble_eq_true rfl⟩ (fun r1 _ w2 => ?_)
  refine r_ws [] rfl ?_
  have p3 : 0 = r1 := (w2).symm
  subst p3
  refine r_ishr 9 6 C dJ0_length_8abf5_9 (by decide) ?_
  exact r_iret 10 Rt dJ0_length_8abf5_10 () (show 6 = 6 from (by ((repeat' apply And.intro) <;> first | trivial | rfl | assumption | omega | decide | exact Or.inl rfl | exact Or.inr (Or.inl rfl) | exact Or.inr (Or.inr rfl)))) [] (by decide) rfl (Nat.le_of_ble_eq_true rfl) (Nat.le_of_ble_eq_true rfl)
set_option maxHeartbeats 4000000 in
set_option maxRecDepth 100000 in
theorem c138_J0_isLatin1_aae02 (l : Launch) (g : GD) (sz : Nat) : Met l yJ0_isLatin1_aae02 wsJ0_isLatin1_aae02 ({ frames := 0, cells := 0, slots := 0, locals := 0 }) (va_Pc [.ref (g.2.2.1 3)] (PW g [] sz)) (va_Qi (fun (r : Int32) (_ : Unit) => r = 1) (BW g (va_A [] sz) (fun _ : Unit => [])) (va_A [] sz)) 0 0 (va_A [] sz) := by
  refine met_z RJ0 (by decide) rfl rfl (Nat.le_of_ble_eq_true rfl) [(0, .ref (g.2.2.1 3))] rfl ?_
  intro p e s m args below meth c A Q C hnm Rt
  refine r_gets 0 C dJ0_isLatin1_aae02_0 C.2.2.2.2.2.1.2.2.2.2.1 (mg 1 rfl) ?_
  refine r_if_eq_f 3 17 C dJ0_isLatin1_aae02_3 (by decide) (by decide) ?_
  refine r_aload_n 6 0 C dJ0_isLatin1_aae02_6 rfl ?_
  refine r_sget 7 3 C dJ0_isLatin1_aae02_7 ((C.2.2.2.2.2.1.2.2.1.1 3 (by decide)).2.1) (mg 2 rfl) ?_
  refine r_if_ne_f 10 17 C dJ0_isLatin1_aae02_10 (by decide) (by decide) ?_
  refine r_iconst 13 1 C dJ0_isLatin1_aae02_13 (by decide) ?_
  refine r_goto 14 18 C dJ0_isLatin1_aae02_14 (by decide) ?_
  exact r_zret 18 Rt dJ0_isLatin1_aae02_18 (by decide) () (show 1 = 1 from (by ((repeat' apply And.intro) <;> first | trivial | rfl | assumption | omega | decide | exact Or.inl rfl | exact Or.inr (Or.inl rfl) | exact Or.inr (Or.inr rfl)))) [] (by decide) rfl (Nat.le_of_ble_eq_true rfl) (Nat.le_of_ble_eq_true rfl)
set_option maxHeartbeats 4000000 in
set_option maxRecDepth 100000 in
theorem c139_J1_charAt_3b067 (l : Launch) (g : GD) (x0 : Int32) (i_x0 : (0 ≤ (Int32.toInt x0) ∧ (Int32.toInt x0) ≤ 5)) (sz : Nat) : Met l yJ1_charAt_3b067 wsJ1_charAt_3b067 ({ frames := 2, cells := 0, slots := 0, locals := 43 }) (va_Pc [.ref (g.2.2.2 3), .int x0] (PW g [] sz)) (va_Qi (fun (r : Int32) (_ : Unit) => 0 ≤ (Int32.toInt r) ∧ (Int32.toInt r) ≤ 65535) (BW g (va_A [] sz) (fun _ : Unit => [])) (va_A [] sz)) 0 0 (va_A [] sz) := by
  refine met_c RJ1 (by decide) rfl rfl (Nat.le_of_ble_eq_true rfl) [(0, .ref (g.2.2.2 3)), (1, .int x0)] rfl ?_
  intro p e s m args below meth c A Q C hnm Rt
  refine r_iload_n 0 1 C dJ1_charAt_3b067_0 rfl ?_
  refine r_aload_n 1 0 C dJ1_charAt_3b067_1 rfl ?_
  refine r_stlen 2 6 C dJ1_charAt_3b067_2 ((C.2.2.2.2.2.1.2.2.1.1 3 (by decide)).2.2.2) (by decide) ?_
  refine r_callSv 3 C dJ1_charAt_3b067_3 [] [] [] (fun sz => c131_J0_checkIndex_df160 l g x0 i_x0 sz) gJ1_charAt_3b067_J0_checkIndex_df160 rfl ⟨rfl, rfl⟩ 2 (by decide) ⟨Nat.le_of_ble_eq_true rfl, Nat.le_of_ble_eq_true rfl⟩ [] [] rfl rfl (by decide) (by decide) (by decide) rfl rfl (Nat.le_of_ble_eq_true rfl) ⟨Nat.le_of_ble_eq_true rfl, Nat.le_of_ble_eq_true rfl⟩ (fun  _ w1 => ?_)
  refine r_ws [] rfl ?_
  refine r_aload_n 6 0 C dJ1_charAt_3b067_6 rfl ?_
  refine r_iload_n 7 1 C dJ1_charAt_3b067_7 rfl ?_
  obtain ⟨z2, ez2⟩ : ∃ z_9, (stB.getD 3 []).getD (Int32.toNatClampNeg x0) 0 = z_9 := ⟨_, rfl⟩
  refine r_stb 8 (.int z2) C dJ1_charAt_3b067_8 ((C.2.2.2.2.2.1.2.2.1.1 3 (by decide)).2.2.2) (vinI (n := 6) (by omega) (by omega)) (by rw [← ez2]) ?_
  have gz2 := fb_rng z2
  refine r_sipush 9 255 C dJ1_charAt_3b067_9 (by decide) ?_
  obtain ⟨z3, ez3⟩ : ∃ z_9, z2 &&& 255 = z_9 := ⟨_, rfl⟩
  have tz3 : 0 ≤ (Int32.toInt z3) ∧ (Int32.toInt z3) ≤ 255 := by rw [← ez3]; exact and_255 z2
  refine r_iand 12 z3 C dJ1_charAt_3b067_12 ez3 ?_
  obtain ⟨z4, ez4⟩ : ∃ z_9, (Int32.toUInt32 z3 % 65536).toInt32 = z_9 := ⟨_, rfl⟩
  have tz4 : 0 ≤ (Int32.toInt z4) ∧ (Int32.toInt z4) ≤ 65535 := by rw [← ez4]; exact chr_in _
  refine r_i2c 13 z4 C dJ1_charAt_3b067_13 ez4 ?_
  exact r_cret 14 Rt dJ1_charAt_3b067_14 (by rw [← ez4]; exact pk_nc _) () (show 0 ≤ (Int32.toInt z4) ∧ (Int32.toInt z4) ≤ 65535 from ⟨(by ((repeat' apply And.intro) <;> first | trivial | rfl | assumption | omega | decide | exact Or.inl rfl | exact Or.inr (Or.inl rfl) | exact Or.inr (Or.inr rfl))), (by ((repeat' apply And.intro) <;> first | trivial | rfl | assumption | omega | decide | exact Or.inl rfl | exact Or.inr (Or.inl rfl) | exact Or.inr (Or.inr rfl)))⟩) [] (by decide) rfl (Nat.le_of_ble_eq_true rfl) (Nat.le_of_ble_eq_true rfl)
set_option maxHeartbeats 4000000 in
set_option maxRecDepth 100000 in
theorem c140_J0_charAt_5068e (l : Launch) (g : GD) (x0 : Int32) (i_x0 : (0 ≤ (Int32.toInt x0) ∧ (Int32.toInt x0) ≤ 5)) (sz : Nat) : Met l yJ0_charAt_5068e wsJ0_charAt_5068e ({ frames := 3, cells := 0, slots := 0, locals := 64 }) (va_Pc [.ref (g.2.2.1 3), .int x0] (PW g [] sz)) (va_Qi (fun (r : Int32) (_ : Unit) => 0 ≤ (Int32.toInt r) ∧ (Int32.toInt r) ≤ 65535) (BW g (va_A [] sz) (fun _ : Unit => [])) (va_A [] sz)) 0 0 (va_A [] sz) := by
  refine met_c RJ0 (by decide) rfl rfl (Nat.le_of_ble_eq_true rfl) [(0, .ref (g.2.2.1 3)), (1, .int x0)] rfl ?_
  intro p e s m args below meth c A Q C hnm Rt
  refine r_aload_n 0 0 C dJ0_charAt_5068e_0 rfl ?_
  refine r_scallVi 1 C dJ0_charAt_5068e_1 [] 3 (by decide) [] [] (fun sz => c138_J0_isLatin1_aae02 l g   sz) gJ0_charAt_5068e_J0_isLatin1_aae02 rfl ⟨rfl, rfl⟩ 0 (by decide) ⟨Nat.le_of_ble_eq_true rfl, Nat.le_of_ble_eq_true rfl⟩ [] [] rfl rfl (by decide) (by decide) (by decide) rfl rfl (Nat.le_of_ble_eq_true rfl) ⟨Nat.le_of_ble_eq_true rfl, Nat.le_of_ble_eq_true rfl⟩ (fun r1 _ w2 => ?_)
  refine r_ws [] rfl ?_
  have p3 : 1 = r1 := (w2).symm
  subst p3
  refine r_if_eq_f 4 16 C dJ0_charAt_5068e_4 (by decide) (by decide) ?_
  refine r_aload_n 7 0 C dJ0_charAt_5068e_7 rfl ?_
  refine r_sget 8 3 C dJ0_charAt_5068e_8 ((C.2.2.2.2.2.1.2.2.1.1 3 (by decide)).2.2.1) (mg 1 rfl) ?_
  refine r_iload_n 11 1 C dJ0_charAt_5068e_11 rfl ?_
  refine r_callSi 12 C dJ0_charAt_5068e_12 [] [] [] (fun sz => c139_J1_charAt_3b067 l g x0 i_x0 sz) gJ0_charAt_5068e_J1_charAt_3b067 rfl ⟨rfl, rfl⟩ 2 (by decide) ⟨Nat.le_of_ble_eq_true rfl, Nat.le_of_ble_eq_true rfl⟩ [] [] rfl rfl (by decide) (by decide) (by decide) rfl rfl (Nat.le_of_ble_eq_true rfl) ⟨Nat.le_of_ble_eq_true rfl, Nat.le_of_ble_eq_true rfl⟩ (fun r4 _ w5 => ?_)
  refine r_ws [] rfl ?_
  have p6 : 0 ≤ (Int32.toInt r4) := w5.1
  have p7 : (Int32.toInt r4) ≤ 65535 := w5.2
  exact r_cret 15 Rt dJ0_charAt_5068e_15 (nc_in (by omega) (by omega)) () (show 0 ≤ (Int32.toInt r4) ∧ (Int32.toInt r4) ≤ 65535 from ⟨(show _ ∧ _ from ⟨p6, p7⟩).1, (show _ ∧ _ from ⟨p6, p7⟩).2⟩) [] (by decide) rfl (Nat.le_of_ble_eq_true rfl) (Nat.le_of_ble_eq_true rfl)
set_option maxHeartbeats 4000000 in
set_option maxRecDepth 100000 in
theorem c141_X10_isAt (l : Launch) (g : GD) (h0 : Nat) (h1 : Nat) (x0 : Int32) (x1 : Int32) (fn0 : Nat → Int32) (i_x1 : (0 ≤ (Int32.toInt x1) ∧ (Int32.toInt x1) ≤ 1500)) (sz : Nat) : Met l yX10_isAt wsX10_isAt ({ frames := 4, cells := 0, slots := 0, locals := 85 }) (va_Pc [.ref h0, .int x0, .ref (g.2.2.1 3)] (PW g [(h0, .inr (4, [.ref h1, .int x1])), (h1, .inl (gB g, 1500, .inl fn0))] sz)) (va_Qi (fun (r : Int32) (_ : Unit) => 0 ≤ (Int32.toInt r) ∧ (Int32.toInt r) ≤ 1) (BW g (va_A [(h0, .inr (4, [.ref h1, .int x1])), (h1, .inl (gB g, 1500, .inl fn0))] sz) (fun _ : Unit => [(h0, .inr (4, [.ref h1, .int x1])), (h1, .inl (gB g, 1500, .inl fn0))])) (va_A [(h0, .inr (4, [.ref h1, .int x1])), (h1, .inl (gB g, 1500, .inl fn0))] sz)) 0 0 (va_A [(h0, .inr (4, [.ref h1, .int x1])), (h1, .inl (gB g, 1500, .inl fn0))] sz) := by
  refine met_z RX10 (by decide) rfl rfl (Nat.le_of_ble_eq_true rfl) [(0, .ref h0), (1, .int x0), (2, .ref (g.2.2.1 3))] rfl ?_
  intro p e s m args below meth c A Q C hnm Rt
  refine r_iconst 0 0 C dX10_isAt_0 (by decide) ?_
  refine r_istore_n 1 C dX10_isAt_1 [(3, .int 0), (0, .ref h0), (1, .int x0), (2, .ref (g.2.2.1 3))] (by decide) rfl ?_
  have lp3 : ∀ (n2 : Nat) (z1 : Int32), (0 ≤ (Int32.toInt z1) ∧ (Int32.toInt z1) ≤ 6) → Int.toNat (6 - (Int32.toInt z1)) < n2 → WW p l e ({ frames := 4, cells := 0, slots := 0, locals := 85 } : Room) s m args below meth c A Q g 4 0 0 [(h0, .inr (4, [.ref h1, .int x1])), (h1, .inl (gB g, 1500, .inl fn0))] 2 [(3, .int z1), (0, .ref h0), (1, .int x0), (2, .ref (g.2.2.1 3))] [] := by
    intro n2
    induction n2 with
    | zero => intro z1 i6 hm5; exact absurd hm5 (Nat.not_lt_zero _)
    | succ n2 ih4 =>
      intro z1 i6 hm5
      obtain ⟨i6a, i6b⟩ := i6
      refine r_iload_n 2 0 C dX10_isAt_2 rfl ?_
      refine r_aload_n 3 3 C dX10_isAt_3 rfl ?_
      refine r_scallVi 4 C dX10_isAt_4 [.int z1] 3 (by decide) [] [(h0, .inr (4, [.ref h1, .int x1])), (h1, .inl (gB g, 1500, .inl fn0))] (fun sz => c137_J0_length_8abf5 l g   sz) gX10_isAt_J0_length_8abf5 rfl ⟨rfl, rfl⟩ 0 (by decide) ⟨Nat.le_of_ble_eq_true rfl, Nat.le_of_ble_eq_true rfl⟩ [] [0, 1] rfl rfl (by decide) (by decide) (by decide) rfl rfl (Nat.le_of_ble_eq_true rfl) ⟨Nat.le_of_ble_eq_true rfl, Nat.le_of_ble_eq_true rfl⟩ (fun r7 _ w8 => ?_)
      refine r_ws [(h0, .inr (4, [.ref h1, .int x1])), (h1, .inl (gB g, 1500, .inl fn0))] rfl ?_
      have p9 : 6 = r7 := (w8).symm
      subst p9
      refine r_icmp_ge 7 34 C dX10_isAt_7 (by decide) (fun c10 => ?_) (fun c10 => ?_)
      · skip
        have k11 : 6 ≤ (Int32.toInt z1) := (fa_le 6 z1).mp c10
        refine r_iconst 34 1 C dX10_isAt_34 (by decide) ?_
        exact r_zret 35 Rt dX10_isAt_35 (by decide) () (show 0 ≤ (Int32.toInt 1) ∧ (Int32.toInt 1) ≤ 1 from ⟨(by ((repeat' apply And.intro) <;> first | trivial | rfl | assumption | omega | decide | exact Or.inl rfl | exact Or.inr (Or.inl rfl) | exact Or.inr (Or.inr rfl))), (by ((repeat' apply And.intro) <;> first | trivial | rfl | assumption | omega | decide | exact Or.inl rfl | exact Or.inr (Or.inl rfl) | exact Or.inr (Or.inr rfl)))⟩) [0, 1] (by decide) rfl (Nat.le_of_ble_eq_true rfl) (Nat.le_of_ble_eq_true rfl)
      · skip
        have k12 : ¬ (6 ≤ (Int32.toInt z1)) := fun h_9 => c10 ((fa_le 6 z1).mpr h_9)
        refine r_aload_n 10 1 C dX10_isAt_10 rfl ?_
        refine r_iload_n 11 2 C dX10_isAt_11 rfl ?_
        refine r_iload_n 12 0 C dX10_isAt_12 rfl ?_
        obtain ⟨z13, ez13⟩ : ∃ z_9, x0 + z1 = z_9 := ⟨_, rfl⟩
        have gz13 := fb_rng z13
        refine r_iadd 13 z13 C dX10_isAt_13 ez13 ?_
        obtain ⟨z14, ez14⟩ : ∃ z_9, Int32.toInt64 z13 = z_9 := ⟨_, rfl⟩
        have tz14 : (Int64.toInt z14) = (Int32.toInt z13) := by rw [← ez14]; exact Int32.toInt_toInt64 _
        refine r_i2l 14 z14 C dX10_isAt_14 ez14 ?_
        refine r_callVi 15 C dX10_isAt_15 [] [(h0, .inr (4, [.ref h1, .int x1])), (h1, .inl (gB g, 1500, .inl fn0))] [] (fun sz => c14_X5_get l g h0 h1 z14 x1 fn0 i_x1 sz) gX10_isAt_X5_get rfl ⟨rfl, rfl⟩ 1 (by decide) ⟨Nat.le_of_ble_eq_true rfl, Nat.le_of_ble_eq_true rfl⟩ 0 rfl rfl [0, 1] [] rfl rfl (by decide) (by decide) (by decide) rfl rfl (Nat.le_of_ble_eq_true rfl) ⟨Nat.le_of_ble_eq_true rfl, Nat.le_of_ble_eq_true rfl⟩ (fun r15 _ w16 => ?_)
        refine r_ws [(h0, .inr (4, [.ref h1, .int x1])), (h1, .inl (gB g, 1500, .inl fn0))] rfl ?_
        have p17 : -1 ≤ (Int32.toInt r15) := w16.1
        have p18 : (Int32.toInt r15) ≤ 255 := w16.2
        refine r_aload_n 18 3 C dX10_isAt_18 rfl ?_
        refine r_iload_n 19 0 C dX10_isAt_19 rfl ?_
        refine r_scallVi 20 C dX10_isAt_20 [.int r15] 3 (by decide) [] [(h0, .inr (4, [.ref h1, .int x1])), (h1, .inl (gB g, 1500, .inl fn0))] (fun sz => c140_J0_charAt_5068e l g z1 ⟨by omega, by omega⟩ sz) gX10_isAt_J0_charAt_5068e rfl ⟨rfl, rfl⟩ 1 (by decide) ⟨Nat.le_of_ble_eq_true rfl, Nat.le_of_ble_eq_true rfl⟩ [] [0, 1] rfl rfl (by decide) (by decide) (by decide) rfl rfl (Nat.le_of_ble_eq_true rfl) ⟨Nat.le_of_ble_eq_true rfl, Nat.le_of_ble_eq_true rfl⟩ (fun r19 _ w20 => ?_)
        refine r_ws [(h0, .inr (4, [.ref h1, .int x1])), (h1, .inl (gB g, 1500, .inl fn0))] rfl ?_
        have p21 : 0 ≤ (Int32.toInt r19) := w20.1
        have p22 : (Int32.toInt r19) ≤ 65535 := w20.2
        refine r_icmp_eq 23 28 C dX10_isAt_23 (by decide) (fun c23 => ?_) (fun c23 => ?_)
        · skip
          have k24 : (Int32.toInt r15) = (Int32.toInt r19) := (fa_eq r15 r19).mp c23
          obtain ⟨z25, ez25⟩ : ∃ z_9, z1 + Int32.ofInt 1 = z_9 := ⟨_, rfl⟩
          have tz25 : (Int32.toInt z25) = (Int32.toInt z1) + 1 := by rw [← ez25]; exact fb_addIv (a := 0) (b := 6) (c := 1) (d := 1) ⟨i6a, i6b⟩ ⟨by decide, by decide⟩ (by decide) (by decide)
          refine r_iinc 28 0 z25 C dX10_isAt_28 rfl ez25 [(3, .int z25), (0, .ref h0), (1, .int x0), (2, .ref (g.2.2.1 3))] (by decide) rfl ?_
          refine r_goto 31 2 C dX10_isAt_31 (by decide) ?_
          exact ih4 z25 ⟨by omega, by omega⟩ (by omega)
        · skip
          have k26 : ¬ ((Int32.toInt r15) = (Int32.toInt r19)) := fun h_9 => c23 ((fa_eq r15 r19).mpr h_9)
          refine r_iconst 26 0 C dX10_isAt_26 (by decide) ?_
          exact r_zret 27 Rt dX10_isAt_27 (by decide) () (show 0 ≤ (Int32.toInt 0) ∧ (Int32.toInt 0) ≤ 1 from ⟨(by ((repeat' apply And.intro) <;> first | trivial | rfl | assumption | omega | decide | exact Or.inl rfl | exact Or.inr (Or.inl rfl) | exact Or.inr (Or.inr rfl))), (by ((repeat' apply And.intro) <;> first | trivial | rfl | assumption | omega | decide | exact Or.inl rfl | exact Or.inr (Or.inl rfl) | exact Or.inr (Or.inr rfl)))⟩) [0, 1] (by decide) rfl (Nat.le_of_ble_eq_true rfl) (Nat.le_of_ble_eq_true rfl)
  exact lp3 _ 0 (by decide) (Nat.lt_succ_self _)
set_option maxHeartbeats 4000000 in
set_option maxRecDepth 100000 in
theorem c142_X10_isWord (l : Launch) (g : GD) (h0 : Nat) (h1 : Nat) (h2 : Nat) (h3 : Nat) (x0 : Int32) (x1 : Int32) (x2 : Int32) (x3 : Int32) (x4 : Int32) (x5 : Int32) (x6 : Int32) (x7 : Int32) (x8 : Int32) (fn0 : Nat → Int32) (i_x4 : (0 ≤ (Int32.toInt x4) ∧ (Int32.toInt x4) ≤ 1)) (i_x8 : (0 ≤ (Int32.toInt x8) ∧ (Int32.toInt x8) ≤ 1500)) (sz : Nat) : Met l yX10_isWord wsX10_isWord ({ frames := 5, cells := 0, slots := 0, locals := 108 }) (va_Pc [.ref h0, .ref (g.2.2.1 3)] (PW g [(h0, .inr (9, [.ref h3, .ref h1, .int x0, .int x1, .int x2, .int x3, .int x4, .int x5, .int x6, .int x7])), (h1, .inr (4, [.ref h2, .int x8])), (h2, .inl (gB g, 1500, .inl fn0))] sz)) (va_Qi (fun (r : Int32) (_ : Unit) => 0 ≤ (Int32.toInt r) ∧ (Int32.toInt r) ≤ 1) (BW g (va_A [(h0, .inr (9, [.ref h3, .ref h1, .int x0, .int x1, .int x2, .int x3, .int x4, .int x5, .int x6, .int x7])), (h1, .inr (4, [.ref h2, .int x8])), (h2, .inl (gB g, 1500, .inl fn0))] sz) (fun _ : Unit => [(h0, .inr (9, [.ref h3, .ref h1, .int x0, .int x1, .int x2, .int x3, .int x4, .int x5, .int x6, .int x7])), (h1, .inr (4, [.ref h2, .int x8])), (h2, .inl (gB g, 1500, .inl fn0))])) (va_A [(h0, .inr (9, [.ref h3, .ref h1, .int x0, .int x1, .int x2, .int x3, .int x4, .int x5, .int x6, .int x7])), (h1, .inr (4, [.ref h2, .int x8])), (h2, .inl (gB g, 1500, .inl fn0))] sz)) 0 0 (va_A [(h0, .inr (9, [.ref h3, .ref h1, .int x0, .int x1, .int x2, .int x3, .int x4, .int x5, .int x6, .int x7])), (h1, .inr (4, [.ref h2, .int x8])), (h2, .inl (gB g, 1500, .inl fn0))] sz) := by
  refine met_z RX10 (by decide) rfl rfl (Nat.le_of_ble_eq_true rfl) [(0, .ref h0), (1, .ref (g.2.2.1 3))] rfl ?_
  intro p e s m args below meth c A Q C hnm Rt
  have hiX10 : ∀ w ∈ wsX100, w ∈ wsX10_isWord := fun w h => List.mem_cons_of_mem _ (List.mem_append_left _ (List.mem_append_right _ (h)))
  refine r_aload_n 0 0 C dX10_isWord_0 rfl ?_
  refine r_get 1 C dX10_isWord_1 (k := 4) 0 rfl rfl hiX10 (by decide) rfl (mg 1 rfl) (Or.inl rfl) rfl ?_
  refine r_aload_n 4 0 C dX10_isWord_4 rfl ?_
  refine r_get 5 C dX10_isWord_5 (k := 3) 0 rfl rfl hiX10 (by decide) rfl (mg 2 rfl) (Or.inl rfl) rfl ?_
  obtain ⟨z1, ez1⟩ : ∃ z_9, x2 - x1 = z_9 := ⟨_, rfl⟩
  have gz1 := fb_rng z1
  refine r_isub 8 z1 C dX10_isWord_8 ez1 ?_
  refine r_aload_n 9 1 C dX10_isWord_9 rfl ?_
  refine r_scallVi 10 C dX10_isWord_10 [.int z1] 3 (by decide) [] [(h0, .inr (9, [.ref h3, .ref h1, .int x0, .int x1, .int x2, .int x3, .int x4, .int x5, .int x6, .int x7])), (h1, .inr (4, [.ref h2, .int x8])), (h2, .inl (gB g, 1500, .inl fn0))] (fun sz => c137_J0_length_8abf5 l g   sz) gX10_isWord_J0_length_8abf5 rfl ⟨rfl, rfl⟩ 0 (by decide) ⟨Nat.le_of_ble_eq_true rfl, Nat.le_of_ble_eq_true rfl⟩ [] [0, 1, 2] rfl rfl (by decide) (by decide) (by decide) rfl rfl (Nat.le_of_ble_eq_true rfl) ⟨Nat.le_of_ble_eq_true rfl, Nat.le_of_ble_eq_true rfl⟩ (fun r2 _ w3 => ?_)
  refine r_ws [(h0, .inr (9, [.ref h3, .ref h1, .int x0, .int x1, .int x2, .int x3, .int x4, .int x5, .int x6, .int x7])), (h1, .inr (4, [.ref h2, .int x8])), (h2, .inl (gB g, 1500, .inl fn0))] rfl ?_
  have p4 : 6 = r2 := (w3).symm
  subst p4
  refine r_icmp_ne 13 35 C dX10_isWord_13 (by decide) (fun c5 => ?_) (fun c5 => ?_)
  · skip
    have k6 : ¬ ((Int32.toInt z1) = 6) := fun h_9 => c5 ((fa_eq z1 6).mpr h_9)
    refine r_iconst 35 0 C dX10_isWord_35 (by decide) ?_
    exact r_zret 36 Rt dX10_isWord_36 (by decide) () (show 0 ≤ (Int32.toInt 0) ∧ (Int32.toInt 0) ≤ 1 from ⟨(by ((repeat' apply And.intro) <;> first | trivial | rfl | assumption | omega | decide | exact Or.inl rfl | exact Or.inr (Or.inl rfl) | exact Or.inr (Or.inr rfl))), (by ((repeat' apply And.intro) <;> first | trivial | rfl | assumption | omega | decide | exact Or.inl rfl | exact Or.inr (Or.inl rfl) | exact Or.inr (Or.inr rfl)))⟩) [0, 1, 2] (by decide) rfl (Nat.le_of_ble_eq_true rfl) (Nat.le_of_ble_eq_true rfl)
  · skip
    have k7 : (Int32.toInt z1) = 6 := (fa_eq z1 6).mp c5
    refine r_aload_n 16 0 C dX10_isWord_16 rfl ?_
    refine r_get 17 C dX10_isWord_17 (k := 1) 0 rfl rfl hiX10 (by decide) rfl (mg 3 rfl) (Or.inl rfl) rfl ?_
    refine r_aload_n 20 0 C dX10_isWord_20 rfl ?_
    refine r_get 21 C dX10_isWord_21 (k := 3) 0 rfl rfl hiX10 (by decide) rfl (mg 2 rfl) (Or.inl rfl) rfl ?_
    refine r_aload_n 24 1 C dX10_isWord_24 rfl ?_
    refine r_callSi 25 C dX10_isWord_25 [] [(h1, .inr (4, [.ref h2, .int x8])), (h2, .inl (gB g, 1500, .inl fn0))] [(h0, .inr (9, [.ref h3, .ref h1, .int x0, .int x1, .int x2, .int x3, .int x4, .int x5, .int x6, .int x7]))] (fun sz => c141_X10_isAt l g h1 h2 x1 x8 fn0 i_x8 sz) gX10_isWord_X10_isAt rfl ⟨rfl, rfl⟩ 3 (by decide) ⟨Nat.le_of_ble_eq_true rfl, Nat.le_of_ble_eq_true rfl⟩ [1, 2] [0] rfl rfl (by decide) (by decide) (by decide) rfl rfl (Nat.le_of_ble_eq_true rfl) ⟨Nat.le_of_ble_eq_true rfl, Nat.le_of_ble_eq_true rfl⟩ (fun r8 _ w9 => ?_)
    refine r_ws [(h0, .inr (9, [.ref h3, .ref h1, .int x0, .int x1, .int x2, .int x3, .int x4, .int x5, .int x6, .int x7])), (h1, .inr (4, [.ref h2, .int x8])), (h2, .inl (gB g, 1500, .inl fn0))] rfl ?_
    have p10 : 0 ≤ (Int32.toInt r8) := w9.1
    have p11 : (Int32.toInt r8) ≤ 1 := w9.2
    refine r_if_eq 28 35 C dX10_isWord_28 (by decide) (fun c12 => ?_) (fun c12 => ?_)
    · skip
      have k13 : (Int32.toInt r8) = 0 := (fa_eq r8 0).mp c12
      refine r_iconst 35 0 C dX10_isWord_35 (by decide) ?_
      exact r_zret 36 Rt dX10_isWord_36 (by decide) () (show 0 ≤ (Int32.toInt 0) ∧ (Int32.toInt 0) ≤ 1 from ⟨(by ((repeat' apply And.intro) <;> first | trivial | rfl | assumption | omega | decide | exact Or.inl rfl | exact Or.inr (Or.inl rfl) | exact Or.inr (Or.inr rfl))), (by ((repeat' apply And.intro) <;> first | trivial | rfl | assumption | omega | decide | exact Or.inl rfl | exact Or.inr (Or.inl rfl) | exact Or.inr (Or.inr rfl)))⟩) [0, 1, 2] (by decide) rfl (Nat.le_of_ble_eq_true rfl) (Nat.le_of_ble_eq_true rfl)
    · skip
      have k14 : ¬ ((Int32.toInt r8) = 0) := fun h_9 => c12 ((fa_eq r8 0).mpr h_9)
      refine r_iconst 31 1 C dX10_isWord_31 (by decide) ?_
      refine r_goto 32 36 C dX10_isWord_32 (by decide) ?_
      exact r_zret 36 Rt dX10_isWord_36 (by decide) () (show 0 ≤ (Int32.toInt 1) ∧ (Int32.toInt 1) ≤ 1 from ⟨(by ((repeat' apply And.intro) <;> first | trivial | rfl | assumption | omega | decide | exact Or.inl rfl | exact Or.inr (Or.inl rfl) | exact Or.inr (Or.inr rfl))), (by ((repeat' apply And.intro) <;> first | trivial | rfl | assumption | omega | decide | exact Or.inl rfl | exact Or.inr (Or.inl rfl) | exact Or.inr (Or.inr rfl)))⟩) [0, 1, 2] (by decide) rfl (Nat.le_of_ble_eq_true rfl) (Nat.le_of_ble_eq_true rfl)
set_option maxHeartbeats 4000000 in
set_option maxRecDepth 100000 in
theorem c143_J0_coder_7d493 (l : Launch) (g : GD) (sz : Nat) : Met l yJ0_coder_7d493 wsJ0_coder_7d493 ({ frames := 0, cells := 0, slots := 0, locals := 0 }) (va_Pc [.ref (g.2.2.1 4)] (PW g [] sz)) (va_Qi (fun (r : Int32) (_ : Unit) => r = 0) (BW g (va_A [] sz) (fun _ : Unit => [])) (va_A [] sz)) 0 0 (va_A [] sz) := by
  refine met_b RJ0 (by decide) rfl rfl (Nat.le_of_ble_eq_true rfl) [(0, .ref (g.2.2.1 4))] rfl ?_
  intro p e s m args below meth c A Q C hnm Rt
  refine r_gets 0 C dJ0_coder_7d493_0 C.2.2.2.2.2.1.2.2.2.2.1 (mg 1 rfl) ?_
  refine r_if_eq_f 3 13 C dJ0_coder_7d493_3 (by decide) (by decide) ?_
  refine r_aload_n 6 0 C dJ0_coder_7d493_6 rfl ?_
  refine r_sget 7 4 C dJ0_coder_7d493_7 ((C.2.2.2.2.2.1.2.2.1.1 4 (by decide)).2.1) (mg 2 rfl) ?_
  refine r_goto 10 14 C dJ0_coder_7d493_10 (by decide) ?_
  exact r_bret 14 Rt dJ0_coder_7d493_14 (by decide) () (show 0 = 0 from (by ((repeat' apply And.intro) <;> first | trivial | rfl | assumption | omega | decide | exact Or.inl rfl | exact Or.inr (Or.inl rfl) | exact Or.inr (Or.inr rfl)))) [] (by decide) rfl (Nat.le_of_ble_eq_true rfl) (Nat.le_of_ble_eq_true rfl)
set_option maxHeartbeats 4000000 in
set_option maxRecDepth 100000 in
theorem c144_J0_length_8abf5 (l : Launch) (g : GD) (sz : Nat) : Met l yJ0_length_8abf5 wsJ0_length_8abf5 ({ frames := 1, cells := 0, slots := 0, locals := 20 }) (va_Pc [.ref (g.2.2.1 4)] (PW g [] sz)) (va_Qi (fun (r : Int32) (_ : Unit) => r = 3) (BW g (va_A [] sz) (fun _ : Unit => [])) (va_A [] sz)) 0 0 (va_A [] sz) := by
  refine met_i RJ0 (by decide) rfl rfl (Nat.le_of_ble_eq_true rfl) [(0, .ref (g.2.2.1 4))] rfl ?_
  intro p e s m args below meth c A Q C hnm Rt
  refine r_aload_n 0 0 C dJ0_length_8abf5_0 rfl ?_
  refine r_sget 1 4 C dJ0_length_8abf5_1 ((C.2.2.2.2.2.1.2.2.1.1 4 (by decide)).2.2.1) (mg 1 rfl) ?_
  refine r_stlen 4 3 C dJ0_length_8abf5_4 ((C.2.2.2.2.2.1.2.2.1.1 4 (by decide)).2.2.2) (by decide) ?_
  refine r_aload_n 5 0 C dJ0_length_8abf5_5 rfl ?_
  refine r_scallVi 6 C dJ0_length_8abf5_6 [.int 3] 4 (by decide) [] [] (fun sz => c143_J0_coder_7d493 l g   sz) gJ0_length_8abf5_J0_coder_7d493 rfl ⟨rfl, rfl⟩ 0 (by decide) ⟨Nat.le_of_ble_eq_true rfl, Nat.le_of_ble_eq_true rfl⟩ [] [] rfl rfl (by decide) (by decide) (by decide) rfl rfl (Nat.le_of_ble_eq_true rfl) ⟨Nat.le_of_ble_eq_true rfl, Nat.le_of_ble_eq_true rfl⟩ (fun r1 _ w2 => ?_)
  refine r_ws [] rfl ?_
  have p3 : 0 = r1 := (w2).symm
  subst p3
  refine r_ishr 9 3 C dJ0_length_8abf5_9 (by decide) ?_
  exact r_iret 10 Rt dJ0_length_8abf5_10 () (show 3 = 3 from (by ((repeat' apply And.intro) <;> first | trivial | rfl | assumption | omega | decide | exact Or.inl rfl | exact Or.inr (Or.inl rfl) | exact Or.inr (Or.inr rfl)))) [] (by decide) rfl (Nat.le_of_ble_eq_true rfl) (Nat.le_of_ble_eq_true rfl)
set_option maxHeartbeats 4000000 in
set_option maxRecDepth 100000 in
theorem c145_J0_isLatin1_aae02 (l : Launch) (g : GD) (sz : Nat) : Met l yJ0_isLatin1_aae02 wsJ0_isLatin1_aae02 ({ frames := 0, cells := 0, slots := 0, locals := 0 }) (va_Pc [.ref (g.2.2.1 4)] (PW g [] sz)) (va_Qi (fun (r : Int32) (_ : Unit) => r = 1) (BW g (va_A [] sz) (fun _ : Unit => [])) (va_A [] sz)) 0 0 (va_A [] sz) := by
  refine met_z RJ0 (by decide) rfl rfl (Nat.le_of_ble_eq_true rfl) [(0, .ref (g.2.2.1 4))] rfl ?_
  intro p e s m args below meth c A Q C hnm Rt
  refine r_gets 0 C dJ0_isLatin1_aae02_0 C.2.2.2.2.2.1.2.2.2.2.1 (mg 1 rfl) ?_
  refine r_if_eq_f 3 17 C dJ0_isLatin1_aae02_3 (by decide) (by decide) ?_
  refine r_aload_n 6 0 C dJ0_isLatin1_aae02_6 rfl ?_
  refine r_sget 7 4 C dJ0_isLatin1_aae02_7 ((C.2.2.2.2.2.1.2.2.1.1 4 (by decide)).2.1) (mg 2 rfl) ?_
  refine r_if_ne_f 10 17 C dJ0_isLatin1_aae02_10 (by decide) (by decide) ?_
  refine r_iconst 13 1 C dJ0_isLatin1_aae02_13 (by decide) ?_
  refine r_goto 14 18 C dJ0_isLatin1_aae02_14 (by decide) ?_
  exact r_zret 18 Rt dJ0_isLatin1_aae02_18 (by decide) () (show 1 = 1 from (by ((repeat' apply And.intro) <;> first | trivial | rfl | assumption | omega | decide | exact Or.inl rfl | exact Or.inr (Or.inl rfl) | exact Or.inr (Or.inr rfl)))) [] (by decide) rfl (Nat.le_of_ble_eq_true rfl) (Nat.le_of_ble_eq_true rfl)
set_option maxHeartbeats 4000000 in
set_option maxRecDepth 100000 in
theorem c146_J3_checkIndex_8e157 (l : Launch) (g : GD) (x0 : Int32) (i_x0 : (0 ≤ (Int32.toInt x0) ∧ (Int32.toInt x0) ≤ 2)) (sz : Nat) : Met l yJ3_checkIndex_8e157 wsJ3_checkIndex_8e157 ({ frames := 0, cells := 0, slots := 0, locals := 0 }) (va_Pc [.int x0, .int 3, .null] (PW g [] sz)) (va_Qi (fun (r : Int32) (_ : Unit) => r = x0) (BW g (va_A [] sz) (fun _ : Unit => [])) (va_A [] sz)) 0 0 (va_A [] sz) := by
  refine met_i RJ3 (by decide) rfl rfl (Nat.le_of_ble_eq_true rfl) [(0, .int x0), (1, .int 3), (2, .null)] rfl ?_
  intro p e s m args below meth c A Q C hnm Rt
  refine r_iload_n 0 0 C dJ3_checkIndex_8e157_0 rfl ?_
  refine r_if_lt_f 1 9 C dJ3_checkIndex_8e157_1 (by decide) (fun h_9 => by have h_8 : (Int32.toInt x0) < 0 := (fa_lt x0 0).mp h_9; omega) ?_
  refine r_iload_n 4 0 C dJ3_checkIndex_8e157_4 rfl ?_
  refine r_iload_n 5 1 C dJ3_checkIndex_8e157_5 rfl ?_
  refine r_icmp_lt_t 6 16 C dJ3_checkIndex_8e157_6 (by decide) ((fa_lt x0 3).mpr (by show (Int32.toInt x0) < 3; omega)) ?_
  refine r_iload_n 16 0 C dJ3_checkIndex_8e157_16 rfl ?_
  exact r_iret 17 Rt dJ3_checkIndex_8e157_17 () (show x0 = x0 from (by ((repeat' apply And.intro) <;> first | trivial | rfl | assumption | omega | decide | exact Or.inl rfl | exact Or.inr (Or.inl rfl) | exact Or.inr (Or.inr rfl)))) [] (by decide) rfl (Nat.le_of_ble_eq_true rfl) (Nat.le_of_ble_eq_true rfl)
set_option maxHeartbeats 4000000 in
set_option maxRecDepth 100000 in
theorem c147_J3_checkIndex_8e157 (l : Launch) (g : GD) (x0 : Int32) (h0 : Nat) (i_x0 : (0 ≤ (Int32.toInt x0) ∧ (Int32.toInt x0) ≤ 2)) (sz : Nat) : Met l yJ3_checkIndex_8e157 wsJ3_checkIndex_8e157 ({ frames := 0, cells := 0, slots := 0, locals := 0 }) (va_Pc [.int x0, .int 3, .ref h0] (PW g [] sz)) (va_Qi (fun (r : Int32) (_ : Unit) => r = x0) (BW g (va_A [] sz) (fun _ : Unit => [])) (va_A [] sz)) 0 0 (va_A [] sz) := by
  refine met_i RJ3 (by decide) rfl rfl (Nat.le_of_ble_eq_true rfl) [(0, .int x0), (1, .int 3), (2, .ref h0)] rfl ?_
  intro p e s m args below meth c A Q C hnm Rt
  refine r_iload_n 0 0 C dJ3_checkIndex_8e157_0 rfl ?_
  refine r_if_lt_f 1 9 C dJ3_checkIndex_8e157_1 (by decide) (fun h_9 => by have h_8 : (Int32.toInt x0) < 0 := (fa_lt x0 0).mp h_9; omega) ?_
  refine r_iload_n 4 0 C dJ3_checkIndex_8e157_4 rfl ?_
  refine r_iload_n 5 1 C dJ3_checkIndex_8e157_5 rfl ?_
  refine r_icmp_lt_t 6 16 C dJ3_checkIndex_8e157_6 (by decide) ((fa_lt x0 3).mpr (by show (Int32.toInt x0) < 3; omega)) ?_
  refine r_iload_n 16 0 C dJ3_checkIndex_8e157_16 rfl ?_
  exact r_iret 17 Rt dJ3_checkIndex_8e157_17 () (show x0 = x0 from (by ((repeat' apply And.intro) <;> first | trivial | rfl | assumption | omega | decide | exact Or.inl rfl | exact Or.inr (Or.inl rfl) | exact Or.inr (Or.inr rfl)))) [] (by decide) rfl (Nat.le_of_ble_eq_true rfl) (Nat.le_of_ble_eq_true rfl)
set_option maxHeartbeats 4000000 in
set_option maxRecDepth 100000 in
theorem c148_J0_checkIndex_df160 (l : Launch) (g : GD) (x0 : Int32) (i_x0 : (0 ≤ (Int32.toInt x0) ∧ (Int32.toInt x0) ≤ 2)) (sz : Nat) : Met l yJ0_checkIndex_df160 wsJ0_checkIndex_df160 ({ frames := 1, cells := 0, slots := 0, locals := 22 }) (va_Pc [.int x0, .int 3] (PW g [] sz)) (va_Qv (fun (_ : Unit) => True) (BW g (va_A [] sz) (fun _ : Unit => [])) (va_A [] sz)) 0 0 (va_A [] sz) := by
  refine met_v RJ0 (by decide) rfl rfl (Nat.le_of_ble_eq_true rfl) [(0, .int x0), (1, .int 3)] rfl ?_
  intro p e s m args below meth c A Q C hnm Rt
  refine r_iload_n 0 0 C dJ0_checkIndex_df160_0 rfl ?_
  refine r_iload_n 1 1 C dJ0_checkIndex_df160_1 rfl ?_
  refine r_getsq2 2 C dJ0_checkIndex_df160_2 C.2.2.2.2.2.1.2.2.2.2.2 (mg 1 rfl) ?_ (fun q1 => ?_)
  · skip
    refine r_callSi 5 C dJ0_checkIndex_df160_5 [] [] [] (fun sz => c146_J3_checkIndex_8e157 l g x0 i_x0 sz) gJ0_checkIndex_df160_J3_checkIndex_8e157 rfl ⟨rfl, rfl⟩ 3 (by decide) ⟨Nat.le_of_ble_eq_true rfl, Nat.le_of_ble_eq_true rfl⟩ [] [] rfl rfl (by decide) (by decide) (by decide) rfl rfl (Nat.le_of_ble_eq_true rfl) ⟨Nat.le_of_ble_eq_true rfl, Nat.le_of_ble_eq_true rfl⟩ (fun r2 _ w3 => ?_)
    refine r_ws [] rfl ?_
    have p4 : x0 = r2 := (w3).symm
    subst p4
    refine r_pop 8 C dJ0_checkIndex_df160_8 rfl ?_
    exact r_vret 9 Rt dJ0_checkIndex_df160_9 () trivial [] (by decide) rfl (Nat.le_of_ble_eq_true rfl) (Nat.le_of_ble_eq_true rfl)
  · skip
    refine r_callSi 5 C dJ0_checkIndex_df160_5 [] [] [] (fun sz => c147_J3_checkIndex_8e157 l g x0 q1 i_x0 sz) gJ0_checkIndex_df160_J3_checkIndex_8e157 rfl ⟨rfl, rfl⟩ 3 (by decide) ⟨Nat.le_of_ble_eq_true rfl, Nat.le_of_ble_eq_true rfl⟩ [] [] rfl rfl (by decide) (by decide) (by decide) rfl rfl (Nat.le_of_ble_eq_true rfl) ⟨Nat.le_of_ble_eq_true rfl, Nat.le_of_ble_eq_true rfl⟩ (fun r5 _ w6 => ?_)
    refine r_ws [] rfl ?_
    have p7 : x0 = r5 := (w6).symm
    subst p7
    refine r_pop 8 C dJ0_checkIndex_df160_8 rfl ?_
    exact r_vret 9 Rt dJ0_checkIndex_df160_9 () trivial [] (by decide) rfl (Nat.le_of_ble_eq_true rfl) (Nat.le_of_ble_eq_true rfl)
set_option maxHeartbeats 4000000 in
set_option maxRecDepth 100000 in
theorem c149_J1_charAt_3b067 (l : Launch) (g : GD) (x0 : Int32) (i_x0 : (0 ≤ (Int32.toInt x0) ∧ (Int32.toInt x0) ≤ 2)) (sz : Nat) : Met l yJ1_charAt_3b067 wsJ1_charAt_3b067 ({ frames := 2, cells := 0, slots := 0, locals := 43 }) (va_Pc [.ref (g.2.2.2 4), .int x0] (PW g [] sz)) (va_Qi (fun (r : Int32) (_ : Unit) => 0 ≤ (Int32.toInt r) ∧ (Int32.toInt r) ≤ 65535) (BW g (va_A [] sz) (fun _ : Unit => [])) (va_A [] sz)) 0 0 (va_A [] sz) := by
  refine met_c RJ1 (by decide) rfl rfl (Nat.le_of_ble_eq_true rfl) [(0, .ref (g.2.2.2 4)), (1, .int x0)] rfl ?_
  intro p e s m args below meth c A Q C hnm Rt
  refine r_iload_n 0 1 C dJ1_charAt_3b067_0 rfl ?_
  refine r_aload_n 1 0 C dJ1_charAt_3b067_1 rfl ?_
  refine r_stlen 2 3 C dJ1_charAt_3b067_2 ((C.2.2.2.2.2.1.2.2.1.1 4 (by decide)).2.2.2) (by decide) ?_
  refine r_callSv 3 C dJ1_charAt_3b067_3 [] [] [] (fun sz => c148_J0_checkIndex_df160 l g x0 i_x0 sz) gJ1_charAt_3b067_J0_checkIndex_df160 rfl ⟨rfl, rfl⟩ 2 (by decide) ⟨Nat.le_of_ble_eq_true rfl, Nat.le_of_ble_eq_true rfl⟩ [] [] rfl rfl (by decide) (by decide) (by decide) rfl rfl (Nat.le_of_ble_eq_true rfl) ⟨Nat.le_of_ble_eq_true rfl, Nat.le_of_ble_eq_true rfl⟩ (fun  _ w1 => ?_)
  refine r_ws [] rfl ?_
  refine r_aload_n 6 0 C dJ1_charAt_3b067_6 rfl ?_
  refine r_iload_n 7 1 C dJ1_charAt_3b067_7 rfl ?_
  obtain ⟨z2, ez2⟩ : ∃ z_9, (stB.getD 4 []).getD (Int32.toNatClampNeg x0) 0 = z_9 := ⟨_, rfl⟩
  refine r_stb 8 (.int z2) C dJ1_charAt_3b067_8 ((C.2.2.2.2.2.1.2.2.1.1 4 (by decide)).2.2.2) (vinI (n := 3) (by omega) (by omega)) (by rw [← ez2]) ?_
  have gz2 := fb_rng z2
  refine r_sipush 9 255 C dJ1_charAt_3b067_9 (by decide) ?_
  obtain ⟨z3, ez3⟩ : ∃ z_9, z2 &&& 255 = z_9 := ⟨_, rfl⟩
  have tz3 : 0 ≤ (Int32.toInt z3) ∧ (Int32.toInt z3) ≤ 255 := by rw [← ez3]; exact and_255 z2
  refine r_iand 12 z3 C dJ1_charAt_3b067_12 ez3 ?_
  obtain ⟨z4, ez4⟩ : ∃ z_9, (Int32.toUInt32 z3 % 65536).toInt32 = z_9 := ⟨_, rfl⟩
  have tz4 : 0 ≤ (Int32.toInt z4) ∧ (Int32.toInt z4) ≤ 65535 := by rw [← ez4]; exact chr_in _
  refine r_i2c 13 z4 C dJ1_charAt_3b067_13 ez4 ?_
  exact r_cret 14 Rt dJ1_charAt_3b067_14 (by rw [← ez4]; exact pk_nc _) () (show 0 ≤ (Int32.toInt z4) ∧ (Int32.toInt z4) ≤ 65535 from ⟨(by ((repeat' apply And.intro) <;> first | trivial | rfl | assumption | omega | decide | exact Or.inl rfl | exact Or.inr (Or.inl rfl) | exact Or.inr (Or.inr rfl))), (by ((repeat' apply And.intro) <;> first | trivial | rfl | assumption | omega | decide | exact Or.inl rfl | exact Or.inr (Or.inl rfl) | exact Or.inr (Or.inr rfl)))⟩) [] (by decide) rfl (Nat.le_of_ble_eq_true rfl) (Nat.le_of_ble_eq_true rfl)
set_option maxHeartbeats 4000000 in
set_option maxRecDepth 100000 in
theorem c150_J0_charAt_5068e (l : Launch) (g : GD) (x0 : Int32) (i_x0 : (0 ≤ (Int32.toInt x0) ∧ (Int32.toInt x0) ≤ 2)) (sz : Nat) : Met l yJ0_charAt_5068e wsJ0_charAt_5068e ({ frames := 3, cells := 0, slots := 0, locals := 64 }) (va_Pc [.ref (g.2.2.1 4), .int x0] (PW g [] sz)) (va_Qi (fun (r : Int32) (_ : Unit) => 0 ≤ (Int32.toInt r) ∧ (Int32.toInt r) ≤ 65535) (BW g (va_A [] sz) (fun _ : Unit => [])) (va_A [] sz)) 0 0 (va_A [] sz) := by
  refine met_c RJ0 (by decide) rfl rfl (Nat.le_of_ble_eq_true rfl) [(0, .ref (g.2.2.1 4)), (1, .int x0)] rfl ?_
  intro p e s m args below meth c A Q C hnm Rt
  refine r_aload_n 0 0 C dJ0_charAt_5068e_0 rfl ?_
  refine r_scallVi 1 C dJ0_charAt_5068e_1 [] 4 (by decide) [] [] (fun sz => c145_J0_isLatin1_aae02 l g   sz) gJ0_charAt_5068e_J0_isLatin1_aae02 rfl ⟨rfl, rfl⟩ 0 (by decide) ⟨Nat.le_of_ble_eq_true rfl, Nat.le_of_ble_eq_true rfl⟩ [] [] rfl rfl (by decide) (by decide) (by decide) rfl rfl (Nat.le_of_ble_eq_true rfl) ⟨Nat.le_of_ble_eq_true rfl, Nat.le_of_ble_eq_true rfl⟩ (fun r1 _ w2 => ?_)
  refine r_ws [] rfl ?_
  have p3 : 1 = r1 := (w2).symm
  subst p3
  refine r_if_eq_f 4 16 C dJ0_charAt_5068e_4 (by decide) (by decide) ?_
  refine r_aload_n 7 0 C dJ0_charAt_5068e_7 rfl ?_
  refine r_sget 8 4 C dJ0_charAt_5068e_8 ((C.2.2.2.2.2.1.2.2.1.1 4 (by decide)).2.2.1) (mg 1 rfl) ?_
  refine r_iload_n 11 1 C dJ0_charAt_5068e_11 rfl ?_
  refine r_callSi 12 C dJ0_charAt_5068e_12 [] [] [] (fun sz => c149_J1_charAt_3b067 l g x0 i_x0 sz) gJ0_charAt_5068e_J1_charAt_3b067 rfl ⟨rfl, rfl⟩ 2 (by decide) ⟨Nat.le_of_ble_eq_true rfl, Nat.le_of_ble_eq_true rfl⟩ [] [] rfl rfl (by decide) (by decide) (by decide) rfl rfl (Nat.le_of_ble_eq_true rfl) ⟨Nat.le_of_ble_eq_true rfl, Nat.le_of_ble_eq_true rfl⟩ (fun r4 _ w5 => ?_)
  refine r_ws [] rfl ?_
  have p6 : 0 ≤ (Int32.toInt r4) := w5.1
  have p7 : (Int32.toInt r4) ≤ 65535 := w5.2
  exact r_cret 15 Rt dJ0_charAt_5068e_15 (nc_in (by omega) (by omega)) () (show 0 ≤ (Int32.toInt r4) ∧ (Int32.toInt r4) ≤ 65535 from ⟨(show _ ∧ _ from ⟨p6, p7⟩).1, (show _ ∧ _ from ⟨p6, p7⟩).2⟩) [] (by decide) rfl (Nat.le_of_ble_eq_true rfl) (Nat.le_of_ble_eq_true rfl)
set_option maxHeartbeats 4000000 in
set_option maxRecDepth 100000 in
theorem c151_X10_isAt (l : Launch) (g : GD) (h0 : Nat) (h1 : Nat) (x0 : Int32) (x1 : Int32) (fn0 : Nat → Int32) (i_x1 : (0 ≤ (Int32.toInt x1) ∧ (Int32.toInt x1) ≤ 1500)) (sz : Nat) : Met l yX10_isAt wsX10_isAt ({ frames := 4, cells := 0, slots := 0, locals := 85 }) (va_Pc [.ref h0, .int x0, .ref (g.2.2.1 4)] (PW g [(h0, .inr (4, [.ref h1, .int x1])), (h1, .inl (gB g, 1500, .inl fn0))] sz)) (va_Qi (fun (r : Int32) (_ : Unit) => 0 ≤ (Int32.toInt r) ∧ (Int32.toInt r) ≤ 1) (BW g (va_A [(h0, .inr (4, [.ref h1, .int x1])), (h1, .inl (gB g, 1500, .inl fn0))] sz) (fun _ : Unit => [(h0, .inr (4, [.ref h1, .int x1])), (h1, .inl (gB g, 1500, .inl fn0))])) (va_A [(h0, .inr (4, [.ref h1, .int x1])), (h1, .inl (gB g, 1500, .inl fn0))] sz)) 0 0 (va_A [(h0, .inr (4, [.ref h1, .int x1])), (h1, .inl (gB g, 1500, .inl fn0))] sz) := by
  refine met_z RX10 (by decide) rfl rfl (Nat.le_of_ble_eq_true rfl) [(0, .ref h0), (1, .int x0), (2, .ref (g.2.2.1 4))] rfl ?_
  intro p e s m args below meth c A Q C hnm Rt
  refine r_iconst 0 0 C dX10_isAt_0 (by decide) ?_
  refine r_istore_n 1 C dX10_isAt_1 [(3, .int 0), (0, .ref h0), (1, .int x0), (2, .ref (g.2.2.1 4))] (by decide) rfl ?_
  have lp3 : ∀ (n2 : Nat) (z1 : Int32), (0 ≤ (Int32.toInt z1) ∧ (Int32.toInt z1) ≤ 3) → Int.toNat (3 - (Int32.toInt z1)) < n2 → WW p l e ({ frames := 4, cells := 0, slots := 0, locals := 85 } : Room) s m args below meth c A Q g 4 0 0 [(h0, .inr (4, [.ref h1, .int x1])), (h1, .inl (gB g, 1500, .inl fn0))] 2 [(3, .int z1), (0, .ref h0), (1, .int x0), (2, .ref (g.2.2.1 4))] [] := by
    intro n2
    induction n2 with
    | zero => intro z1 i6 hm5; exact absurd hm5 (Nat.not_lt_zero _)
    | succ n2 ih4 =>
      intro z1 i6 hm5
      obtain ⟨i6a, i6b⟩ := i6
      refine r_iload_n 2 0 C dX10_isAt_2 rfl ?_
      refine r_aload_n 3 3 C dX10_isAt_3 rfl ?_
      refine r_scallVi 4 C dX10_isAt_4 [.int z1] 4 (by decide) [] [(h0, .inr (4, [.ref h1, .int x1])), (h1, .inl (gB g, 1500, .inl fn0))] (fun sz => c144_J0_length_8abf5 l g   sz) gX10_isAt_J0_length_8abf5 rfl ⟨rfl, rfl⟩ 0 (by decide) ⟨Nat.le_of_ble_eq_true rfl, Nat.le_of_ble_eq_true rfl⟩ [] [0, 1] rfl rfl (by decide) (by decide) (by decide) rfl rfl (Nat.le_of_ble_eq_true rfl) ⟨Nat.le_of_ble_eq_true rfl, Nat.le_of_ble_eq_true rfl⟩ (fun r7 _ w8 => ?_)
      refine r_ws [(h0, .inr (4, [.ref h1, .int x1])), (h1, .inl (gB g, 1500, .inl fn0))] rfl ?_
      have p9 : 3 = r7 := (w8).symm
      subst p9
      refine r_icmp_ge 7 34 C dX10_isAt_7 (by decide) (fun c10 => ?_) (fun c10 => ?_)
      · skip
        have k11 : 3 ≤ (Int32.toInt z1) := (fa_le 3 z1).mp c10
        refine r_iconst 34 1 C dX10_isAt_34 (by decide) ?_
        exact r_zret 35 Rt dX10_isAt_35 (by decide) () (show 0 ≤ (Int32.toInt 1) ∧ (Int32.toInt 1) ≤ 1 from ⟨(by ((repeat' apply And.intro) <;> first | trivial | rfl | assumption | omega | decide | exact Or.inl rfl | exact Or.inr (Or.inl rfl) | exact Or.inr (Or.inr rfl))), (by ((repeat' apply And.intro) <;> first | trivial | rfl | assumption | omega | decide | exact Or.inl rfl | exact Or.inr (Or.inl rfl) | exact Or.inr (Or.inr rfl)))⟩) [0, 1] (by decide) rfl (Nat.le_of_ble_eq_true rfl) (Nat.le_of_ble_eq_true rfl)
      · skip
        have k12 : ¬ (3 ≤ (Int32.toInt z1)) := fun h_9 => c10 ((fa_le 3 z1).mpr h_9)
        refine r_aload_n 10 1 C dX10_isAt_10 rfl ?_
        refine r_iload_n 11 2 C dX10_isAt_11 rfl ?_
        refine r_iload_n 12 0 C dX10_isAt_12 rfl ?_
        obtain ⟨z13, ez13⟩ : ∃ z_9, x0 + z1 = z_9 := ⟨_, rfl⟩
        have gz13 := fb_rng z13
        refine r_iadd 13 z13 C dX10_isAt_13 ez13 ?_
        obtain ⟨z14, ez14⟩ : ∃ z_9, Int32.toInt64 z13 = z_9 := ⟨_, rfl⟩
        have tz14 : (Int64.toInt z14) = (Int32.toInt z13) := by rw [← ez14]; exact Int32.toInt_toInt64 _
        refine r_i2l 14 z14 C dX10_isAt_14 ez14 ?_
        refine r_callVi 15 C dX10_isAt_15 [] [(h0, .inr (4, [.ref h1, .int x1])), (h1, .inl (gB g, 1500, .inl fn0))] [] (fun sz => c14_X5_get l g h0 h1 z14 x1 fn0 i_x1 sz) gX10_isAt_X5_get rfl ⟨rfl, rfl⟩ 1 (by decide) ⟨Nat.le_of_ble_eq_true rfl, Nat.le_of_ble_eq_true rfl⟩ 0 rfl rfl [0, 1] [] rfl rfl (by decide) (by decide) (by decide) rfl rfl (Nat.le_of_ble_eq_true rfl) ⟨Nat.le_of_ble_eq_true rfl, Nat.le_of_ble_eq_true rfl⟩ (fun r15 _ w16 => ?_)
        refine r_ws [(h0, .inr (4, [.ref h1, .int x1])), (h1, .inl (gB g, 1500, .inl fn0))] rfl ?_
        have p17 : -1 ≤ (Int32.toInt r15) := w16.1
        have p18 : (Int32.toInt r15) ≤ 255 := w16.2
        refine r_aload_n 18 3 C dX10_isAt_18 rfl ?_
        refine r_iload_n 19 0 C dX10_isAt_19 rfl ?_
        refine r_scallVi 20 C dX10_isAt_20 [.int r15] 4 (by decide) [] [(h0, .inr (4, [.ref h1, .int x1])), (h1, .inl (gB g, 1500, .inl fn0))] (fun sz => c150_J0_charAt_5068e l g z1 ⟨by omega, by omega⟩ sz) gX10_isAt_J0_charAt_5068e rfl ⟨rfl, rfl⟩ 1 (by decide) ⟨Nat.le_of_ble_eq_true rfl, Nat.le_of_ble_eq_true rfl⟩ [] [0, 1] rfl rfl (by decide) (by decide) (by decide) rfl rfl (Nat.le_of_ble_eq_true rfl) ⟨Nat.le_of_ble_eq_true rfl, Nat.le_of_ble_eq_true rfl⟩ (fun r19 _ w20 => ?_)
        refine r_ws [(h0, .inr (4, [.ref h1, .int x1])), (h1, .inl (gB g, 1500, .inl fn0))] rfl ?_
        have p21 : 0 ≤ (Int32.toInt r19) := w20.1
        have p22 : (Int32.toInt r19) ≤ 65535 := w20.2
        refine r_icmp_eq 23 28 C dX10_isAt_23 (by decide) (fun c23 => ?_) (fun c23 => ?_)
        · skip
          have k24 : (Int32.toInt r15) = (Int32.toInt r19) := (fa_eq r15 r19).mp c23
          obtain ⟨z25, ez25⟩ : ∃ z_9, z1 + Int32.ofInt 1 = z_9 := ⟨_, rfl⟩
          have tz25 : (Int32.toInt z25) = (Int32.toInt z1) + 1 := by rw [← ez25]; exact fb_addIv (a := 0) (b := 3) (c := 1) (d := 1) ⟨i6a, i6b⟩ ⟨by decide, by decide⟩ (by decide) (by decide)
          refine r_iinc 28 0 z25 C dX10_isAt_28 rfl ez25 [(3, .int z25), (0, .ref h0), (1, .int x0), (2, .ref (g.2.2.1 4))] (by decide) rfl ?_
          refine r_goto 31 2 C dX10_isAt_31 (by decide) ?_
          exact ih4 z25 ⟨by omega, by omega⟩ (by omega)
        · skip
          have k26 : ¬ ((Int32.toInt r15) = (Int32.toInt r19)) := fun h_9 => c23 ((fa_eq r15 r19).mpr h_9)
          refine r_iconst 26 0 C dX10_isAt_26 (by decide) ?_
          exact r_zret 27 Rt dX10_isAt_27 (by decide) () (show 0 ≤ (Int32.toInt 0) ∧ (Int32.toInt 0) ≤ 1 from ⟨(by ((repeat' apply And.intro) <;> first | trivial | rfl | assumption | omega | decide | exact Or.inl rfl | exact Or.inr (Or.inl rfl) | exact Or.inr (Or.inr rfl))), (by ((repeat' apply And.intro) <;> first | trivial | rfl | assumption | omega | decide | exact Or.inl rfl | exact Or.inr (Or.inl rfl) | exact Or.inr (Or.inr rfl)))⟩) [0, 1] (by decide) rfl (Nat.le_of_ble_eq_true rfl) (Nat.le_of_ble_eq_true rfl)
  exact lp3 _ 0 (by decide) (Nat.lt_succ_self _)
set_option maxHeartbeats 4000000 in
set_option maxRecDepth 100000 in
theorem c152_X10_isWord (l : Launch) (g : GD) (h0 : Nat) (h1 : Nat) (h2 : Nat) (h3 : Nat) (x0 : Int32) (x1 : Int32) (x2 : Int32) (x3 : Int32) (x4 : Int32) (x5 : Int32) (x6 : Int32) (x7 : Int32) (x8 : Int32) (fn0 : Nat → Int32) (i_x4 : (0 ≤ (Int32.toInt x4) ∧ (Int32.toInt x4) ≤ 1)) (i_x8 : (0 ≤ (Int32.toInt x8) ∧ (Int32.toInt x8) ≤ 1500)) (sz : Nat) : Met l yX10_isWord wsX10_isWord ({ frames := 5, cells := 0, slots := 0, locals := 108 }) (va_Pc [.ref h0, .ref (g.2.2.1 4)] (PW g [(h0, .inr (9, [.ref h3, .ref h1, .int x0, .int x1, .int x2, .int x3, .int x4, .int x5, .int x6, .int x7])), (h1, .inr (4, [.ref h2, .int x8])), (h2, .inl (gB g, 1500, .inl fn0))] sz)) (va_Qi (fun (r : Int32) (_ : Unit) => 0 ≤ (Int32.toInt r) ∧ (Int32.toInt r) ≤ 1) (BW g (va_A [(h0, .inr (9, [.ref h3, .ref h1, .int x0, .int x1, .int x2, .int x3, .int x4, .int x5, .int x6, .int x7])), (h1, .inr (4, [.ref h2, .int x8])), (h2, .inl (gB g, 1500, .inl fn0))] sz) (fun _ : Unit => [(h0, .inr (9, [.ref h3, .ref h1, .int x0, .int x1, .int x2, .int x3, .int x4, .int x5, .int x6, .int x7])), (h1, .inr (4, [.ref h2, .int x8])), (h2, .inl (gB g, 1500, .inl fn0))])) (va_A [(h0, .inr (9, [.ref h3, .ref h1, .int x0, .int x1, .int x2, .int x3, .int x4, .int x5, .int x6, .int x7])), (h1, .inr (4, [.ref h2, .int x8])), (h2, .inl (gB g, 1500, .inl fn0))] sz)) 0 0 (va_A [(h0, .inr (9, [.ref h3, .ref h1, .int x0, .int x1, .int x2, .int x3, .int x4, .int x5, .int x6, .int x7])), (h1, .inr (4, [.ref h2, .int x8])), (h2, .inl (gB g, 1500, .inl fn0))] sz) := by
  refine met_z RX10 (by decide) rfl rfl (Nat.le_of_ble_eq_true rfl) [(0, .ref h0), (1, .ref (g.2.2.1 4))] rfl ?_
  intro p e s m args below meth c A Q C hnm Rt
  have hiX10 : ∀ w ∈ wsX100, w ∈ wsX10_isWord := fun w h => List.mem_cons_of_mem _ (List.mem_append_left _ (List.mem_append_right _ (h)))
  refine r_aload_n 0 0 C dX10_isWord_0 rfl ?_
  refine r_get 1 C dX10_isWord_1 (k := 4) 0 rfl rfl hiX10 (by decide) rfl (mg 1 rfl) (Or.inl rfl) rfl ?_
  refine r_aload_n 4 0 C dX10_isWord_4 rfl ?_
  refine r_get 5 C dX10_isWord_5 (k := 3) 0 rfl rfl hiX10 (by decide) rfl (mg 2 rfl) (Or.inl rfl) rfl ?_
  obtain ⟨z1, ez1⟩ : ∃ z_9, x2 - x1 = z_9 := ⟨_, rfl⟩
  have gz1 := fb_rng z1
  refine r_isub 8 z1 C dX10_isWord_8 ez1 ?_
  refine r_aload_n 9 1 C dX10_isWord_9 rfl ?_
  refine r_scallVi 10 C dX10_isWord_10 [.int z1] 4 (by decide) [] [(h0, .inr (9, [.ref h3, .ref h1, .int x0, .int x1, .int x2, .int x3, .int x4, .int x5, .int x6, .int x7])), (h1, .inr (4, [.ref h2, .int x8])), (h2, .inl (gB g, 1500, .inl fn0))] (fun sz => c144_J0_length_8abf5 l g   sz) gX10_isWord_J0_length_8abf5 rfl ⟨rfl, rfl⟩ 0 (by decide) ⟨Nat.le_of_ble_eq_true rfl, Nat.le_of_ble_eq_true rfl⟩ [] [0, 1, 2] rfl rfl (by decide) (by decide) (by decide) rfl rfl (Nat.le_of_ble_eq_true rfl) ⟨Nat.le_of_ble_eq_true rfl, Nat.le_of_ble_eq_true rfl⟩ (fun r2 _ w3 => ?_)
  refine r_ws [(h0, .inr (9, [.ref h3, .ref h1, .int x0, .int x1, .int x2, .int x3, .int x4, .int x5, .int x6, .int x7])), (h1, .inr (4, [.ref h2, .int x8])), (h2, .inl (gB g, 1500, .inl fn0))] rfl ?_
  have p4 : 3 = r2 := (w3).symm
  subst p4
  refine r_icmp_ne 13 35 C dX10_isWord_13 (by decide) (fun c5 => ?_) (fun c5 => ?_)
  · skip
    have k6 : ¬ ((Int32.toInt z1) = 3) := fun h_9 => c5 ((fa_eq z1 3).mpr h_9)
    refine r_iconst 35 0 C dX10_isWord_35 (by decide) ?_
    exact r_zret 36 Rt dX10_isWord_36 (by decide) () (show 0 ≤ (Int32.toInt 0) ∧ (Int32.toInt 0) ≤ 1 from ⟨(by ((repeat' apply And.intro) <;> first | trivial | rfl | assumption | omega | decide | exact Or.inl rfl | exact Or.inr (Or.inl rfl) | exact Or.inr (Or.inr rfl))), (by ((repeat' apply And.intro) <;> first | trivial | rfl | assumption | omega | decide | exact Or.inl rfl | exact Or.inr (Or.inl rfl) | exact Or.inr (Or.inr rfl)))⟩) [0, 1, 2] (by decide) rfl (Nat.le_of_ble_eq_true rfl) (Nat.le_of_ble_eq_true rfl)
  · skip
    have k7 : (Int32.toInt z1) = 3 := (fa_eq z1 3).mp c5
    refine r_aload_n 16 0 C dX10_isWord_16 rfl ?_
    refine r_get 17 C dX10_isWord_17 (k := 1) 0 rfl rfl hiX10 (by decide) rfl (mg 3 rfl) (Or.inl rfl) rfl ?_
    refine r_aload_n 20 0 C dX10_isWord_20 rfl ?_
    refine r_get 21 C dX10_isWord_21 (k := 3) 0 rfl rfl hiX10 (by decide) rfl (mg 2 rfl) (Or.inl rfl) rfl ?_
    refine r_aload_n 24 1 C dX10_isWord_24 rfl ?_
    refine r_callSi 25 C dX10_isWord_25 [] [(h1, .inr (4, [.ref h2, .int x8])), (h2, .inl (gB g, 1500, .inl fn0))] [(h0, .inr (9, [.ref h3, .ref h1, .int x0, .int x1, .int x2, .int x3, .int x4, .int x5, .int x6, .int x7]))] (fun sz => c151_X10_isAt l g h1 h2 x1 x8 fn0 i_x8 sz) gX10_isWord_X10_isAt rfl ⟨rfl, rfl⟩ 3 (by decide) ⟨Nat.le_of_ble_eq_true rfl, Nat.le_of_ble_eq_true rfl⟩ [1, 2] [0] rfl rfl (by decide) (by decide) (by decide) rfl rfl (Nat.le_of_ble_eq_true rfl) ⟨Nat.le_of_ble_eq_true rfl, Nat.le_of_ble_eq_true rfl⟩ (fun r8 _ w9 => ?_)
    refine r_ws [(h0, .inr (9, [.ref h3, .ref h1, .int x0, .int x1, .int x2, .int x3, .int x4, .int x5, .int x6, .int x7])), (h1, .inr (4, [.ref h2, .int x8])), (h2, .inl (gB g, 1500, .inl fn0))] rfl ?_
    have p10 : 0 ≤ (Int32.toInt r8) := w9.1
    have p11 : (Int32.toInt r8) ≤ 1 := w9.2
    refine r_if_eq 28 35 C dX10_isWord_28 (by decide) (fun c12 => ?_) (fun c12 => ?_)
    · skip
      have k13 : (Int32.toInt r8) = 0 := (fa_eq r8 0).mp c12
      refine r_iconst 35 0 C dX10_isWord_35 (by decide) ?_
      exact r_zret 36 Rt dX10_isWord_36 (by decide) () (show 0 ≤ (Int32.toInt 0) ∧ (Int32.toInt 0) ≤ 1 from ⟨(by ((repeat' apply And.intro) <;> first | trivial | rfl | assumption | omega | decide | exact Or.inl rfl | exact Or.inr (Or.inl rfl) | exact Or.inr (Or.inr rfl))), (by ((repeat' apply And.intro) <;> first | trivial | rfl | assumption | omega | decide | exact Or.inl rfl | exact Or.inr (Or.inl rfl) | exact Or.inr (Or.inr rfl)))⟩) [0, 1, 2] (by decide) rfl (Nat.le_of_ble_eq_true rfl) (Nat.le_of_ble_eq_true rfl)
    · skip
      have k14 : ¬ ((Int32.toInt r8) = 0) := fun h_9 => c12 ((fa_eq r8 0).mpr h_9)
      refine r_iconst 31 1 C dX10_isWord_31 (by decide) ?_
      refine r_goto 32 36 C dX10_isWord_32 (by decide) ?_
      exact r_zret 36 Rt dX10_isWord_36 (by decide) () (show 0 ≤ (Int32.toInt 1) ∧ (Int32.toInt 1) ≤ 1 from ⟨(by ((repeat' apply And.intro) <;> first | trivial | rfl | assumption | omega | decide | exact Or.inl rfl | exact Or.inr (Or.inl rfl) | exact Or.inr (Or.inr rfl))), (by ((repeat' apply And.intro) <;> first | trivial | rfl | assumption | omega | decide | exact Or.inl rfl | exact Or.inr (Or.inl rfl) | exact Or.inr (Or.inr rfl)))⟩) [0, 1, 2] (by decide) rfl (Nat.le_of_ble_eq_true rfl) (Nat.le_of_ble_eq_true rfl)
set_option maxHeartbeats 4000000 in
set_option maxRecDepth 100000 in
theorem c153_X10_countOfWord (l : Launch) (g : GD) (h0 : Nat) (h1 : Nat) (h2 : Nat) (h3 : Nat) (x0 : Int32) (x1 : Int32) (x2 : Int32) (x3 : Int32) (x4 : Int32) (x5 : Int32) (x6 : Int32) (x7 : Int32) (x8 : Int32) (fn0 : Nat → Int32) (i_x4 : (0 ≤ (Int32.toInt x4) ∧ (Int32.toInt x4) ≤ 1)) (i_x8 : (0 ≤ (Int32.toInt x8) ∧ (Int32.toInt x8) ≤ 1500)) (sz : Nat) : Met l yX10_countOfWord wsX10_countOfWord ({ frames := 1, cells := 0, slots := 0, locals := 22 }) (va_Pc [.ref h0] (PW g [(h0, .inr (9, [.ref h3, .ref h1, .int x0, .int x1, .int x2, .int x3, .int x4, .int x5, .int x6, .int x7])), (h1, .inr (4, [.ref h2, .int x8])), (h2, .inl (gB g, 1500, .inl fn0))] sz)) (va_Qi (fun (r : Int32) (_ : Unit) => -1 ≤ (Int32.toInt r) ∧ (Int32.toInt r) ≤ 9999) (BW g (va_A [(h0, .inr (9, [.ref h3, .ref h1, .int x0, .int x1, .int x2, .int x3, .int x4, .int x5, .int x6, .int x7])), (h1, .inr (4, [.ref h2, .int x8])), (h2, .inl (gB g, 1500, .inl fn0))] sz) (fun _ : Unit => [(h0, .inr (9, [.ref h3, .ref h1, .int x0, .int x1, .int x2, .int x3, .int x4, .int x5, .int x6, .int x7])), (h1, .inr (4, [.ref h2, .int x8])), (h2, .inl (gB g, 1500, .inl fn0))])) (va_A [(h0, .inr (9, [.ref h3, .ref h1, .int x0, .int x1, .int x2, .int x3, .int x4, .int x5, .int x6, .int x7])), (h1, .inr (4, [.ref h2, .int x8])), (h2, .inl (gB g, 1500, .inl fn0))] sz)) 0 0 (va_A [(h0, .inr (9, [.ref h3, .ref h1, .int x0, .int x1, .int x2, .int x3, .int x4, .int x5, .int x6, .int x7])), (h1, .inr (4, [.ref h2, .int x8])), (h2, .inl (gB g, 1500, .inl fn0))] sz) := by
  refine met_i RX10 (by decide) rfl rfl (Nat.le_of_ble_eq_true rfl) [(0, .ref h0)] rfl ?_
  intro p e s m args below meth c A Q C hnm Rt
  have gx2 := fb_rng x2
  have hiX10 : ∀ w ∈ wsX100, w ∈ wsX10_countOfWord := fun w h => List.mem_cons_of_mem _ (List.mem_append_left _ (List.mem_append_right _ (h)))
  refine r_iconst 0 0 C dX10_countOfWord_0 (by decide) ?_
  refine r_istore_n 1 C dX10_countOfWord_1 [(1, .int 0), (0, .ref h0)] (by decide) rfl ?_
  refine r_aload_n 2 1 C dX10_countOfWord_2 rfl ?_
  refine r_get 3 C dX10_countOfWord_3 (k := 3) 0 rfl rfl hiX10 (by decide) rfl (mg 1 rfl) (Or.inl rfl) rfl ?_
  refine r_istore_n 6 C dX10_countOfWord_6 [(2, .int x1), (1, .int 0), (0, .ref h0)] (by decide) rfl ?_
  have lp4 : ∀ (n3 : Nat) (z1 : Int32) (z2 : Int32), (0 ≤ (Int32.toInt z2) ∧ (Int32.toInt z2) ≤ 10000) → Int.toNat (2147483647 - (Int32.toInt z1)) < n3 → WW p l e ({ frames := 1, cells := 0, slots := 0, locals := 22 } : Room) s m args below meth c A Q g 4 0 0 [(h0, .inr (9, [.ref h3, .ref h1, .int x0, .int x1, .int x2, .int x3, .int x4, .int x5, .int x6, .int x7])), (h1, .inr (4, [.ref h2, .int x8])), (h2, .inl (gB g, 1500, .inl fn0))] 7 [(2, .int z1), (1, .int z2), (0, .ref h0)] [] := by
    intro n3
    induction n3 with
    | zero => intro z1 z2 i7 hm6; exact absurd hm6 (Nat.not_lt_zero _)
    | succ n3 ih5 =>
      intro z1 z2 i7 hm6
      obtain ⟨i7a, i7b⟩ := i7
      have gz1 := fb_rng z1
      refine r_iload_n 7 0 C dX10_countOfWord_7 rfl ?_
      refine r_aload_n 8 2 C dX10_countOfWord_8 rfl ?_
      refine r_get 9 C dX10_countOfWord_9 (k := 4) 0 rfl rfl hiX10 (by decide) rfl (mg 2 rfl) (Or.inl rfl) rfl ?_
      refine r_icmp_ge 12 61 C dX10_countOfWord_12 (by decide) (fun c8 => ?_) (fun c8 => ?_)
      · skip
        have k9 : (Int32.toInt x2) ≤ (Int32.toInt z1) := (fa_le x2 z1).mp c8
        refine r_iload_n 61 1 C dX10_countOfWord_61 rfl ?_
        refine r_sipush 62 10000 C dX10_countOfWord_62 (by decide) ?_
        refine r_icmp_ge 65 72 C dX10_countOfWord_65 (by decide) (fun c10 => ?_) (fun c10 => ?_)
        · skip
          have k11 : 10000 ≤ (Int32.toInt z2) := (fa_le 10000 z2).mp c10
          refine r_iconst 72 (-1) C dX10_countOfWord_72 (by decide) ?_
          exact r_iret 73 Rt dX10_countOfWord_73 () (show -1 ≤ (Int32.toInt (-1)) ∧ (Int32.toInt (-1)) ≤ 9999 from ⟨(by ((repeat' apply And.intro) <;> first | trivial | rfl | assumption | omega | decide | exact Or.inl rfl | exact Or.inr (Or.inl rfl) | exact Or.inr (Or.inr rfl))), (by ((repeat' apply And.intro) <;> first | trivial | rfl | assumption | omega | decide | exact Or.inl rfl | exact Or.inr (Or.inl rfl) | exact Or.inr (Or.inr rfl)))⟩) [0, 1, 2] (by decide) rfl (Nat.le_of_ble_eq_true rfl) (Nat.le_of_ble_eq_true rfl)
        · skip
          have k12 : ¬ (10000 ≤ (Int32.toInt z2)) := fun h_9 => c10 ((fa_le 10000 z2).mpr h_9)
          refine r_iload_n 68 1 C dX10_countOfWord_68 rfl ?_
          refine r_goto 69 73 C dX10_countOfWord_69 (by decide) ?_
          exact r_iret 73 Rt dX10_countOfWord_73 () (show -1 ≤ (Int32.toInt z2) ∧ (Int32.toInt z2) ≤ 9999 from ⟨(by ((repeat' apply And.intro) <;> first | trivial | rfl | assumption | omega | decide | exact Or.inl rfl | exact Or.inr (Or.inl rfl) | exact Or.inr (Or.inr rfl))), (by ((repeat' apply And.intro) <;> first | trivial | rfl | assumption | omega | decide | exact Or.inl rfl | exact Or.inr (Or.inl rfl) | exact Or.inr (Or.inr rfl)))⟩) [0, 1, 2] (by decide) rfl (Nat.le_of_ble_eq_true rfl) (Nat.le_of_ble_eq_true rfl)
      · skip
        have k13 : ¬ ((Int32.toInt x2) ≤ (Int32.toInt z1)) := fun h_9 => c8 ((fa_le x2 z1).mpr h_9)
        refine r_aload_n 15 2 C dX10_countOfWord_15 rfl ?_
        refine r_get 16 C dX10_countOfWord_16 (k := 1) 0 rfl rfl hiX10 (by decide) rfl (mg 3 rfl) (Or.inl rfl) rfl ?_
        refine r_iload_n 19 0 C dX10_countOfWord_19 rfl ?_
        obtain ⟨z14, ez14⟩ : ∃ z_9, Int32.toInt64 z1 = z_9 := ⟨_, rfl⟩
        have tz14 : (Int64.toInt z14) = (Int32.toInt z1) := by rw [← ez14]; exact Int32.toInt_toInt64 _
        refine r_i2l 20 z14 C dX10_countOfWord_20 ez14 ?_
        refine r_callVi 21 C dX10_countOfWord_21 [] [(h1, .inr (4, [.ref h2, .int x8])), (h2, .inl (gB g, 1500, .inl fn0))] [(h0, .inr (9, [.ref h3, .ref h1, .int x0, .int x1, .int x2, .int x3, .int x4, .int x5, .int x6, .int x7]))] (fun sz => c14_X5_get l g h1 h2 z14 x8 fn0 i_x8 sz) gX10_countOfWord_X5_get rfl ⟨rfl, rfl⟩ 1 (by decide) ⟨Nat.le_of_ble_eq_true rfl, Nat.le_of_ble_eq_true rfl⟩ 1 rfl rfl [1, 2] [0] rfl rfl (by decide) (by decide) (by decide) rfl rfl (Nat.le_of_ble_eq_true rfl) ⟨Nat.le_of_ble_eq_true rfl, Nat.le_of_ble_eq_true rfl⟩ (fun r15 _ w16 => ?_)
        refine r_ws [(h0, .inr (9, [.ref h3, .ref h1, .int x0, .int x1, .int x2, .int x3, .int x4, .int x5, .int x6, .int x7])), (h1, .inr (4, [.ref h2, .int x8])), (h2, .inl (gB g, 1500, .inl fn0))] rfl ?_
        have p17 : -1 ≤ (Int32.toInt r15) := w16.1
        have p18 : (Int32.toInt r15) ≤ 255 := w16.2
        refine r_istore_n 24 C dX10_countOfWord_24 [(3, .int r15), (2, .int z1), (1, .int z2), (0, .ref h0)] (by decide) rfl ?_
        refine r_iload_n 25 0 C dX10_countOfWord_25 rfl ?_
        refine r_bipush 26 48 C dX10_countOfWord_26 (by decide) ?_
        refine r_icmp_lt 28 37 C dX10_countOfWord_28 (by decide) (fun c19 => ?_) (fun c19 => ?_)
        · skip
          have k20 : (Int32.toInt r15) < 48 := (fa_lt r15 48).mp c19
          refine r_iconst 37 (-1) C dX10_countOfWord_37 (by decide) ?_
          exact r_iret 38 Rt dX10_countOfWord_38 () (show -1 ≤ (Int32.toInt (-1)) ∧ (Int32.toInt (-1)) ≤ 9999 from ⟨(by ((repeat' apply And.intro) <;> first | trivial | rfl | assumption | omega | decide | exact Or.inl rfl | exact Or.inr (Or.inl rfl) | exact Or.inr (Or.inr rfl))), (by ((repeat' apply And.intro) <;> first | trivial | rfl | assumption | omega | decide | exact Or.inl rfl | exact Or.inr (Or.inl rfl) | exact Or.inr (Or.inr rfl)))⟩) [0, 1, 2] (by decide) rfl (Nat.le_of_ble_eq_true rfl) (Nat.le_of_ble_eq_true rfl)
        · skip
          have k21 : ¬ ((Int32.toInt r15) < 48) := fun h_9 => c19 ((fa_lt r15 48).mpr h_9)
          refine r_iload_n 31 0 C dX10_countOfWord_31 rfl ?_
          refine r_bipush 32 57 C dX10_countOfWord_32 (by decide) ?_
          refine r_icmp_le 34 39 C dX10_countOfWord_34 (by decide) (fun c22 => ?_) (fun c22 => ?_)
          · skip
            have k23 : (Int32.toInt r15) ≤ 57 := (fa_le r15 57).mp c22
            refine r_iload_n 39 2 C dX10_countOfWord_39 rfl ?_
            refine r_bipush 40 10 C dX10_countOfWord_40 (by decide) ?_
            obtain ⟨z24, ez24⟩ : ∃ z_9, z2 * 10 = z_9 := ⟨_, rfl⟩
            have tz24 : (Int32.toInt z24) = (Int32.toInt z2) * 10 := by rw [← ez24]; exact fb_mulIv (a := 0) (b := 10000) (c := 10) ⟨i7a, i7b⟩ (by decide) (by decide) (by decide) (by decide)
            refine r_imul 42 z24 C dX10_countOfWord_42 ez24 ?_
            refine r_iload_n 43 0 C dX10_countOfWord_43 rfl ?_
            obtain ⟨z25, ez25⟩ : ∃ z_9, z24 + r15 = z_9 := ⟨_, rfl⟩
            have tz25 : (Int32.toInt z25) = (Int32.toInt z24) + (Int32.toInt r15) := by rw [← ez25]; exact fb_addIv (a := 0) (b := 100000) (c := (-1)) (d := 255) (iv_mul (a := 0) (b := 10000) (c := 10) ⟨i7a, i7b⟩ (by decide) tz24) ⟨p17, p18⟩ (by decide) (by decide)
            refine r_iadd 44 z25 C dX10_countOfWord_44 ez25 ?_
            refine r_bipush 45 48 C dX10_countOfWord_45 (by decide) ?_
            obtain ⟨z26, ez26⟩ : ∃ z_9, z25 - 48 = z_9 := ⟨_, rfl⟩
            have tz26 : (Int32.toInt z26) = (Int32.toInt z25) - 48 := by rw [← ez26]; exact fb_subIv (a := (-1)) (b := 100255) (c := 48) (d := 48) (iv_wide (c := (-1)) (d := 100255) (iv_add (a := 0) (b := 100000) (c := (-1)) (d := 255) (iv_mul (a := 0) (b := 10000) (c := 10) ⟨i7a, i7b⟩ (by decide) tz24) ⟨p17, p18⟩ tz25) (by decide) (by decide)) ⟨by decide, by decide⟩ (by decide) (by decide)
            refine r_isub 47 z26 C dX10_countOfWord_47 ez26 ?_
            refine r_sipush 48 10000 C dX10_countOfWord_48 (by decide) ?_
            obtain ⟨z27, ez27⟩ : ∃ z_9, (if 10000 < z26 then 10000 else z26) = z_9 := ⟨_, rfl⟩
            have tz27 : (10000 < (Int32.toInt z26) ∧ (Int32.toInt z27) = 10000) ∨ (¬ (10000 < (Int32.toInt z26)) ∧ (Int32.toInt z27) = (Int32.toInt z26)) := by rw [← ez27]; exact mx_or 10000 z26 10000 z26
            refine r_mmin 51 z27 C dX10_countOfWord_51 (mg 4 rfl) (mg 5 rfl) (mg 6 rfl) (mg 7 rfl) (Nat.le_of_ble_eq_true rfl) (Nat.le_of_ble_eq_true rfl) (Nat.le_of_ble_eq_true rfl) (Nat.le_of_ble_eq_true rfl) ez27 ?_
            refine r_istore_n 54 C dX10_countOfWord_54 [(1, .int z27), (3, .int r15), (2, .int z1), (0, .ref h0)] (by decide) rfl ?_
            obtain ⟨z28, ez28⟩ : ∃ z_9, z1 + Int32.ofInt 1 = z_9 := ⟨_, rfl⟩
            have tz28 : (Int32.toInt z28) = (Int32.toInt z1) + 1 := by rw [← ez28]; exact fb_addI (by show -2147483648 ≤ (Int32.toInt z1) + 1; omega) (by show (Int32.toInt z1) + 1 < 2147483648; omega)
            refine r_iinc 55 2 z28 C dX10_countOfWord_55 rfl ez28 [(2, .int z28), (1, .int z27), (3, .int r15), (0, .ref h0)] (by decide) rfl ?_
            refine r_goto 58 7 C dX10_countOfWord_58 (by decide) ?_
            refine r_lv [(2, .int z28), (1, .int z27), (0, .ref h0)] [0, 1, 3] rfl ?_
            exact ih5 z28 z27 ⟨by omega, by omega⟩ (by omega)
          · skip
            have k29 : ¬ ((Int32.toInt r15) ≤ 57) := fun h_9 => c22 ((fa_le r15 57).mpr h_9)
            refine r_iconst 37 (-1) C dX10_countOfWord_37 (by decide) ?_
            exact r_iret 38 Rt dX10_countOfWord_38 () (show -1 ≤ (Int32.toInt (-1)) ∧ (Int32.toInt (-1)) ≤ 9999 from ⟨(by ((repeat' apply And.intro) <;> first | trivial | rfl | assumption | omega | decide | exact Or.inl rfl | exact Or.inr (Or.inl rfl) | exact Or.inr (Or.inr rfl))), (by ((repeat' apply And.intro) <;> first | trivial | rfl | assumption | omega | decide | exact Or.inl rfl | exact Or.inr (Or.inl rfl) | exact Or.inr (Or.inr rfl)))⟩) [0, 1, 2] (by decide) rfl (Nat.le_of_ble_eq_true rfl) (Nat.le_of_ble_eq_true rfl)
  exact lp4 _ x1 0 (by decide) (Nat.lt_succ_self _)
set_option maxHeartbeats 4000000 in
set_option maxRecDepth 100000 in
theorem c154_X10_takeCount (l : Launch) (g : GD) (h0 : Nat) (h1 : Nat) (h2 : Nat) (h3 : Nat) (x0 : Int32) (x1 : Int32) (x2 : Int32) (x3 : Int32) (x4 : Int32) (x5 : Int32) (x6 : Int32) (x7 : Int32) (x8 : Int32) (fn0 : Nat → Int32) (i_x4 : (0 ≤ (Int32.toInt x4) ∧ (Int32.toInt x4) ≤ 1)) (i_x8 : (0 ≤ (Int32.toInt x8) ∧ (Int32.toInt x8) ≤ 1500)) (sz : Nat) : Met l yX10_takeCount wsX10_takeCount ({ frames := 2, cells := 0, slots := 0, locals := 45 }) (va_Pc [.ref h0] (PW g [(h0, .inr (9, [.ref h3, .ref h1, .int x0, .int x1, .int x2, .int x3, .int x4, .int x5, .int x6, .int x7])), (h1, .inr (4, [.ref h2, .int x8])), (h2, .inl (gB g, 1500, .inl fn0))] sz)) (va_Qi (fun (r : Int32) (u : (Int32) × (Int32) × (Int32) × (Int32)) => 0 ≤ (Int32.toInt r) ∧ (Int32.toInt r) ≤ 2) (BW g (va_A [(h0, .inr (9, [.ref h3, .ref h1, .int x0, .int x1, .int x2, .int x3, .int x4, .int x5, .int x6, .int x7])), (h1, .inr (4, [.ref h2, .int x8])), (h2, .inl (gB g, 1500, .inl fn0))] sz) (fun u : (Int32) × (Int32) × (Int32) × (Int32) => [(h0, .inr (9, [.ref h3, .ref h1, .int u.1, .int u.2.1, .int u.2.2.1, .int x3, .int x4, .int u.2.2.2, .int x6, .int x7])), (h1, .inr (4, [.ref h2, .int x8])), (h2, .inl (gB g, 1500, .inl fn0))])) (va_A [(h0, .inr (9, [.ref h3, .ref h1, .int x0, .int x1, .int x2, .int x3, .int x4, .int x5, .int x6, .int x7])), (h1, .inr (4, [.ref h2, .int x8])), (h2, .inl (gB g, 1500, .inl fn0))] sz)) 0 0 (va_A [(h0, .inr (9, [.ref h3, .ref h1, .int x0, .int x1, .int x2, .int x3, .int x4, .int x5, .int x6, .int x7])), (h1, .inr (4, [.ref h2, .int x8])), (h2, .inl (gB g, 1500, .inl fn0))] sz) := by
  refine met_i RX10 (by decide) rfl rfl (Nat.le_of_ble_eq_true rfl) [(0, .ref h0)] rfl ?_
  intro p e s m args below meth c A Q C hnm Rt
  have hiX10 : ∀ w ∈ wsX100, w ∈ wsX10_takeCount := fun w h => List.mem_cons_of_mem _ (List.mem_append_left _ (List.mem_append_right _ (h)))
  refine r_aload_n 0 0 C dX10_takeCount_0 rfl ?_
  refine r_callVi 1 C dX10_takeCount_1 [] [(h0, .inr (9, [.ref h3, .ref h1, .int x0, .int x1, .int x2, .int x3, .int x4, .int x5, .int x6, .int x7])), (h1, .inr (4, [.ref h2, .int x8])), (h2, .inl (gB g, 1500, .inl fn0))] [] (fun sz => c115_X10_takeWord l g h0 h1 h2 h3 x0 x1 x2 x3 x4 x5 x6 x7 x8 fn0 i_x4 i_x8 sz) gX10_takeCount_X10_takeWord rfl ⟨rfl, rfl⟩ 0 (by decide) ⟨Nat.le_of_ble_eq_true rfl, Nat.le_of_ble_eq_true rfl⟩ 0 rfl rfl [0, 1, 2] [] rfl rfl (by decide) (by decide) (by decide) rfl rfl (Nat.le_of_ble_eq_true rfl) ⟨Nat.le_of_ble_eq_true rfl, Nat.le_of_ble_eq_true rfl⟩ (fun r4 u6 w5 => ?_)
  obtain ⟨z1, z2, z3⟩ := u6
  refine r_ws [(h0, .inr (9, [.ref h3, .ref h1, .int z1, .int z2, .int z3, .int x3, .int x4, .int x5, .int x6, .int x7])), (h1, .inr (4, [.ref h2, .int x8])), (h2, .inl (gB g, 1500, .inl fn0))] rfl ?_
  have gz1 := fb_rng z1
  have gz2 := fb_rng z2
  have gz3 := fb_rng z3
  have p7 : 0 ≤ (Int32.toInt r4) := w5.1
  have p8 : (Int32.toInt r4) ≤ 1 := w5.2
  refine r_if_ne 4 9 C dX10_takeCount_4 (by decide) (fun c9 => ?_) (fun c9 => ?_)
  · skip
    have k10 : ¬ ((Int32.toInt r4) = 0) := fun h_9 => c9 ((fa_eq r4 0).mpr h_9)
    refine r_aload_n 9 0 C dX10_takeCount_9 rfl ?_
    refine r_aload_n 10 0 C dX10_takeCount_10 rfl ?_
    refine r_callVi 11 C dX10_takeCount_11 [.ref h0] [(h0, .inr (9, [.ref h3, .ref h1, .int z1, .int z2, .int z3, .int x3, .int x4, .int x5, .int x6, .int x7])), (h1, .inr (4, [.ref h2, .int x8])), (h2, .inl (gB g, 1500, .inl fn0))] [] (fun sz => c153_X10_countOfWord l g h0 h1 h2 h3 z1 z2 z3 x3 x4 x5 x6 x7 x8 fn0 i_x4 i_x8 sz) gX10_takeCount_X10_countOfWord rfl ⟨rfl, rfl⟩ 0 (by decide) ⟨Nat.le_of_ble_eq_true rfl, Nat.le_of_ble_eq_true rfl⟩ 0 rfl rfl [0, 1, 2] [] rfl rfl (by decide) (by decide) (by decide) rfl rfl (Nat.le_of_ble_eq_true rfl) ⟨Nat.le_of_ble_eq_true rfl, Nat.le_of_ble_eq_true rfl⟩ (fun r11 _ w12 => ?_)
    refine r_ws [(h0, .inr (9, [.ref h3, .ref h1, .int z1, .int z2, .int z3, .int x3, .int x4, .int x5, .int x6, .int x7])), (h1, .inr (4, [.ref h2, .int x8])), (h2, .inl (gB g, 1500, .inl fn0))] rfl ?_
    have p13 : -1 ≤ (Int32.toInt r11) := w12.1
    have p14 : (Int32.toInt r11) ≤ 9999 := w12.2
    refine r_put 14 C dX10_takeCount_14 (k := 7) 0 rfl rfl hiX10 tyX10 tyX10_ok nmX10 (by decide) rfl (mg 1 rfl) (Or.inl rfl) rfl rfl rfl rfl (Nat.le_of_ble_eq_true rfl) [(h0, .inr (9, [.ref h3, .ref h1, .int z1, .int z2, .int z3, .int x3, .int x4, .int r11, .int x6, .int x7])), (h1, .inr (4, [.ref h2, .int x8])), (h2, .inl (gB g, 1500, .inl fn0))] rfl ?_
    refine r_aload_n 17 0 C dX10_takeCount_17 rfl ?_
    refine r_get 18 C dX10_takeCount_18 (k := 7) 0 rfl rfl hiX10 (by decide) rfl (mg 1 rfl) (Or.inl rfl) rfl ?_
    refine r_iconst 21 (-1) C dX10_takeCount_21 (by decide) ?_
    refine r_icmp_ne 22 29 C dX10_takeCount_22 (by decide) (fun c15 => ?_) (fun c15 => ?_)
    · skip
      have k16 : ¬ ((Int32.toInt r11) = (-1)) := fun h_9 => c15 ((fa_eq r11 (-1)).mpr h_9)
      refine r_iconst 29 0 C dX10_takeCount_29 (by decide) ?_
      exact r_iret 30 Rt dX10_takeCount_30 (z1, z2, z3, r11) (show 0 ≤ (Int32.toInt 0) ∧ (Int32.toInt 0) ≤ 2 from ⟨(by ((repeat' apply And.intro) <;> first | trivial | rfl | assumption | omega | decide | exact Or.inl rfl | exact Or.inr (Or.inl rfl) | exact Or.inr (Or.inr rfl))), (by ((repeat' apply And.intro) <;> first | trivial | rfl | assumption | omega | decide | exact Or.inl rfl | exact Or.inr (Or.inl rfl) | exact Or.inr (Or.inr rfl)))⟩) [0, 1, 2] (by decide) rfl (Nat.le_of_ble_eq_true rfl) (Nat.le_of_ble_eq_true rfl)
    · skip
      have k17 : (Int32.toInt r11) = (-1) := (fa_eq r11 (-1)).mp c15
      refine r_iconst 25 2 C dX10_takeCount_25 (by decide) ?_
      refine r_goto 26 30 C dX10_takeCount_26 (by decide) ?_
      exact r_iret 30 Rt dX10_takeCount_30 (z1, z2, z3, r11) (show 0 ≤ (Int32.toInt 2) ∧ (Int32.toInt 2) ≤ 2 from ⟨(by ((repeat' apply And.intro) <;> first | trivial | rfl | assumption | omega | decide | exact Or.inl rfl | exact Or.inr (Or.inl rfl) | exact Or.inr (Or.inr rfl))), (by ((repeat' apply And.intro) <;> first | trivial | rfl | assumption | omega | decide | exact Or.inl rfl | exact Or.inr (Or.inl rfl) | exact Or.inr (Or.inr rfl)))⟩) [0, 1, 2] (by decide) rfl (Nat.le_of_ble_eq_true rfl) (Nat.le_of_ble_eq_true rfl)
  · skip
    have k18 : (Int32.toInt r4) = 0 := (fa_eq r4 0).mp c9
    refine r_iconst 7 1 C dX10_takeCount_7 (by decide) ?_
    exact r_iret 8 Rt dX10_takeCount_8 (z1, z2, z3, x5) (show 0 ≤ (Int32.toInt 1) ∧ (Int32.toInt 1) ≤ 2 from ⟨(by ((repeat' apply And.intro) <;> first | trivial | rfl | assumption | omega | decide | exact Or.inl rfl | exact Or.inr (Or.inl rfl) | exact Or.inr (Or.inr rfl))), (by ((repeat' apply And.intro) <;> first | trivial | rfl | assumption | omega | decide | exact Or.inl rfl | exact Or.inr (Or.inl rfl) | exact Or.inr (Or.inr rfl)))⟩) [0, 1, 2] (by decide) rfl (Nat.le_of_ble_eq_true rfl) (Nat.le_of_ble_eq_true rfl)
set_option maxHeartbeats 4000000 in
set_option maxRecDepth 100000 in
theorem c155_J0_coder_7d493 (l : Launch) (g : GD) (sz : Nat) : Met l yJ0_coder_7d493 wsJ0_coder_7d493 ({ frames := 0, cells := 0, slots := 0, locals := 0 }) (va_Pc [.ref (g.2.2.1 9)] (PW g [] sz)) (va_Qi (fun (r : Int32) (_ : Unit) => r = 0) (BW g (va_A [] sz) (fun _ : Unit => [])) (va_A [] sz)) 0 0 (va_A [] sz) := by
  refine met_b RJ0 (by decide) rfl rfl (Nat.le_of_ble_eq_true rfl) [(0, .ref (g.2.2.1 9))] rfl ?_
  intro p e s m args below meth c A Q C hnm Rt
  refine r_gets 0 C dJ0_coder_7d493_0 C.2.2.2.2.2.1.2.2.2.2.1 (mg 1 rfl) ?_
  refine r_if_eq_f 3 13 C dJ0_coder_7d493_3 (by decide) (by decide) ?_
  refine r_aload_n 6 0 C dJ0_coder_7d493_6 rfl ?_
  refine r_sget 7 9 C dJ0_coder_7d493_7 ((C.2.2.2.2.2.1.2.2.1.1 9 (by decide)).2.1) (mg 2 rfl) ?_
  refine r_goto 10 14 C dJ0_coder_7d493_10 (by decide) ?_
  exact r_bret 14 Rt dJ0_coder_7d493_14 (by decide) () (show 0 = 0 from (by ((repeat' apply And.intro) <;> first | trivial | rfl | assumption | omega | decide | exact Or.inl rfl | exact Or.inr (Or.inl rfl) | exact Or.inr (Or.inr rfl)))) [] (by decide) rfl (Nat.le_of_ble_eq_true rfl) (Nat.le_of_ble_eq_true rfl)
set_option maxHeartbeats 4000000 in
set_option maxRecDepth 100000 in
theorem c156_J0_length_8abf5 (l : Launch) (g : GD) (sz : Nat) : Met l yJ0_length_8abf5 wsJ0_length_8abf5 ({ frames := 1, cells := 0, slots := 0, locals := 20 }) (va_Pc [.ref (g.2.2.1 9)] (PW g [] sz)) (va_Qi (fun (r : Int32) (_ : Unit) => r = 2) (BW g (va_A [] sz) (fun _ : Unit => [])) (va_A [] sz)) 0 0 (va_A [] sz) := by
  refine met_i RJ0 (by decide) rfl rfl (Nat.le_of_ble_eq_true rfl) [(0, .ref (g.2.2.1 9))] rfl ?_
  intro p e s m args below meth c A Q C hnm Rt
  refine r_aload_n 0 0 C dJ0_length_8abf5_0 rfl ?_
  refine r_sget 1 9 C dJ0_length_8abf5_1 ((C.2.2.2.2.2.1.2.2.1.1 9 (by decide)).2.2.1) (mg 1 rfl) ?_
  refine r_stlen 4 2 C dJ0_length_8abf5_4 ((C.2.2.2.2.2.1.2.2.1.1 9 (by decide)).2.2.2) (by decide) ?_
  refine r_aload_n 5 0 C dJ0_length_8abf5_5 rfl ?_
  refine r_scallVi 6 C dJ0_length_8abf5_6 [.int 2] 9 (by decide) [] [] (fun sz => c155_J0_coder_7d493 l g   sz) gJ0_length_8abf5_J0_coder_7d493 rfl ⟨rfl, rfl⟩ 0 (by decide) ⟨Nat.le_of_ble_eq_true rfl, Nat.le_of_ble_eq_true rfl⟩ [] [] rfl rfl (by decide) (by decide) (by decide) rfl rfl (Nat.le_of_ble_eq_true rfl) ⟨Nat.le_of_ble_eq_true rfl, Nat.le_of_ble_eq_true rfl⟩ (fun r1 _ w2 => ?_)
  refine r_ws [] rfl ?_
  have p3 : 0 = r1 := (w2).symm
  subst p3
  refine r_ishr 9 2 C dJ0_length_8abf5_9 (by decide) ?_
  exact r_iret 10 Rt dJ0_length_8abf5_10 () (show 2 = 2 from (by ((repeat' apply And.intro) <;> first | trivial | rfl | assumption | omega | decide | exact Or.inl rfl | exact Or.inr (Or.inl rfl) | exact Or.inr (Or.inr rfl)))) [] (by decide) rfl (Nat.le_of_ble_eq_true rfl) (Nat.le_of_ble_eq_true rfl)
set_option maxHeartbeats 4000000 in
set_option maxRecDepth 100000 in
theorem c157_J0_isLatin1_aae02 (l : Launch) (g : GD) (sz : Nat) : Met l yJ0_isLatin1_aae02 wsJ0_isLatin1_aae02 ({ frames := 0, cells := 0, slots := 0, locals := 0 }) (va_Pc [.ref (g.2.2.1 9)] (PW g [] sz)) (va_Qi (fun (r : Int32) (_ : Unit) => r = 1) (BW g (va_A [] sz) (fun _ : Unit => [])) (va_A [] sz)) 0 0 (va_A [] sz) := by
  refine met_z RJ0 (by decide) rfl rfl (Nat.le_of_ble_eq_true rfl) [(0, .ref (g.2.2.1 9))] rfl ?_
  intro p e s m args below meth c A Q C hnm Rt
  refine r_gets 0 C dJ0_isLatin1_aae02_0 C.2.2.2.2.2.1.2.2.2.2.1 (mg 1 rfl) ?_
  refine r_if_eq_f 3 17 C dJ0_isLatin1_aae02_3 (by decide) (by decide) ?_
  refine r_aload_n 6 0 C dJ0_isLatin1_aae02_6 rfl ?_
  refine r_sget 7 9 C dJ0_isLatin1_aae02_7 ((C.2.2.2.2.2.1.2.2.1.1 9 (by decide)).2.1) (mg 2 rfl) ?_
  refine r_if_ne_f 10 17 C dJ0_isLatin1_aae02_10 (by decide) (by decide) ?_
  refine r_iconst 13 1 C dJ0_isLatin1_aae02_13 (by decide) ?_
  refine r_goto 14 18 C dJ0_isLatin1_aae02_14 (by decide) ?_
  exact r_zret 18 Rt dJ0_isLatin1_aae02_18 (by decide) () (show 1 = 1 from (by ((repeat' apply And.intro) <;> first | trivial | rfl | assumption | omega | decide | exact Or.inl rfl | exact Or.inr (Or.inl rfl) | exact Or.inr (Or.inr rfl)))) [] (by decide) rfl (Nat.le_of_ble_eq_true rfl) (Nat.le_of_ble_eq_true rfl)
set_option maxHeartbeats 4000000 in
set_option maxRecDepth 100000 in
theorem c158_J3_checkIndex_8e157 (l : Launch) (g : GD) (x0 : Int32) (i_x0 : (0 ≤ (Int32.toInt x0) ∧ (Int32.toInt x0) ≤ 1)) (sz : Nat) : Met l yJ3_checkIndex_8e157 wsJ3_checkIndex_8e157 ({ frames := 0, cells := 0, slots := 0, locals := 0 }) (va_Pc [.int x0, .int 2, .null] (PW g [] sz)) (va_Qi (fun (r : Int32) (_ : Unit) => r = x0) (BW g (va_A [] sz) (fun _ : Unit => [])) (va_A [] sz)) 0 0 (va_A [] sz) := by
  refine met_i RJ3 (by decide) rfl rfl (Nat.le_of_ble_eq_true rfl) [(0, .int x0), (1, .int 2), (2, .null)] rfl ?_
  intro p e s m args below meth c A Q C hnm Rt
  refine r_iload_n 0 0 C dJ3_checkIndex_8e157_0 rfl ?_
  refine r_if_lt_f 1 9 C dJ3_checkIndex_8e157_1 (by decide) (fun h_9 => by have h_8 : (Int32.toInt x0) < 0 := (fa_lt x0 0).mp h_9; omega) ?_
  refine r_iload_n 4 0 C dJ3_checkIndex_8e157_4 rfl ?_
  refine r_iload_n 5 1 C dJ3_checkIndex_8e157_5 rfl ?_
  refine r_icmp_lt_t 6 16 C dJ3_checkIndex_8e157_6 (by decide) ((fa_lt x0 2).mpr (by show (Int32.toInt x0) < 2; omega)) ?_
  refine r_iload_n 16 0 C dJ3_checkIndex_8e157_16 rfl ?_
  exact r_iret 17 Rt dJ3_checkIndex_8e157_17 () (show x0 = x0 from (by ((repeat' apply And.intro) <;> first | trivial | rfl | assumption | omega | decide | exact Or.inl rfl | exact Or.inr (Or.inl rfl) | exact Or.inr (Or.inr rfl)))) [] (by decide) rfl (Nat.le_of_ble_eq_true rfl) (Nat.le_of_ble_eq_true rfl)
set_option maxHeartbeats 4000000 in
set_option maxRecDepth 100000 in
theorem c159_J3_checkIndex_8e157 (l : Launch) (g : GD) (x0 : Int32) (h0 : Nat) (i_x0 : (0 ≤ (Int32.toInt x0) ∧ (Int32.toInt x0) ≤ 1)) (sz : Nat) : Met l yJ3_checkIndex_8e157 wsJ3_checkIndex_8e157 ({ frames := 0, cells := 0, slots := 0, locals := 0 }) (va_Pc [.int x0, .int 2, .ref h0] (PW g [] sz)) (va_Qi (fun (r : Int32) (_ : Unit) => r = x0) (BW g (va_A [] sz) (fun _ : Unit => [])) (va_A [] sz)) 0 0 (va_A [] sz) := by
  refine met_i RJ3 (by decide) rfl rfl (Nat.le_of_ble_eq_true rfl) [(0, .int x0), (1, .int 2), (2, .ref h0)] rfl ?_
  intro p e s m args below meth c A Q C hnm Rt
  refine r_iload_n 0 0 C dJ3_checkIndex_8e157_0 rfl ?_
  refine r_if_lt_f 1 9 C dJ3_checkIndex_8e157_1 (by decide) (fun h_9 => by have h_8 : (Int32.toInt x0) < 0 := (fa_lt x0 0).mp h_9; omega) ?_
  refine r_iload_n 4 0 C dJ3_checkIndex_8e157_4 rfl ?_
  refine r_iload_n 5 1 C dJ3_checkIndex_8e157_5 rfl ?_
  refine r_icmp_lt_t 6 16 C dJ3_checkIndex_8e157_6 (by decide) ((fa_lt x0 2).mpr (by show (Int32.toInt x0) < 2; omega)) ?_
  refine r_iload_n 16 0 C dJ3_checkIndex_8e157_16 rfl ?_
  exact r_iret 17 Rt dJ3_checkIndex_8e157_17 () (show x0 = x0 from (by ((repeat' apply And.intro) <;> first | trivial | rfl | assumption | omega | decide | exact Or.inl rfl | exact Or.inr (Or.inl rfl) | exact Or.inr (Or.inr rfl)))) [] (by decide) rfl (Nat.le_of_ble_eq_true rfl) (Nat.le_of_ble_eq_true rfl)
set_option maxHeartbeats 4000000 in
set_option maxRecDepth 100000 in
theorem c160_J0_checkIndex_df160 (l : Launch) (g : GD) (x0 : Int32) (i_x0 : (0 ≤ (Int32.toInt x0) ∧ (Int32.toInt x0) ≤ 1)) (sz : Nat) : Met l yJ0_checkIndex_df160 wsJ0_checkIndex_df160 ({ frames := 1, cells := 0, slots := 0, locals := 22 }) (va_Pc [.int x0, .int 2] (PW g [] sz)) (va_Qv (fun (_ : Unit) => True) (BW g (va_A [] sz) (fun _ : Unit => [])) (va_A [] sz)) 0 0 (va_A [] sz) := by
  refine met_v RJ0 (by decide) rfl rfl (Nat.le_of_ble_eq_true rfl) [(0, .int x0), (1, .int 2)] rfl ?_
  intro p e s m args below meth c A Q C hnm Rt
  refine r_iload_n 0 0 C dJ0_checkIndex_df160_0 rfl ?_
  refine r_iload_n 1 1 C dJ0_checkIndex_df160_1 rfl ?_
  refine r_getsq2 2 C dJ0_checkIndex_df160_2 C.2.2.2.2.2.1.2.2.2.2.2 (mg 1 rfl) ?_ (fun q1 => ?_)
  · skip
    refine r_callSi 5 C dJ0_checkIndex_df160_5 [] [] [] (fun sz => c158_J3_checkIndex_8e157 l g x0 i_x0 sz) gJ0_checkIndex_df160_J3_checkIndex_8e157 rfl ⟨rfl, rfl⟩ 3 (by decide) ⟨Nat.le_of_ble_eq_true rfl, Nat.le_of_ble_eq_true rfl⟩ [] [] rfl rfl (by decide) (by decide) (by decide) rfl rfl (Nat.le_of_ble_eq_true rfl) ⟨Nat.le_of_ble_eq_true rfl, Nat.le_of_ble_eq_true rfl⟩ (fun r2 _ w3 => ?_)
    refine r_ws [] rfl ?_
    have p4 : x0 = r2 := (w3).symm
    subst p4
    refine r_pop 8 C dJ0_checkIndex_df160_8 rfl ?_
    exact r_vret 9 Rt dJ0_checkIndex_df160_9 () trivial [] (by decide) rfl (Nat.le_of_ble_eq_true rfl) (Nat.le_of_ble_eq_true rfl)
  · skip
    refine r_callSi 5 C dJ0_checkIndex_df160_5 [] [] [] (fun sz => c159_J3_checkIndex_8e157 l g x0 q1 i_x0 sz) gJ0_checkIndex_df160_J3_checkIndex_8e157 rfl ⟨rfl, rfl⟩ 3 (by decide) ⟨Nat.le_of_ble_eq_true rfl, Nat.le_of_ble_eq_true rfl⟩ [] [] rfl rfl (by decide) (by decide) (by decide) rfl rfl (Nat.le_of_ble_eq_true rfl) ⟨Nat.le_of_ble_eq_true rfl, Nat.le_of_ble_eq_true rfl⟩ (fun r5 _ w6 => ?_)
    refine r_ws [] rfl ?_
    have p7 : x0 = r5 := (w6).symm
    subst p7
    refine r_pop 8 C dJ0_checkIndex_df160_8 rfl ?_
    exact r_vret 9 Rt dJ0_checkIndex_df160_9 () trivial [] (by decide) rfl (Nat.le_of_ble_eq_true rfl) (Nat.le_of_ble_eq_true rfl)
set_option maxHeartbeats 4000000 in
set_option maxRecDepth 100000 in
theorem c161_J1_charAt_3b067 (l : Launch) (g : GD) (x0 : Int32) (i_x0 : (0 ≤ (Int32.toInt x0) ∧ (Int32.toInt x0) ≤ 1)) (sz : Nat) : Met l yJ1_charAt_3b067 wsJ1_charAt_3b067 ({ frames := 2, cells := 0, slots := 0, locals := 43 }) (va_Pc [.ref (g.2.2.2 9), .int x0] (PW g [] sz)) (va_Qi (fun (r : Int32) (_ : Unit) => 0 ≤ (Int32.toInt r) ∧ (Int32.toInt r) ≤ 65535) (BW g (va_A [] sz) (fun _ : Unit => [])) (va_A [] sz)) 0 0 (va_A [] sz) := by
  refine met_c RJ1 (by decide) rfl rfl (Nat.le_of_ble_eq_true rfl) [(0, .ref (g.2.2.2 9)), (1, .int x0)] rfl ?_
  intro p e s m args below meth c A Q C hnm Rt
  refine r_iload_n 0 1 C dJ1_charAt_3b067_0 rfl ?_
  refine r_aload_n 1 0 C dJ1_charAt_3b067_1 rfl ?_
  refine r_stlen 2 2 C dJ1_charAt_3b067_2 ((C.2.2.2.2.2.1.2.2.1.1 9 (by decide)).2.2.2) (by decide) ?_
  refine r_callSv 3 C dJ1_charAt_3b067_3 [] [] [] (fun sz => c160_J0_checkIndex_df160 l g x0 i_x0 sz) gJ1_charAt_3b067_J0_checkIndex_df160 rfl ⟨rfl, rfl⟩ 2 (by decide) ⟨Nat.le_of_ble_eq_true rfl, Nat.le_of_ble_eq_true rfl⟩ [] [] rfl rfl (by decide) (by decide) (by decide) rfl rfl (Nat.le_of_ble_eq_true rfl) ⟨Nat.le_of_ble_eq_true rfl, Nat.le_of_ble_eq_true rfl⟩ (fun  _ w1 => ?_)
  refine r_ws [] rfl ?_
  refine r_aload_n 6 0 C dJ1_charAt_3b067_6 rfl ?_
  refine r_iload_n 7 1 C dJ1_charAt_3b067_7 rfl ?_
  obtain ⟨z2, ez2⟩ : ∃ z_9, (stB.getD 9 []).getD (Int32.toNatClampNeg x0) 0 = z_9 := ⟨_, rfl⟩
  refine r_stb 8 (.int z2) C dJ1_charAt_3b067_8 ((C.2.2.2.2.2.1.2.2.1.1 9 (by decide)).2.2.2) (vinI (n := 2) (by omega) (by omega)) (by rw [← ez2]) ?_
  have gz2 := fb_rng z2
  refine r_sipush 9 255 C dJ1_charAt_3b067_9 (by decide) ?_
  obtain ⟨z3, ez3⟩ : ∃ z_9, z2 &&& 255 = z_9 := ⟨_, rfl⟩
  have tz3 : 0 ≤ (Int32.toInt z3) ∧ (Int32.toInt z3) ≤ 255 := by rw [← ez3]; exact and_255 z2
  refine r_iand 12 z3 C dJ1_charAt_3b067_12 ez3 ?_
  obtain ⟨z4, ez4⟩ : ∃ z_9, (Int32.toUInt32 z3 % 65536).toInt32 = z_9 := ⟨_, rfl⟩
  have tz4 : 0 ≤ (Int32.toInt z4) ∧ (Int32.toInt z4) ≤ 65535 := by rw [← ez4]; exact chr_in _
  refine r_i2c 13 z4 C dJ1_charAt_3b067_13 ez4 ?_
  exact r_cret 14 Rt dJ1_charAt_3b067_14 (by rw [← ez4]; exact pk_nc _) () (show 0 ≤ (Int32.toInt z4) ∧ (Int32.toInt z4) ≤ 65535 from ⟨(by ((repeat' apply And.intro) <;> first | trivial | rfl | assumption | omega | decide | exact Or.inl rfl | exact Or.inr (Or.inl rfl) | exact Or.inr (Or.inr rfl))), (by ((repeat' apply And.intro) <;> first | trivial | rfl | assumption | omega | decide | exact Or.inl rfl | exact Or.inr (Or.inl rfl) | exact Or.inr (Or.inr rfl)))⟩) [] (by decide) rfl (Nat.le_of_ble_eq_true rfl) (Nat.le_of_ble_eq_true rfl)
set_option maxHeartbeats 4000000 in
set_option maxRecDepth 100000 in
theorem c162_J0_charAt_5068e (l : Launch) (g : GD) (x0 : Int32) (i_x0 : (0 ≤ (Int32.toInt x0) ∧ (Int32.toInt x0) ≤ 1)) (sz : Nat) : Met l yJ0_charAt_5068e wsJ0_charAt_5068e ({ frames := 3, cells := 0, slots := 0, locals := 64 }) (va_Pc [.ref (g.2.2.1 9), .int x0] (PW g [] sz)) (va_Qi (fun (r : Int32) (_ : Unit) => 0 ≤ (Int32.toInt r) ∧ (Int32.toInt r) ≤ 65535) (BW g (va_A [] sz) (fun _ : Unit => [])) (va_A [] sz)) 0 0 (va_A [] sz) := by
  refine met_c RJ0 (by decide) rfl rfl (Nat.le_of_ble_eq_true rfl) [(0, .ref (g.2.2.1 9)), (1, .int x0)] rfl ?_
  intro p e s m args below meth c A Q C hnm Rt
  refine r_aload_n 0 0 C dJ0_charAt_5068e_0 rfl ?_
  refine r_scallVi 1 C dJ0_charAt_5068e_1 [] 9 (by decide) [] [] (fun sz => c157_J0_isLatin1_aae02 l g   sz) gJ0_charAt_5068e_J0_isLatin1_aae02 rfl ⟨rfl, rfl⟩ 0 (by decide) ⟨Nat.le_of_ble_eq_true rfl, Nat.le_of_ble_eq_true rfl⟩ [] [] rfl rfl (by decide) (by decide) (by decide) rfl rfl (Nat.le_of_ble_eq_true rfl) ⟨Nat.le_of_ble_eq_true rfl, Nat.le_of_ble_eq_true rfl⟩ (fun r1 _ w2 => ?_)
  refine r_ws [] rfl ?_
  have p3 : 1 = r1 := (w2).symm
  subst p3
  refine r_if_eq_f 4 16 C dJ0_charAt_5068e_4 (by decide) (by decide) ?_
  refine r_aload_n 7 0 C dJ0_charAt_5068e_7 rfl ?_
  refine r_sget 8 9 C dJ0_charAt_5068e_8 ((C.2.2.2.2.2.1.2.2.1.1 9 (by decide)).2.2.1) (mg 1 rfl) ?_
  refine r_iload_n 11 1 C dJ0_charAt_5068e_11 rfl ?_
  refine r_callSi 12 C dJ0_charAt_5068e_12 [] [] [] (fun sz => c161_J1_charAt_3b067 l g x0 i_x0 sz) gJ0_charAt_5068e_J1_charAt_3b067 rfl ⟨rfl, rfl⟩ 2 (by decide) ⟨Nat.le_of_ble_eq_true rfl, Nat.le_of_ble_eq_true rfl⟩ [] [] rfl rfl (by decide) (by decide) (by decide) rfl rfl (Nat.le_of_ble_eq_true rfl) ⟨Nat.le_of_ble_eq_true rfl, Nat.le_of_ble_eq_true rfl⟩ (fun r4 _ w5 => ?_)
  refine r_ws [] rfl ?_
  have p6 : 0 ≤ (Int32.toInt r4) := w5.1
  have p7 : (Int32.toInt r4) ≤ 65535 := w5.2
  exact r_cret 15 Rt dJ0_charAt_5068e_15 (nc_in (by omega) (by omega)) () (show 0 ≤ (Int32.toInt r4) ∧ (Int32.toInt r4) ≤ 65535 from ⟨(show _ ∧ _ from ⟨p6, p7⟩).1, (show _ ∧ _ from ⟨p6, p7⟩).2⟩) [] (by decide) rfl (Nat.le_of_ble_eq_true rfl) (Nat.le_of_ble_eq_true rfl)
set_option maxHeartbeats 4000000 in
set_option maxRecDepth 100000 in
theorem c163_X10_isAt (l : Launch) (g : GD) (h0 : Nat) (h1 : Nat) (x0 : Int32) (x1 : Int32) (fn0 : Nat → Int32) (i_x1 : (0 ≤ (Int32.toInt x1) ∧ (Int32.toInt x1) ≤ 1500)) (sz : Nat) : Met l yX10_isAt wsX10_isAt ({ frames := 4, cells := 0, slots := 0, locals := 85 }) (va_Pc [.ref h0, .int x0, .ref (g.2.2.1 9)] (PW g [(h0, .inr (4, [.ref h1, .int x1])), (h1, .inl (gB g, 1500, .inl fn0))] sz)) (va_Qi (fun (r : Int32) (_ : Unit) => 0 ≤ (Int32.toInt r) ∧ (Int32.toInt r) ≤ 1) (BW g (va_A [(h0, .inr (4, [.ref h1, .int x1])), (h1, .inl (gB g, 1500, .inl fn0))] sz) (fun _ : Unit => [(h0, .inr (4, [.ref h1, .int x1])), (h1, .inl (gB g, 1500, .inl fn0))])) (va_A [(h0, .inr (4, [.ref h1, .int x1])), (h1, .inl (gB g, 1500, .inl fn0))] sz)) 0 0 (va_A [(h0, .inr (4, [.ref h1, .int x1])), (h1, .inl (gB g, 1500, .inl fn0))] sz) := by
  refine met_z RX10 (by decide) rfl rfl (Nat.le_of_ble_eq_true rfl) [(0, .ref h0), (1, .int x0), (2, .ref (g.2.2.1 9))] rfl ?_
  intro p e s m args below meth c A Q C hnm Rt
  refine r_iconst 0 0 C dX10_isAt_0 (by decide) ?_
  refine r_istore_n 1 C dX10_isAt_1 [(3, .int 0), (0, .ref h0), (1, .int x0), (2, .ref (g.2.2.1 9))] (by decide) rfl ?_
  have lp3 : ∀ (n2 : Nat) (z1 : Int32), (0 ≤ (Int32.toInt z1) ∧ (Int32.toInt z1) ≤ 2) → Int.toNat (2 - (Int32.toInt z1)) < n2 → WW p l e ({ frames := 4, cells := 0, slots := 0, locals := 85 } : Room) s m args below meth c A Q g 4 0 0 [(h0, .inr (4, [.ref h1, .int x1])), (h1, .inl (gB g, 1500, .inl fn0))] 2 [(3, .int z1), (0, .ref h0), (1, .int x0), (2, .ref (g.2.2.1 9))] [] := by
    intro n2
    induction n2 with
    | zero => intro z1 i6 hm5; exact absurd hm5 (Nat.not_lt_zero _)
    | succ n2 ih4 =>
      intro z1 i6 hm5
      obtain ⟨i6a, i6b⟩ := i6
      refine r_iload_n 2 0 C dX10_isAt_2 rfl ?_
      refine r_aload_n 3 3 C dX10_isAt_3 rfl ?_
      refine r_scallVi 4 C dX10_isAt_4 [.int z1] 9 (by decide) [] [(h0, .inr (4, [.ref h1, .int x1])), (h1, .inl (gB g, 1500, .inl fn0))] (fun sz => c156_J0_length_8abf5 l g   sz) gX10_isAt_J0_length_8abf5 rfl ⟨rfl, rfl⟩ 0 (by decide) ⟨Nat.le_of_ble_eq_true rfl, Nat.le_of_ble_eq_true rfl⟩ [] [0, 1] rfl rfl (by decide) (by decide) (by decide) rfl rfl (Nat.le_of_ble_eq_true rfl) ⟨Nat.le_of_ble_eq_true rfl, Nat.le_of_ble_eq_true rfl⟩ (fun r7 _ w8 => ?_)
      refine r_ws [(h0, .inr (4, [.ref h1, .int x1])), (h1, .inl (gB g, 1500, .inl fn0))] rfl ?_
      have p9 : 2 = r7 := (w8).symm
      subst p9
      refine r_icmp_ge 7 34 C dX10_isAt_7 (by decide) (fun c10 => ?_) (fun c10 => ?_)
      · skip
        have k11 : 2 ≤ (Int32.toInt z1) := (fa_le 2 z1).mp c10
        refine r_iconst 34 1 C dX10_isAt_34 (by decide) ?_
        exact r_zret 35 Rt dX10_isAt_35 (by decide) () (show 0 ≤ (Int32.toInt 1) ∧ (Int32.toInt 1) ≤ 1 from ⟨(by ((repeat' apply And.intro) <;> first | trivial | rfl | assumption | omega | decide | exact Or.inl rfl | exact Or.inr (Or.inl rfl) | exact Or.inr (Or.inr rfl))), (by ((repeat' apply And.intro) <;> first | trivial | rfl | assumption | omega | decide | exact Or.inl rfl | exact Or.inr (Or.inl rfl) | exact Or.inr (Or.inr rfl)))⟩) [0, 1] (by decide) rfl (Nat.le_of_ble_eq_true rfl) (Nat.le_of_ble_eq_true rfl)
      · skip
        have k12 : ¬ (2 ≤ (Int32.toInt z1)) := fun h_9 => c10 ((fa_le 2 z1).mpr h_9)
        refine r_aload_n 10 1 C dX10_isAt_10 rfl ?_
        refine r_iload_n 11 2 C dX10_isAt_11 rfl ?_
        refine r_iload_n 12 0 C dX10_isAt_12 rfl ?_
        obtain ⟨z13, ez13⟩ : ∃ z_9, x0 + z1 = z_9 := ⟨_, rfl⟩
        have gz13 := fb_rng z13
        refine r_iadd 13 z13 C dX10_isAt_13 ez13 ?_
        obtain ⟨z14, ez14⟩ : ∃ z_9, Int32.toInt64 z13 = z_9 := ⟨_, rfl⟩
        have tz14 : (Int64.toInt z14) = (Int32.toInt z13) := by rw [← ez14]; exact Int32.toInt_toInt64 _
        refine r_i2l 14 z14 C dX10_isAt_14 ez14 ?_
        refine r_callVi 15 C dX10_isAt_15 [] [(h0, .inr (4, [.ref h1, .int x1])), (h1, .inl (gB g, 1500, .inl fn0))] [] (fun sz => c14_X5_get l g h0 h1 z14 x1 fn0 i_x1 sz) gX10_isAt_X5_get rfl ⟨rfl, rfl⟩ 1 (by decide) ⟨Nat.le_of_ble_eq_true rfl, Nat.le_of_ble_eq_true rfl⟩ 0 rfl rfl [0, 1] [] rfl rfl (by decide) (by decide) (by decide) rfl rfl (Nat.le_of_ble_eq_true rfl) ⟨Nat.le_of_ble_eq_true rfl, Nat.le_of_ble_eq_true rfl⟩ (fun r15 _ w16 => ?_)
        refine r_ws [(h0, .inr (4, [.ref h1, .int x1])), (h1, .inl (gB g, 1500, .inl fn0))] rfl ?_
        have p17 : -1 ≤ (Int32.toInt r15) := w16.1
        have p18 : (Int32.toInt r15) ≤ 255 := w16.2
        refine r_aload_n 18 3 C dX10_isAt_18 rfl ?_
        refine r_iload_n 19 0 C dX10_isAt_19 rfl ?_
        refine r_scallVi 20 C dX10_isAt_20 [.int r15] 9 (by decide) [] [(h0, .inr (4, [.ref h1, .int x1])), (h1, .inl (gB g, 1500, .inl fn0))] (fun sz => c162_J0_charAt_5068e l g z1 ⟨by omega, by omega⟩ sz) gX10_isAt_J0_charAt_5068e rfl ⟨rfl, rfl⟩ 1 (by decide) ⟨Nat.le_of_ble_eq_true rfl, Nat.le_of_ble_eq_true rfl⟩ [] [0, 1] rfl rfl (by decide) (by decide) (by decide) rfl rfl (Nat.le_of_ble_eq_true rfl) ⟨Nat.le_of_ble_eq_true rfl, Nat.le_of_ble_eq_true rfl⟩ (fun r19 _ w20 => ?_)
        refine r_ws [(h0, .inr (4, [.ref h1, .int x1])), (h1, .inl (gB g, 1500, .inl fn0))] rfl ?_
        have p21 : 0 ≤ (Int32.toInt r19) := w20.1
        have p22 : (Int32.toInt r19) ≤ 65535 := w20.2
        refine r_icmp_eq 23 28 C dX10_isAt_23 (by decide) (fun c23 => ?_) (fun c23 => ?_)
        · skip
          have k24 : (Int32.toInt r15) = (Int32.toInt r19) := (fa_eq r15 r19).mp c23
          obtain ⟨z25, ez25⟩ : ∃ z_9, z1 + Int32.ofInt 1 = z_9 := ⟨_, rfl⟩
          have tz25 : (Int32.toInt z25) = (Int32.toInt z1) + 1 := by rw [← ez25]; exact fb_addIv (a := 0) (b := 2) (c := 1) (d := 1) ⟨i6a, i6b⟩ ⟨by decide, by decide⟩ (by decide) (by decide)
          refine r_iinc 28 0 z25 C dX10_isAt_28 rfl ez25 [(3, .int z25), (0, .ref h0), (1, .int x0), (2, .ref (g.2.2.1 9))] (by decide) rfl ?_
          refine r_goto 31 2 C dX10_isAt_31 (by decide) ?_
          exact ih4 z25 ⟨by omega, by omega⟩ (by omega)
        · skip
          have k26 : ¬ ((Int32.toInt r15) = (Int32.toInt r19)) := fun h_9 => c23 ((fa_eq r15 r19).mpr h_9)
          refine r_iconst 26 0 C dX10_isAt_26 (by decide) ?_
          exact r_zret 27 Rt dX10_isAt_27 (by decide) () (show 0 ≤ (Int32.toInt 0) ∧ (Int32.toInt 0) ≤ 1 from ⟨(by ((repeat' apply And.intro) <;> first | trivial | rfl | assumption | omega | decide | exact Or.inl rfl | exact Or.inr (Or.inl rfl) | exact Or.inr (Or.inr rfl))), (by ((repeat' apply And.intro) <;> first | trivial | rfl | assumption | omega | decide | exact Or.inl rfl | exact Or.inr (Or.inl rfl) | exact Or.inr (Or.inr rfl)))⟩) [0, 1] (by decide) rfl (Nat.le_of_ble_eq_true rfl) (Nat.le_of_ble_eq_true rfl)
  exact lp3 _ 0 (by decide) (Nat.lt_succ_self _)
set_option maxHeartbeats 4000000 in
set_option maxRecDepth 100000 in
theorem c164_X10_isWord (l : Launch) (g : GD) (h0 : Nat) (h1 : Nat) (h2 : Nat) (h3 : Nat) (x0 : Int32) (x1 : Int32) (x2 : Int32) (x3 : Int32) (x4 : Int32) (x5 : Int32) (x6 : Int32) (x7 : Int32) (x8 : Int32) (fn0 : Nat → Int32) (i_x4 : (0 ≤ (Int32.toInt x4) ∧ (Int32.toInt x4) ≤ 1)) (i_x8 : (0 ≤ (Int32.toInt x8) ∧ (Int32.toInt x8) ≤ 1500)) (sz : Nat) : Met l yX10_isWord wsX10_isWord ({ frames := 5, cells := 0, slots := 0, locals := 108 }) (va_Pc [.ref h0, .ref (g.2.2.1 9)] (PW g [(h0, .inr (9, [.ref h3, .ref h1, .int x0, .int x1, .int x2, .int x3, .int x4, .int x5, .int x6, .int x7])), (h1, .inr (4, [.ref h2, .int x8])), (h2, .inl (gB g, 1500, .inl fn0))] sz)) (va_Qi (fun (r : Int32) (_ : Unit) => 0 ≤ (Int32.toInt r) ∧ (Int32.toInt r) ≤ 1) (BW g (va_A [(h0, .inr (9, [.ref h3, .ref h1, .int x0, .int x1, .int x2, .int x3, .int x4, .int x5, .int x6, .int x7])), (h1, .inr (4, [.ref h2, .int x8])), (h2, .inl (gB g, 1500, .inl fn0))] sz) (fun _ : Unit => [(h0, .inr (9, [.ref h3, .ref h1, .int x0, .int x1, .int x2, .int x3, .int x4, .int x5, .int x6, .int x7])), (h1, .inr (4, [.ref h2, .int x8])), (h2, .inl (gB g, 1500, .inl fn0))])) (va_A [(h0, .inr (9, [.ref h3, .ref h1, .int x0, .int x1, .int x2, .int x3, .int x4, .int x5, .int x6, .int x7])), (h1, .inr (4, [.ref h2, .int x8])), (h2, .inl (gB g, 1500, .inl fn0))] sz)) 0 0 (va_A [(h0, .inr (9, [.ref h3, .ref h1, .int x0, .int x1, .int x2, .int x3, .int x4, .int x5, .int x6, .int x7])), (h1, .inr (4, [.ref h2, .int x8])), (h2, .inl (gB g, 1500, .inl fn0))] sz) := by
  refine met_z RX10 (by decide) rfl rfl (Nat.le_of_ble_eq_true rfl) [(0, .ref h0), (1, .ref (g.2.2.1 9))] rfl ?_
  intro p e s m args below meth c A Q C hnm Rt
  have hiX10 : ∀ w ∈ wsX100, w ∈ wsX10_isWord := fun w h => List.mem_cons_of_mem _ (List.mem_append_left _ (List.mem_append_right _ (h)))
  refine r_aload_n 0 0 C dX10_isWord_0 rfl ?_
  refine r_get 1 C dX10_isWord_1 (k := 4) 0 rfl rfl hiX10 (by decide) rfl (mg 1 rfl) (Or.inl rfl) rfl ?_
  refine r_aload_n 4 0 C dX10_isWord_4 rfl ?_
  refine r_get 5 C dX10_isWord_5 (k := 3) 0 rfl rfl hiX10 (by decide) rfl (mg 2 rfl) (Or.inl rfl) rfl ?_
  obtain ⟨z1, ez1⟩ : ∃ z_9, x2 - x1 = z_9 := ⟨_, rfl⟩
  have gz1 := fb_rng z1
  refine r_isub 8 z1 C dX10_isWord_8 ez1 ?_
  refine r_aload_n 9 1 C dX10_isWord_9 rfl ?_
  refine r_scallVi 10 C dX10_isWord_10 [.int z1] 9 (by decide) [] [(h0, .inr (9, [.ref h3, .ref h1, .int x0, .int x1, .int x2, .int x3, .int x4, .int x5, .int x6, .int x7])), (h1, .inr (4, [.ref h2, .int x8])), (h2, .inl (gB g, 1500, .inl fn0))] (fun sz => c156_J0_length_8abf5 l g   sz) gX10_isWord_J0_length_8abf5 rfl ⟨rfl, rfl⟩ 0 (by decide) ⟨Nat.le_of_ble_eq_true rfl, Nat.le_of_ble_eq_true rfl⟩ [] [0, 1, 2] rfl rfl (by decide) (by decide) (by decide) rfl rfl (Nat.le_of_ble_eq_true rfl) ⟨Nat.le_of_ble_eq_true rfl, Nat.le_of_ble_eq_true rfl⟩ (fun r2 _ w3 => ?_)
  refine r_ws [(h0, .inr (9, [.ref h3, .ref h1, .int x0, .int x1, .int x2, .int x3, .int x4, .int x5, .int x6, .int x7])), (h1, .inr (4, [.ref h2, .int x8])), (h2, .inl (gB g, 1500, .inl fn0))] rfl ?_
  have p4 : 2 = r2 := (w3).symm
  subst p4
  refine r_icmp_ne 13 35 C dX10_isWord_13 (by decide) (fun c5 => ?_) (fun c5 => ?_)
  · skip
    have k6 : ¬ ((Int32.toInt z1) = 2) := fun h_9 => c5 ((fa_eq z1 2).mpr h_9)
    refine r_iconst 35 0 C dX10_isWord_35 (by decide) ?_
    exact r_zret 36 Rt dX10_isWord_36 (by decide) () (show 0 ≤ (Int32.toInt 0) ∧ (Int32.toInt 0) ≤ 1 from ⟨(by ((repeat' apply And.intro) <;> first | trivial | rfl | assumption | omega | decide | exact Or.inl rfl | exact Or.inr (Or.inl rfl) | exact Or.inr (Or.inr rfl))), (by ((repeat' apply And.intro) <;> first | trivial | rfl | assumption | omega | decide | exact Or.inl rfl | exact Or.inr (Or.inl rfl) | exact Or.inr (Or.inr rfl)))⟩) [0, 1, 2] (by decide) rfl (Nat.le_of_ble_eq_true rfl) (Nat.le_of_ble_eq_true rfl)
  · skip
    have k7 : (Int32.toInt z1) = 2 := (fa_eq z1 2).mp c5
    refine r_aload_n 16 0 C dX10_isWord_16 rfl ?_
    refine r_get 17 C dX10_isWord_17 (k := 1) 0 rfl rfl hiX10 (by decide) rfl (mg 3 rfl) (Or.inl rfl) rfl ?_
    refine r_aload_n 20 0 C dX10_isWord_20 rfl ?_
    refine r_get 21 C dX10_isWord_21 (k := 3) 0 rfl rfl hiX10 (by decide) rfl (mg 2 rfl) (Or.inl rfl) rfl ?_
    refine r_aload_n 24 1 C dX10_isWord_24 rfl ?_
    refine r_callSi 25 C dX10_isWord_25 [] [(h1, .inr (4, [.ref h2, .int x8])), (h2, .inl (gB g, 1500, .inl fn0))] [(h0, .inr (9, [.ref h3, .ref h1, .int x0, .int x1, .int x2, .int x3, .int x4, .int x5, .int x6, .int x7]))] (fun sz => c163_X10_isAt l g h1 h2 x1 x8 fn0 i_x8 sz) gX10_isWord_X10_isAt rfl ⟨rfl, rfl⟩ 3 (by decide) ⟨Nat.le_of_ble_eq_true rfl, Nat.le_of_ble_eq_true rfl⟩ [1, 2] [0] rfl rfl (by decide) (by decide) (by decide) rfl rfl (Nat.le_of_ble_eq_true rfl) ⟨Nat.le_of_ble_eq_true rfl, Nat.le_of_ble_eq_true rfl⟩ (fun r8 _ w9 => ?_)
    refine r_ws [(h0, .inr (9, [.ref h3, .ref h1, .int x0, .int x1, .int x2, .int x3, .int x4, .int x5, .int x6, .int x7])), (h1, .inr (4, [.ref h2, .int x8])), (h2, .inl (gB g, 1500, .inl fn0))] rfl ?_
    have p10 : 0 ≤ (Int32.toInt r8) := w9.1
    have p11 : (Int32.toInt r8) ≤ 1 := w9.2
    refine r_if_eq 28 35 C dX10_isWord_28 (by decide) (fun c12 => ?_) (fun c12 => ?_)
    · skip
      have k13 : (Int32.toInt r8) = 0 := (fa_eq r8 0).mp c12
      refine r_iconst 35 0 C dX10_isWord_35 (by decide) ?_
      exact r_zret 36 Rt dX10_isWord_36 (by decide) () (show 0 ≤ (Int32.toInt 0) ∧ (Int32.toInt 0) ≤ 1 from ⟨(by ((repeat' apply And.intro) <;> first | trivial | rfl | assumption | omega | decide | exact Or.inl rfl | exact Or.inr (Or.inl rfl) | exact Or.inr (Or.inr rfl))), (by ((repeat' apply And.intro) <;> first | trivial | rfl | assumption | omega | decide | exact Or.inl rfl | exact Or.inr (Or.inl rfl) | exact Or.inr (Or.inr rfl)))⟩) [0, 1, 2] (by decide) rfl (Nat.le_of_ble_eq_true rfl) (Nat.le_of_ble_eq_true rfl)
    · skip
      have k14 : ¬ ((Int32.toInt r8) = 0) := fun h_9 => c12 ((fa_eq r8 0).mpr h_9)
      refine r_iconst 31 1 C dX10_isWord_31 (by decide) ?_
      refine r_goto 32 36 C dX10_isWord_32 (by decide) ?_
      exact r_zret 36 Rt dX10_isWord_36 (by decide) () (show 0 ≤ (Int32.toInt 1) ∧ (Int32.toInt 1) ≤ 1 from ⟨(by ((repeat' apply And.intro) <;> first | trivial | rfl | assumption | omega | decide | exact Or.inl rfl | exact Or.inr (Or.inl rfl) | exact Or.inr (Or.inr rfl))), (by ((repeat' apply And.intro) <;> first | trivial | rfl | assumption | omega | decide | exact Or.inl rfl | exact Or.inr (Or.inl rfl) | exact Or.inr (Or.inr rfl)))⟩) [0, 1, 2] (by decide) rfl (Nat.le_of_ble_eq_true rfl) (Nat.le_of_ble_eq_true rfl)
set_option maxHeartbeats 4000000 in
set_option maxRecDepth 100000 in
theorem c165_J0_coder_7d493 (l : Launch) (g : GD) (sz : Nat) : Met l yJ0_coder_7d493 wsJ0_coder_7d493 ({ frames := 0, cells := 0, slots := 0, locals := 0 }) (va_Pc [.ref (g.2.2.1 10)] (PW g [] sz)) (va_Qi (fun (r : Int32) (_ : Unit) => r = 0) (BW g (va_A [] sz) (fun _ : Unit => [])) (va_A [] sz)) 0 0 (va_A [] sz) := by
  refine met_b RJ0 (by decide) rfl rfl (Nat.le_of_ble_eq_true rfl) [(0, .ref (g.2.2.1 10))] rfl ?_
  intro p e s m args below meth c A Q C hnm Rt
  refine r_gets 0 C dJ0_coder_7d493_0 C.2.2.2.2.2.1.2.2.2.2.1 (mg 1 rfl) ?_
  refine r_if_eq_f 3 13 C dJ0_coder_7d493_3 (by decide) (by decide) ?_
  refine r_aload_n 6 0 C dJ0_coder_7d493_6 rfl ?_
  refine r_sget 7 10 C dJ0_coder_7d493_7 ((C.2.2.2.2.2.1.2.2.1.1 10 (by decide)).2.1) (mg 2 rfl) ?_
  refine r_goto 10 14 C dJ0_coder_7d493_10 (by decide) ?_
  exact r_bret 14 Rt dJ0_coder_7d493_14 (by decide) () (show 0 = 0 from (by ((repeat' apply And.intro) <;> first | trivial | rfl | assumption | omega | decide | exact Or.inl rfl | exact Or.inr (Or.inl rfl) | exact Or.inr (Or.inr rfl)))) [] (by decide) rfl (Nat.le_of_ble_eq_true rfl) (Nat.le_of_ble_eq_true rfl)
set_option maxHeartbeats 4000000 in
set_option maxRecDepth 100000 in
theorem c166_J0_length_8abf5 (l : Launch) (g : GD) (sz : Nat) : Met l yJ0_length_8abf5 wsJ0_length_8abf5 ({ frames := 1, cells := 0, slots := 0, locals := 20 }) (va_Pc [.ref (g.2.2.1 10)] (PW g [] sz)) (va_Qi (fun (r : Int32) (_ : Unit) => r = 2) (BW g (va_A [] sz) (fun _ : Unit => [])) (va_A [] sz)) 0 0 (va_A [] sz) := by
  refine met_i RJ0 (by decide) rfl rfl (Nat.le_of_ble_eq_true rfl) [(0, .ref (g.2.2.1 10))] rfl ?_
  intro p e s m args below meth c A Q C hnm Rt
  refine r_aload_n 0 0 C dJ0_length_8abf5_0 rfl ?_
  refine r_sget 1 10 C dJ0_length_8abf5_1 ((C.2.2.2.2.2.1.2.2.1.1 10 (by decide)).2.2.1) (mg 1 rfl) ?_
  refine r_stlen 4 2 C dJ0_length_8abf5_4 ((C.2.2.2.2.2.1.2.2.1.1 10 (by decide)).2.2.2) (by decide) ?_
  refine r_aload_n 5 0 C dJ0_length_8abf5_5 rfl ?_
  refine r_scallVi 6 C dJ0_length_8abf5_6 [.int 2] 10 (by decide) [] [] (fun sz => c165_J0_coder_7d493 l g   sz) gJ0_length_8abf5_J0_coder_7d493 rfl ⟨rfl, rfl⟩ 0 (by decide) ⟨Nat.le_of_ble_eq_true rfl, Nat.le_of_ble_eq_true rfl⟩ [] [] rfl rfl (by decide) (by decide) (by decide) rfl rfl (Nat.le_of_ble_eq_true rfl) ⟨Nat.le_of_ble_eq_true rfl, Nat.le_of_ble_eq_true rfl⟩ (fun r1 _ w2 => ?_)
  refine r_ws [] rfl ?_
  have p3 : 0 = r1 := (w2).symm
  subst p3
  refine r_ishr 9 2 C dJ0_length_8abf5_9 (by decide) ?_
  exact r_iret 10 Rt dJ0_length_8abf5_10 () (show 2 = 2 from (by ((repeat' apply And.intro) <;> first | trivial | rfl | assumption | omega | decide | exact Or.inl rfl | exact Or.inr (Or.inl rfl) | exact Or.inr (Or.inr rfl)))) [] (by decide) rfl (Nat.le_of_ble_eq_true rfl) (Nat.le_of_ble_eq_true rfl)
set_option maxHeartbeats 4000000 in
set_option maxRecDepth 100000 in
theorem c167_J0_isLatin1_aae02 (l : Launch) (g : GD) (sz : Nat) : Met l yJ0_isLatin1_aae02 wsJ0_isLatin1_aae02 ({ frames := 0, cells := 0, slots := 0, locals := 0 }) (va_Pc [.ref (g.2.2.1 10)] (PW g [] sz)) (va_Qi (fun (r : Int32) (_ : Unit) => r = 1) (BW g (va_A [] sz) (fun _ : Unit => [])) (va_A [] sz)) 0 0 (va_A [] sz) := by
  refine met_z RJ0 (by decide) rfl rfl (Nat.le_of_ble_eq_true rfl) [(0, .ref (g.2.2.1 10))] rfl ?_
  intro p e s m args below meth c A Q C hnm Rt
  refine r_gets 0 C dJ0_isLatin1_aae02_0 C.2.2.2.2.2.1.2.2.2.2.1 (mg 1 rfl) ?_
  refine r_if_eq_f 3 17 C dJ0_isLatin1_aae02_3 (by decide) (by decide) ?_
  refine r_aload_n 6 0 C dJ0_isLatin1_aae02_6 rfl ?_
  refine r_sget 7 10 C dJ0_isLatin1_aae02_7 ((C.2.2.2.2.2.1.2.2.1.1 10 (by decide)).2.1) (mg 2 rfl) ?_
  refine r_if_ne_f 10 17 C dJ0_isLatin1_aae02_10 (by decide) (by decide) ?_
  refine r_iconst 13 1 C dJ0_isLatin1_aae02_13 (by decide) ?_
  refine r_goto 14 18 C dJ0_isLatin1_aae02_14 (by decide) ?_
  exact r_zret 18 Rt dJ0_isLatin1_aae02_18 (by decide) () (show 1 = 1 from (by ((repeat' apply And.intro) <;> first | trivial | rfl | assumption | omega | decide | exact Or.inl rfl | exact Or.inr (Or.inl rfl) | exact Or.inr (Or.inr rfl)))) [] (by decide) rfl (Nat.le_of_ble_eq_true rfl) (Nat.le_of_ble_eq_true rfl)
set_option maxHeartbeats 4000000 in
set_option maxRecDepth 100000 in
theorem c168_J1_charAt_3b067 (l : Launch) (g : GD) (x0 : Int32) (i_x0 : (0 ≤ (Int32.toInt x0) ∧ (Int32.toInt x0) ≤ 1)) (sz : Nat) : Met l yJ1_charAt_3b067 wsJ1_charAt_3b067 ({ frames := 2, cells := 0, slots := 0, locals := 43 }) (va_Pc [.ref (g.2.2.2 10), .int x0] (PW g [] sz)) (va_Qi (fun (r : Int32) (_ : Unit) => 0 ≤ (Int32.toInt r) ∧ (Int32.toInt r) ≤ 65535) (BW g (va_A [] sz) (fun _ : Unit => [])) (va_A [] sz)) 0 0 (va_A [] sz) := by
  refine met_c RJ1 (by decide) rfl rfl (Nat.le_of_ble_eq_true rfl) [(0, .ref (g.2.2.2 10)), (1, .int x0)] rfl ?_
  intro p e s m args below meth c A Q C hnm Rt
  refine r_iload_n 0 1 C dJ1_charAt_3b067_0 rfl ?_
  refine r_aload_n 1 0 C dJ1_charAt_3b067_1 rfl ?_
  refine r_stlen 2 2 C dJ1_charAt_3b067_2 ((C.2.2.2.2.2.1.2.2.1.1 10 (by decide)).2.2.2) (by decide) ?_
  refine r_callSv 3 C dJ1_charAt_3b067_3 [] [] [] (fun sz => c160_J0_checkIndex_df160 l g x0 i_x0 sz) gJ1_charAt_3b067_J0_checkIndex_df160 rfl ⟨rfl, rfl⟩ 2 (by decide) ⟨Nat.le_of_ble_eq_true rfl, Nat.le_of_ble_eq_true rfl⟩ [] [] rfl rfl (by decide) (by decide) (by decide) rfl rfl (Nat.le_of_ble_eq_true rfl) ⟨Nat.le_of_ble_eq_true rfl, Nat.le_of_ble_eq_true rfl⟩ (fun  _ w1 => ?_)
  refine r_ws [] rfl ?_
  refine r_aload_n 6 0 C dJ1_charAt_3b067_6 rfl ?_
  refine r_iload_n 7 1 C dJ1_charAt_3b067_7 rfl ?_
  obtain ⟨z2, ez2⟩ : ∃ z_9, (stB.getD 10 []).getD (Int32.toNatClampNeg x0) 0 = z_9 := ⟨_, rfl⟩
  refine r_stb 8 (.int z2) C dJ1_charAt_3b067_8 ((C.2.2.2.2.2.1.2.2.1.1 10 (by decide)).2.2.2) (vinI (n := 2) (by omega) (by omega)) (by rw [← ez2]) ?_
  have gz2 := fb_rng z2
  refine r_sipush 9 255 C dJ1_charAt_3b067_9 (by decide) ?_
  obtain ⟨z3, ez3⟩ : ∃ z_9, z2 &&& 255 = z_9 := ⟨_, rfl⟩
  have tz3 : 0 ≤ (Int32.toInt z3) ∧ (Int32.toInt z3) ≤ 255 := by rw [← ez3]; exact and_255 z2
  refine r_iand 12 z3 C dJ1_charAt_3b067_12 ez3 ?_
  obtain ⟨z4, ez4⟩ : ∃ z_9, (Int32.toUInt32 z3 % 65536).toInt32 = z_9 := ⟨_, rfl⟩
  have tz4 : 0 ≤ (Int32.toInt z4) ∧ (Int32.toInt z4) ≤ 65535 := by rw [← ez4]; exact chr_in _
  refine r_i2c 13 z4 C dJ1_charAt_3b067_13 ez4 ?_
  exact r_cret 14 Rt dJ1_charAt_3b067_14 (by rw [← ez4]; exact pk_nc _) () (show 0 ≤ (Int32.toInt z4) ∧ (Int32.toInt z4) ≤ 65535 from ⟨(by ((repeat' apply And.intro) <;> first | trivial | rfl | assumption | omega | decide | exact Or.inl rfl | exact Or.inr (Or.inl rfl) | exact Or.inr (Or.inr rfl))), (by ((repeat' apply And.intro) <;> first | trivial | rfl | assumption | omega | decide | exact Or.inl rfl | exact Or.inr (Or.inl rfl) | exact Or.inr (Or.inr rfl)))⟩) [] (by decide) rfl (Nat.le_of_ble_eq_true rfl) (Nat.le_of_ble_eq_true rfl)
set_option maxHeartbeats 4000000 in
set_option maxRecDepth 100000 in
theorem c169_J0_charAt_5068e (l : Launch) (g : GD) (x0 : Int32) (i_x0 : (0 ≤ (Int32.toInt x0) ∧ (Int32.toInt x0) ≤ 1)) (sz : Nat) : Met l yJ0_charAt_5068e wsJ0_charAt_5068e ({ frames := 3, cells := 0, slots := 0, locals := 64 }) (va_Pc [.ref (g.2.2.1 10), .int x0] (PW g [] sz)) (va_Qi (fun (r : Int32) (_ : Unit) => 0 ≤ (Int32.toInt r) ∧ (Int32.toInt r) ≤ 65535) (BW g (va_A [] sz) (fun _ : Unit => [])) (va_A [] sz)) 0 0 (va_A [] sz) := by
  refine met_c RJ0 (by decide) rfl rfl (Nat.le_of_ble_eq_true rfl) [(0, .ref (g.2.2.1 10)), (1, .int x0)] rfl ?_
  intro p e s m args below meth c A Q C hnm Rt
  refine r_aload_n 0 0 C dJ0_charAt_5068e_0 rfl ?_
  refine r_scallVi 1 C dJ0_charAt_5068e_1 [] 10 (by decide) [] [] (fun sz => c167_J0_isLatin1_aae02 l g   sz) gJ0_charAt_5068e_J0_isLatin1_aae02 rfl ⟨rfl, rfl⟩ 0 (by decide) ⟨Nat.le_of_ble_eq_true rfl, Nat.le_of_ble_eq_true rfl⟩ [] [] rfl rfl (by decide) (by decide) (by decide) rfl rfl (Nat.le_of_ble_eq_true rfl) ⟨Nat.le_of_ble_eq_true rfl, Nat.le_of_ble_eq_true rfl⟩ (fun r1 _ w2 => ?_)
  refine r_ws [] rfl ?_
  have p3 : 1 = r1 := (w2).symm
  subst p3
  refine r_if_eq_f 4 16 C dJ0_charAt_5068e_4 (by decide) (by decide) ?_
  refine r_aload_n 7 0 C dJ0_charAt_5068e_7 rfl ?_
  refine r_sget 8 10 C dJ0_charAt_5068e_8 ((C.2.2.2.2.2.1.2.2.1.1 10 (by decide)).2.2.1) (mg 1 rfl) ?_
  refine r_iload_n 11 1 C dJ0_charAt_5068e_11 rfl ?_
  refine r_callSi 12 C dJ0_charAt_5068e_12 [] [] [] (fun sz => c168_J1_charAt_3b067 l g x0 i_x0 sz) gJ0_charAt_5068e_J1_charAt_3b067 rfl ⟨rfl, rfl⟩ 2 (by decide) ⟨Nat.le_of_ble_eq_true rfl, Nat.le_of_ble_eq_true rfl⟩ [] [] rfl rfl (by decide) (by decide) (by decide) rfl rfl (Nat.le_of_ble_eq_true rfl) ⟨Nat.le_of_ble_eq_true rfl, Nat.le_of_ble_eq_true rfl⟩ (fun r4 _ w5 => ?_)
  refine r_ws [] rfl ?_
  have p6 : 0 ≤ (Int32.toInt r4) := w5.1
  have p7 : (Int32.toInt r4) ≤ 65535 := w5.2
  exact r_cret 15 Rt dJ0_charAt_5068e_15 (nc_in (by omega) (by omega)) () (show 0 ≤ (Int32.toInt r4) ∧ (Int32.toInt r4) ≤ 65535 from ⟨(show _ ∧ _ from ⟨p6, p7⟩).1, (show _ ∧ _ from ⟨p6, p7⟩).2⟩) [] (by decide) rfl (Nat.le_of_ble_eq_true rfl) (Nat.le_of_ble_eq_true rfl)
set_option maxHeartbeats 4000000 in
set_option maxRecDepth 100000 in
theorem c170_X10_isAt (l : Launch) (g : GD) (h0 : Nat) (h1 : Nat) (x0 : Int32) (x1 : Int32) (fn0 : Nat → Int32) (i_x1 : (0 ≤ (Int32.toInt x1) ∧ (Int32.toInt x1) ≤ 1500)) (sz : Nat) : Met l yX10_isAt wsX10_isAt ({ frames := 4, cells := 0, slots := 0, locals := 85 }) (va_Pc [.ref h0, .int x0, .ref (g.2.2.1 10)] (PW g [(h0, .inr (4, [.ref h1, .int x1])), (h1, .inl (gB g, 1500, .inl fn0))] sz)) (va_Qi (fun (r : Int32) (_ : Unit) => 0 ≤ (Int32.toInt r) ∧ (Int32.toInt r) ≤ 1) (BW g (va_A [(h0, .inr (4, [.ref h1, .int x1])), (h1, .inl (gB g, 1500, .inl fn0))] sz) (fun _ : Unit => [(h0, .inr (4, [.ref h1, .int x1])), (h1, .inl (gB g, 1500, .inl fn0))])) (va_A [(h0, .inr (4, [.ref h1, .int x1])), (h1, .inl (gB g, 1500, .inl fn0))] sz)) 0 0 (va_A [(h0, .inr (4, [.ref h1, .int x1])), (h1, .inl (gB g, 1500, .inl fn0))] sz) := by
  refine met_z RX10 (by decide) rfl rfl (Nat.le_of_ble_eq_true rfl) [(0, .ref h0), (1, .int x0), (2, .ref (g.2.2.1 10))] rfl ?_
  intro p e s m args below meth c A Q C hnm Rt
  refine r_iconst 0 0 C dX10_isAt_0 (by decide) ?_
  refine r_istore_n 1 C dX10_isAt_1 [(3, .int 0), (0, .ref h0), (1, .int x0), (2, .ref (g.2.2.1 10))] (by decide) rfl ?_
  have lp3 : ∀ (n2 : Nat) (z1 : Int32), (0 ≤ (Int32.toInt z1) ∧ (Int32.toInt z1) ≤ 2) → Int.toNat (2 - (Int32.toInt z1)) < n2 → WW p l e ({ frames := 4, cells := 0, slots := 0, locals := 85 } : Room) s m args below meth c A Q g 4 0 0 [(h0, .inr (4, [.ref h1, .int x1])), (h1, .inl (gB g, 1500, .inl fn0))] 2 [(3, .int z1), (0, .ref h0), (1, .int x0), (2, .ref (g.2.2.1 10))] [] := by
    intro n2
    induction n2 with
    | zero => intro z1 i6 hm5; exact absurd hm5 (Nat.not_lt_zero _)
    | succ n2 ih4 =>
      intro z1 i6 hm5
      obtain ⟨i6a, i6b⟩ := i6
      refine r_iload_n 2 0 C dX10_isAt_2 rfl ?_
      refine r_aload_n 3 3 C dX10_isAt_3 rfl ?_
      refine r_scallVi 4 C dX10_isAt_4 [.int z1] 10 (by decide) [] [(h0, .inr (4, [.ref h1, .int x1])), (h1, .inl (gB g, 1500, .inl fn0))] (fun sz => c166_J0_length_8abf5 l g   sz) gX10_isAt_J0_length_8abf5 rfl ⟨rfl, rfl⟩ 0 (by decide) ⟨Nat.le_of_ble_eq_true rfl, Nat.le_of_ble_eq_true rfl⟩ [] [0, 1] rfl rfl (by decide) (by decide) (by decide) rfl rfl (Nat.le_of_ble_eq_true rfl) ⟨Nat.le_of_ble_eq_true rfl, Nat.le_of_ble_eq_true rfl⟩ (fun r7 _ w8 => ?_)
      refine r_ws [(h0, .inr (4, [.ref h1, .int x1])), (h1, .inl (gB g, 1500, .inl fn0))] rfl ?_
      have p9 : 2 = r7 := (w8).symm
      subst p9
      refine r_icmp_ge 7 34 C dX10_isAt_7 (by decide) (fun c10 => ?_) (fun c10 => ?_)
      · skip
        have k11 : 2 ≤ (Int32.toInt z1) := (fa_le 2 z1).mp c10
        refine r_iconst 34 1 C dX10_isAt_34 (by decide) ?_
        exact r_zret 35 Rt dX10_isAt_35 (by decide) () (show 0 ≤ (Int32.toInt 1) ∧ (Int32.toInt 1) ≤ 1 from ⟨(by ((repeat' apply And.intro) <;> first | trivial | rfl | assumption | omega | decide | exact Or.inl rfl | exact Or.inr (Or.inl rfl) | exact Or.inr (Or.inr rfl))), (by ((repeat' apply And.intro) <;> first | trivial | rfl | assumption | omega | decide | exact Or.inl rfl | exact Or.inr (Or.inl rfl) | exact Or.inr (Or.inr rfl)))⟩) [0, 1] (by decide) rfl (Nat.le_of_ble_eq_true rfl) (Nat.le_of_ble_eq_true rfl)
      · skip
        have k12 : ¬ (2 ≤ (Int32.toInt z1)) := fun h_9 => c10 ((fa_le 2 z1).mpr h_9)
        refine r_aload_n 10 1 C dX10_isAt_10 rfl ?_
        refine r_iload_n 11 2 C dX10_isAt_11 rfl ?_
        refine r_iload_n 12 0 C dX10_isAt_12 rfl ?_
        obtain ⟨z13, ez13⟩ : ∃ z_9, x0 + z1 = z_9 := ⟨_, rfl⟩
        have gz13 := fb_rng z13
        refine r_iadd 13 z13 C dX10_isAt_13 ez13 ?_
        obtain ⟨z14, ez14⟩ : ∃ z_9, Int32.toInt64 z13 = z_9 := ⟨_, rfl⟩
        have tz14 : (Int64.toInt z14) = (Int32.toInt z13) := by rw [← ez14]; exact Int32.toInt_toInt64 _
        refine r_i2l 14 z14 C dX10_isAt_14 ez14 ?_
        refine r_callVi 15 C dX10_isAt_15 [] [(h0, .inr (4, [.ref h1, .int x1])), (h1, .inl (gB g, 1500, .inl fn0))] [] (fun sz => c14_X5_get l g h0 h1 z14 x1 fn0 i_x1 sz) gX10_isAt_X5_get rfl ⟨rfl, rfl⟩ 1 (by decide) ⟨Nat.le_of_ble_eq_true rfl, Nat.le_of_ble_eq_true rfl⟩ 0 rfl rfl [0, 1] [] rfl rfl (by decide) (by decide) (by decide) rfl rfl (Nat.le_of_ble_eq_true rfl) ⟨Nat.le_of_ble_eq_true rfl, Nat.le_of_ble_eq_true rfl⟩ (fun r15 _ w16 => ?_)
        refine r_ws [(h0, .inr (4, [.ref h1, .int x1])), (h1, .inl (gB g, 1500, .inl fn0))] rfl ?_
        have p17 : -1 ≤ (Int32.toInt r15) := w16.1
        have p18 : (Int32.toInt r15) ≤ 255 := w16.2
        refine r_aload_n 18 3 C dX10_isAt_18 rfl ?_
        refine r_iload_n 19 0 C dX10_isAt_19 rfl ?_
        refine r_scallVi 20 C dX10_isAt_20 [.int r15] 10 (by decide) [] [(h0, .inr (4, [.ref h1, .int x1])), (h1, .inl (gB g, 1500, .inl fn0))] (fun sz => c169_J0_charAt_5068e l g z1 ⟨by omega, by omega⟩ sz) gX10_isAt_J0_charAt_5068e rfl ⟨rfl, rfl⟩ 1 (by decide) ⟨Nat.le_of_ble_eq_true rfl, Nat.le_of_ble_eq_true rfl⟩ [] [0, 1] rfl rfl (by decide) (by decide) (by decide) rfl rfl (Nat.le_of_ble_eq_true rfl) ⟨Nat.le_of_ble_eq_true rfl, Nat.le_of_ble_eq_true rfl⟩ (fun r19 _ w20 => ?_)
        refine r_ws [(h0, .inr (4, [.ref h1, .int x1])), (h1, .inl (gB g, 1500, .inl fn0))] rfl ?_
        have p21 : 0 ≤ (Int32.toInt r19) := w20.1
        have p22 : (Int32.toInt r19) ≤ 65535 := w20.2
        refine r_icmp_eq 23 28 C dX10_isAt_23 (by decide) (fun c23 => ?_) (fun c23 => ?_)
        · skip
          have k24 : (Int32.toInt r15) = (Int32.toInt r19) := (fa_eq r15 r19).mp c23
          obtain ⟨z25, ez25⟩ : ∃ z_9, z1 + Int32.ofInt 1 = z_9 := ⟨_, rfl⟩
          have tz25 : (Int32.toInt z25) = (Int32.toInt z1) + 1 := by rw [← ez25]; exact fb_addIv (a := 0) (b := 2) (c := 1) (d := 1) ⟨i6a, i6b⟩ ⟨by decide, by decide⟩ (by decide) (by decide)
          refine r_iinc 28 0 z25 C dX10_isAt_28 rfl ez25 [(3, .int z25), (0, .ref h0), (1, .int x0), (2, .ref (g.2.2.1 10))] (by decide) rfl ?_
          refine r_goto 31 2 C dX10_isAt_31 (by decide) ?_
          exact ih4 z25 ⟨by omega, by omega⟩ (by omega)
        · skip
          have k26 : ¬ ((Int32.toInt r15) = (Int32.toInt r19)) := fun h_9 => c23 ((fa_eq r15 r19).mpr h_9)
          refine r_iconst 26 0 C dX10_isAt_26 (by decide) ?_
          exact r_zret 27 Rt dX10_isAt_27 (by decide) () (show 0 ≤ (Int32.toInt 0) ∧ (Int32.toInt 0) ≤ 1 from ⟨(by ((repeat' apply And.intro) <;> first | trivial | rfl | assumption | omega | decide | exact Or.inl rfl | exact Or.inr (Or.inl rfl) | exact Or.inr (Or.inr rfl))), (by ((repeat' apply And.intro) <;> first | trivial | rfl | assumption | omega | decide | exact Or.inl rfl | exact Or.inr (Or.inl rfl) | exact Or.inr (Or.inr rfl)))⟩) [0, 1] (by decide) rfl (Nat.le_of_ble_eq_true rfl) (Nat.le_of_ble_eq_true rfl)
  exact lp3 _ 0 (by decide) (Nat.lt_succ_self _)
set_option maxHeartbeats 4000000 in
set_option maxRecDepth 100000 in
theorem c171_X10_isWord (l : Launch) (g : GD) (h0 : Nat) (h1 : Nat) (h2 : Nat) (h3 : Nat) (x0 : Int32) (x1 : Int32) (x2 : Int32) (x3 : Int32) (x4 : Int32) (x5 : Int32) (x6 : Int32) (x7 : Int32) (x8 : Int32) (fn0 : Nat → Int32) (i_x4 : (0 ≤ (Int32.toInt x4) ∧ (Int32.toInt x4) ≤ 1)) (i_x8 : (0 ≤ (Int32.toInt x8) ∧ (Int32.toInt x8) ≤ 1500)) (sz : Nat) : Met l yX10_isWord wsX10_isWord ({ frames := 5, cells := 0, slots := 0, locals := 108 }) (va_Pc [.ref h0, .ref (g.2.2.1 10)] (PW g [(h0, .inr (9, [.ref h3, .ref h1, .int x0, .int x1, .int x2, .int x3, .int x4, .int x5, .int x6, .int x7])), (h1, .inr (4, [.ref h2, .int x8])), (h2, .inl (gB g, 1500, .inl fn0))] sz)) (va_Qi (fun (r : Int32) (_ : Unit) => 0 ≤ (Int32.toInt r) ∧ (Int32.toInt r) ≤ 1) (BW g (va_A [(h0, .inr (9, [.ref h3, .ref h1, .int x0, .int x1, .int x2, .int x3, .int x4, .int x5, .int x6, .int x7])), (h1, .inr (4, [.ref h2, .int x8])), (h2, .inl (gB g, 1500, .inl fn0))] sz) (fun _ : Unit => [(h0, .inr (9, [.ref h3, .ref h1, .int x0, .int x1, .int x2, .int x3, .int x4, .int x5, .int x6, .int x7])), (h1, .inr (4, [.ref h2, .int x8])), (h2, .inl (gB g, 1500, .inl fn0))])) (va_A [(h0, .inr (9, [.ref h3, .ref h1, .int x0, .int x1, .int x2, .int x3, .int x4, .int x5, .int x6, .int x7])), (h1, .inr (4, [.ref h2, .int x8])), (h2, .inl (gB g, 1500, .inl fn0))] sz)) 0 0 (va_A [(h0, .inr (9, [.ref h3, .ref h1, .int x0, .int x1, .int x2, .int x3, .int x4, .int x5, .int x6, .int x7])), (h1, .inr (4, [.ref h2, .int x8])), (h2, .inl (gB g, 1500, .inl fn0))] sz) := by
  refine met_z RX10 (by decide) rfl rfl (Nat.le_of_ble_eq_true rfl) [(0, .ref h0), (1, .ref (g.2.2.1 10))] rfl ?_
  intro p e s m args below meth c A Q C hnm Rt
  have hiX10 : ∀ w ∈ wsX100, w ∈ wsX10_isWord := fun w h => List.mem_cons_of_mem _ (List.mem_append_left _ (List.mem_append_right _ (h)))
  refine r_aload_n 0 0 C dX10_isWord_0 rfl ?_
  refine r_get 1 C dX10_isWord_1 (k := 4) 0 rfl rfl hiX10 (by decide) rfl (mg 1 rfl) (Or.inl rfl) rfl ?_
  refine r_aload_n 4 0 C dX10_isWord_4 rfl ?_
  refine r_get 5 C dX10_isWord_5 (k := 3) 0 rfl rfl hiX10 (by decide) rfl (mg 2 rfl) (Or.inl rfl) rfl ?_
  obtain ⟨z1, ez1⟩ : ∃ z_9, x2 - x1 = z_9 := ⟨_, rfl⟩
  have gz1 := fb_rng z1
  refine r_isub 8 z1 C dX10_isWord_8 ez1 ?_
  refine r_aload_n 9 1 C dX10_isWord_9 rfl ?_
  refine r_scallVi 10 C dX10_isWord_10 [.int z1] 10 (by decide) [] [(h0, .inr (9, [.ref h3, .ref h1, .int x0, .int x1, .int x2, .int x3, .int x4, .int x5, .int x6, .int x7])), (h1, .inr (4, [.ref h2, .int x8])), (h2, .inl (gB g, 1500, .inl fn0))] (fun sz => c166_J0_length_8abf5 l g   sz) gX10_isWord_J0_length_8abf5 rfl ⟨rfl, rfl⟩ 0 (by decide) ⟨Nat.le_of_ble_eq_true rfl, Nat.le_of_ble_eq_true rfl⟩ [] [0, 1, 2] rfl rfl (by decide) (by decide) (by decide) rfl rfl (Nat.le_of_ble_eq_true rfl) ⟨Nat.le_of_ble_eq_true rfl, Nat.le_of_ble_eq_true rfl⟩ (fun r2 _ w3 => ?_)
  refine r_ws [(h0, .inr (9, [.ref h3, .ref h1, .int x0, .int x1, .int x2, .int x3, .int x4, .int x5, .int x6, .int x7])), (h1, .inr (4, [.ref h2, .int x8])), (h2, .inl (gB g, 1500, .inl fn0))] rfl ?_
  have p4 : 2 = r2 := (w3).symm
  subst p4
  refine r_icmp_ne 13 35 C dX10_isWord_13 (by decide) (fun c5 => ?_) (fun c5 => ?_)
  · skip
    have k6 : ¬ ((Int32.toInt z1) = 2) := fun h_9 => c5 ((fa_eq z1 2).mpr h_9)
    refine r_iconst 35 0 C dX10_isWord_35 (by decide) ?_
    exact r_zret 36 Rt dX10_isWord_36 (by decide) () (show 0 ≤ (Int32.toInt 0) ∧ (Int32.toInt 0) ≤ 1 from ⟨(by ((repeat' apply And.intro) <;> first | trivial | rfl | assumption | omega | decide | exact Or.inl rfl | exact Or.inr (Or.inl rfl) | exact Or.inr (Or.inr rfl))), (by ((repeat' apply And.intro) <;> first | trivial | rfl | assumption | omega | decide | exact Or.inl rfl | exact Or.inr (Or.inl rfl) | exact Or.inr (Or.inr rfl)))⟩) [0, 1, 2] (by decide) rfl (Nat.le_of_ble_eq_true rfl) (Nat.le_of_ble_eq_true rfl)
  · skip
    have k7 : (Int32.toInt z1) = 2 := (fa_eq z1 2).mp c5
    refine r_aload_n 16 0 C dX10_isWord_16 rfl ?_
    refine r_get 17 C dX10_isWord_17 (k := 1) 0 rfl rfl hiX10 (by decide) rfl (mg 3 rfl) (Or.inl rfl) rfl ?_
    refine r_aload_n 20 0 C dX10_isWord_20 rfl ?_
    refine r_get 21 C dX10_isWord_21 (k := 3) 0 rfl rfl hiX10 (by decide) rfl (mg 2 rfl) (Or.inl rfl) rfl ?_
    refine r_aload_n 24 1 C dX10_isWord_24 rfl ?_
    refine r_callSi 25 C dX10_isWord_25 [] [(h1, .inr (4, [.ref h2, .int x8])), (h2, .inl (gB g, 1500, .inl fn0))] [(h0, .inr (9, [.ref h3, .ref h1, .int x0, .int x1, .int x2, .int x3, .int x4, .int x5, .int x6, .int x7]))] (fun sz => c170_X10_isAt l g h1 h2 x1 x8 fn0 i_x8 sz) gX10_isWord_X10_isAt rfl ⟨rfl, rfl⟩ 3 (by decide) ⟨Nat.le_of_ble_eq_true rfl, Nat.le_of_ble_eq_true rfl⟩ [1, 2] [0] rfl rfl (by decide) (by decide) (by decide) rfl rfl (Nat.le_of_ble_eq_true rfl) ⟨Nat.le_of_ble_eq_true rfl, Nat.le_of_ble_eq_true rfl⟩ (fun r8 _ w9 => ?_)
    refine r_ws [(h0, .inr (9, [.ref h3, .ref h1, .int x0, .int x1, .int x2, .int x3, .int x4, .int x5, .int x6, .int x7])), (h1, .inr (4, [.ref h2, .int x8])), (h2, .inl (gB g, 1500, .inl fn0))] rfl ?_
    have p10 : 0 ≤ (Int32.toInt r8) := w9.1
    have p11 : (Int32.toInt r8) ≤ 1 := w9.2
    refine r_if_eq 28 35 C dX10_isWord_28 (by decide) (fun c12 => ?_) (fun c12 => ?_)
    · skip
      have k13 : (Int32.toInt r8) = 0 := (fa_eq r8 0).mp c12
      refine r_iconst 35 0 C dX10_isWord_35 (by decide) ?_
      exact r_zret 36 Rt dX10_isWord_36 (by decide) () (show 0 ≤ (Int32.toInt 0) ∧ (Int32.toInt 0) ≤ 1 from ⟨(by ((repeat' apply And.intro) <;> first | trivial | rfl | assumption | omega | decide | exact Or.inl rfl | exact Or.inr (Or.inl rfl) | exact Or.inr (Or.inr rfl))), (by ((repeat' apply And.intro) <;> first | trivial | rfl | assumption | omega | decide | exact Or.inl rfl | exact Or.inr (Or.inl rfl) | exact Or.inr (Or.inr rfl)))⟩) [0, 1, 2] (by decide) rfl (Nat.le_of_ble_eq_true rfl) (Nat.le_of_ble_eq_true rfl)
    · skip
      have k14 : ¬ ((Int32.toInt r8) = 0) := fun h_9 => c12 ((fa_eq r8 0).mpr h_9)
      refine r_iconst 31 1 C dX10_isWord_31 (by decide) ?_
      refine r_goto 32 36 C dX10_isWord_32 (by decide) ?_
      exact r_zret 36 Rt dX10_isWord_36 (by decide) () (show 0 ≤ (Int32.toInt 1) ∧ (Int32.toInt 1) ≤ 1 from ⟨(by ((repeat' apply And.intro) <;> first | trivial | rfl | assumption | omega | decide | exact Or.inl rfl | exact Or.inr (Or.inl rfl) | exact Or.inr (Or.inr rfl))), (by ((repeat' apply And.intro) <;> first | trivial | rfl | assumption | omega | decide | exact Or.inl rfl | exact Or.inr (Or.inl rfl) | exact Or.inr (Or.inr rfl)))⟩) [0, 1, 2] (by decide) rfl (Nat.le_of_ble_eq_true rfl) (Nat.le_of_ble_eq_true rfl)
