set_option maxHeartbeats 4000000 in
set_option maxRecDepth 100000 in
theorem c0_X5_size (l : Launch) (g : GD) (h0 : Nat) (h1 : Nat) (x0 : Int32) (i_x0 : (0 ≤ (Int32.toInt x0) ∧ (Int32.toInt x0) ≤ 1500)) (sz : Nat) : Met l yX5_size wsX5_size ({ frames := 0, cells := 0, slots := 0, locals := 0 }) (va_Pc [.ref h0] (PW g [(h0, .inr (4, [.ref h1, .int x0]))] sz)) (va_Qi (fun (r : Int32) (_ : Unit) => r = x0) (BW g (va_A [(h0, .inr (4, [.ref h1, .int x0]))] sz) (fun _ : Unit => [(h0, .inr (4, [.ref h1, .int x0]))])) (va_A [(h0, .inr (4, [.ref h1, .int x0]))] sz)) 0 0 (va_A [(h0, .inr (4, [.ref h1, .int x0]))] sz) := by
  refine met_i RX5 (by decide) rfl rfl (Nat.le_of_ble_eq_true rfl) [(0, .ref h0)] rfl ?_
  intro p e s m args below meth c A Q C hnm Rt
  have hiX5 : ∀ w ∈ wsX50, w ∈ wsX5_size := fun w h => List.mem_cons_of_mem _ (List.mem_append_right _ (h))
  refine r_aload_n 0 0 C dX5_size_0 rfl ?_
  refine r_get 1 C dX5_size_1 (k := 1) 0 rfl rfl hiX5 (by decide) rfl (mg 1 rfl) (Or.inl rfl) rfl ?_
  exact r_iret 4 Rt dX5_size_4 () (show x0 = x0 from (by ((repeat' apply And.intro) <;> first | trivial | rfl | assumption | omega | decide | exact Or.inl rfl | exact Or.inr (Or.inl rfl) | exact Or.inr (Or.inr rfl)))) [0] (by decide) rfl (Nat.le_of_ble_eq_true rfl) (Nat.le_of_ble_eq_true rfl)
set_option maxHeartbeats 4000000 in
set_option maxRecDepth 100000 in
theorem c1_X5_add (l : Launch) (g : GD) (h0 : Nat) (h1 : Nat) (x0 : Int32) (x1 : Int32) (fn0 : Nat → Int32) (i_x1 : (0 ≤ (Int32.toInt x1) ∧ (Int32.toInt x1) ≤ 1500)) (sz : Nat) : Met l yX5_add wsX5_add ({ frames := 0, cells := 0, slots := 0, locals := 0 }) (va_Pc [.ref h0, .int x0] (PW g [(h0, .inr (4, [.ref h1, .int x1])), (h1, .inl (gB g, 1500, .inl fn0))] sz)) (va_Qv (fun (u : (Int32) × (Nat → Int32)) => ((1500 ≤ (Int32.toInt x1) ∧ (Int32.toInt (u.1)) = (Int32.toInt x1)) ∨ (¬ (1500 ≤ (Int32.toInt x1)) ∧ (Int32.toInt (u.1)) = (Int32.toInt x1) + 1)) ∧ 0 ≤ (Int32.toInt (u.1)) ∧ (Int32.toInt (u.1)) ≤ 1500 ∧ HID (1500 ≤ (Int32.toInt x1) ∨ (u.2) = upd fn0 (Int.toNat (Int32.toInt x1)) (st8 x0))) (BW g (va_A [(h0, .inr (4, [.ref h1, .int x1])), (h1, .inl (gB g, 1500, .inl fn0))] sz) (fun u : (Int32) × (Nat → Int32) => [(h0, .inr (4, [.ref h1, .int u.1])), (h1, .inl (gB g, 1500, .inl u.2))])) (va_A [(h0, .inr (4, [.ref h1, .int x1])), (h1, .inl (gB g, 1500, .inl fn0))] sz)) 0 0 (va_A [(h0, .inr (4, [.ref h1, .int x1])), (h1, .inl (gB g, 1500, .inl fn0))] sz) := by
  refine met_v RX5 (by decide) rfl rfl (Nat.le_of_ble_eq_true rfl) [(0, .ref h0), (1, .int x0)] rfl ?_
  intro p e s m args below meth c A Q C hnm Rt
  have hiX5 : ∀ w ∈ wsX50, w ∈ wsX5_add := fun w h => List.mem_cons_of_mem _ (List.mem_append_right _ (h))
  refine r_aload_n 0 0 C dX5_add_0 rfl ?_
  refine r_get 1 C dX5_add_1 (k := 1) 0 rfl rfl hiX5 (by decide) rfl (mg 1 rfl) (Or.inl rfl) rfl ?_
  refine r_aload_n 4 0 C dX5_add_4 rfl ?_
  refine r_get 5 C dX5_add_5 (k := 0) 0 rfl rfl hiX5 (by decide) rfl (mg 2 rfl) (Or.inl rfl) rfl ?_
  refine r_balen 8 1500 C dX5_add_8 1 rfl (by decide) ?_
  refine r_icmp_ge 9 33 C dX5_add_9 (by decide) (fun c1 => ?_) (fun c1 => ?_)
  · skip
    have k2 : 1500 ≤ (Int32.toInt x1) := (fa_le 1500 x1).mp c1
    exact r_vret 33 Rt dX5_add_33 (x1, fn0) (show ((1500 ≤ (Int32.toInt x1) ∧ (Int32.toInt x1) = (Int32.toInt x1)) ∨ (¬ (1500 ≤ (Int32.toInt x1)) ∧ (Int32.toInt x1) = (Int32.toInt x1) + 1)) ∧ 0 ≤ (Int32.toInt x1) ∧ (Int32.toInt x1) ≤ 1500 ∧ HID (1500 ≤ (Int32.toInt x1) ∨ fn0 = upd fn0 (Int.toNat (Int32.toInt x1)) (st8 x0)) from by refine ⟨Or.inl ?_, ?_, ?_, (by first | exact Or.inl (by omega) | exact Or.inr (add_pf (by assumption) (by assumption)))⟩ <;> ((repeat' apply And.intro) <;> first | trivial | rfl | assumption | omega | decide | exact Or.inl rfl | exact Or.inr (Or.inl rfl) | exact Or.inr (Or.inr rfl))) [0, 1] (by decide) rfl (Nat.le_of_ble_eq_true rfl) (Nat.le_of_ble_eq_true rfl)
  · skip
    have k3 : ¬ (1500 ≤ (Int32.toInt x1)) := fun h_9 => c1 ((fa_le 1500 x1).mpr h_9)
    refine r_aload_n 12 0 C dX5_add_12 rfl ?_
    refine r_get 13 C dX5_add_13 (k := 0) 0 rfl rfl hiX5 (by decide) rfl (mg 2 rfl) (Or.inl rfl) rfl ?_
    refine r_aload_n 16 0 C dX5_add_16 rfl ?_
    refine r_get 17 C dX5_add_17 (k := 1) 0 rfl rfl hiX5 (by decide) rfl (mg 1 rfl) (Or.inl rfl) rfl ?_
    refine r_iload_n 20 1 C dX5_add_20 rfl ?_
    obtain ⟨z4, ez4⟩ : ∃ z_9, (Int32.toInt8 x0).toInt32 = z_9 := ⟨_, rfl⟩
    have gz4 := fb_rng z4
    refine r_i2b 21 z4 C dX5_add_21 ez4 ?_
    obtain ⟨f5, ef5⟩ : ∃ f_9, upd fn0 (Int32.toNatClampNeg x1) (vp_nar .byte z4) = f_9 := ⟨_, rfl⟩
    refine r_bast 22 C dX5_add_22 1 rfl (vinI (by omega) (by omega)) f5 ef5 [(h0, .inr (4, [.ref h1, .int x1])), (h1, .inl (gB g, 1500, .inl f5))] rfl ?_
    refine r_aload_n 23 0 C dX5_add_23 rfl ?_
    refine r_dup 24 C dX5_add_24 rfl ?_
    refine r_get 25 C dX5_add_25 (k := 1) 0 rfl rfl hiX5 (by decide) rfl (mg 1 rfl) (Or.inl rfl) rfl ?_
    refine r_iconst 28 1 C dX5_add_28 (by decide) ?_
    obtain ⟨z6, ez6⟩ : ∃ z_9, x1 + 1 = z_9 := ⟨_, rfl⟩
    have tz6 : (Int32.toInt z6) = (Int32.toInt x1) + 1 := by rw [← ez6]; exact fb_addIv (a := 0) (b := 1500) (c := 1) (d := 1) i_x1 ⟨by decide, by decide⟩ (by decide) (by decide)
    refine r_iadd 29 z6 C dX5_add_29 ez6 ?_
    refine r_put 30 C dX5_add_30 (k := 1) 0 rfl rfl hiX5 tyX5 tyX5_ok nmX5 (by decide) rfl (mg 1 rfl) (Or.inl rfl) rfl rfl rfl rfl (Nat.le_of_ble_eq_true rfl) [(h0, .inr (4, [.ref h1, .int z6])), (h1, .inl (gB g, 1500, .inl f5))] rfl ?_
    exact r_vret 33 Rt dX5_add_33 (z6, f5) (show ((1500 ≤ (Int32.toInt x1) ∧ (Int32.toInt z6) = (Int32.toInt x1)) ∨ (¬ (1500 ≤ (Int32.toInt x1)) ∧ (Int32.toInt z6) = (Int32.toInt x1) + 1)) ∧ 0 ≤ (Int32.toInt z6) ∧ (Int32.toInt z6) ≤ 1500 ∧ HID (1500 ≤ (Int32.toInt x1) ∨ f5 = upd fn0 (Int.toNat (Int32.toInt x1)) (st8 x0)) from by refine ⟨Or.inr (?_), ?_, ?_, (by first | exact Or.inl (by omega) | exact Or.inr (add_pf (by assumption) (by assumption)))⟩ <;> ((repeat' apply And.intro) <;> first | trivial | rfl | assumption | omega | decide | exact Or.inl rfl | exact Or.inr (Or.inl rfl) | exact Or.inr (Or.inr rfl))) [0, 1] (by decide) rfl (Nat.le_of_ble_eq_true rfl) (Nat.le_of_ble_eq_true rfl)
set_option maxHeartbeats 4000000 in
set_option maxRecDepth 100000 in
theorem c2_X5_addWord (l : Launch) (g : GD) (h0 : Nat) (h1 : Nat) (x0 : Int32) (x1 : Int32) (fn0 : Nat → Int32) (i_x1 : (0 ≤ (Int32.toInt x1) ∧ (Int32.toInt x1) ≤ 1500)) (sz : Nat) : Met l yX5_addWord wsX5_addWord ({ frames := 1, cells := 0, slots := 0, locals := 21 }) (va_Pc [.ref h0, .int x0] (PW g [(h0, .inr (4, [.ref h1, .int x1])), (h1, .inl (gB g, 1500, .inl fn0))] sz)) (va_Qv (fun (u : (Int32) × (Nat → Int32)) => 0 ≤ (Int32.toInt (u.1)) ∧ (Int32.toInt (u.1)) ≤ 1500 ∧ (1496 < (Int32.toInt x1) ∨ (Int32.toInt (u.1)) = (Int32.toInt x1) + 4) ∧ HID (1496 < (Int32.toInt x1) ∨ (u.2) = wr4 fn0 (Int.toNat (Int32.toInt x1)) x0)) (BW g (va_A [(h0, .inr (4, [.ref h1, .int x1])), (h1, .inl (gB g, 1500, .inl fn0))] sz) (fun u : (Int32) × (Nat → Int32) => [(h0, .inr (4, [.ref h1, .int u.1])), (h1, .inl (gB g, 1500, .inl u.2))])) (va_A [(h0, .inr (4, [.ref h1, .int x1])), (h1, .inl (gB g, 1500, .inl fn0))] sz)) 0 0 (va_A [(h0, .inr (4, [.ref h1, .int x1])), (h1, .inl (gB g, 1500, .inl fn0))] sz) := by
  refine met_v RX5 (by decide) rfl rfl (Nat.le_of_ble_eq_true rfl) [(0, .ref h0), (1, .int x0)] rfl ?_
  intro p e s m args below meth c A Q C hnm Rt
  have gx0 := fb_rng x0
  refine r_aload_n 0 0 C dX5_addWord_0 rfl ?_
  refine r_iload_n 1 1 C dX5_addWord_1 rfl ?_
  refine r_bipush 2 24 C dX5_addWord_2 (by decide) ?_
  obtain ⟨z1, ez1⟩ : ∃ z_9, x0 >>> (24 &&& 31) = z_9 := ⟨_, rfl⟩
  have tz1 : (Int32.toInt z1) = (Int32.toInt x0) / 16777216 := by rw [← ez1]; exact shr_24 x0
  refine r_ishr 4 z1 C dX5_addWord_4 ez1 ?_
  refine r_callVv 5 C dX5_addWord_5 [] [(h0, .inr (4, [.ref h1, .int x1])), (h1, .inl (gB g, 1500, .inl fn0))] [] (fun sz => c1_X5_add l g h0 h1 z1 x1 fn0 i_x1 sz) gX5_addWord_X5_add rfl ⟨rfl, rfl⟩ 1 (by decide) ⟨Nat.le_of_ble_eq_true rfl, Nat.le_of_ble_eq_true rfl⟩ 0 rfl rfl [0, 1] [] rfl rfl (by decide) (by decide) (by decide) rfl rfl (Nat.le_of_ble_eq_true rfl) ⟨Nat.le_of_ble_eq_true rfl, Nat.le_of_ble_eq_true rfl⟩ (fun  u5 w4 => ?_)
  obtain ⟨z2, f3⟩ := u5
  refine r_ws [(h0, .inr (4, [.ref h1, .int z2])), (h1, .inl (gB g, 1500, .inl f3))] rfl ?_
  have p6 : 0 ≤ (Int32.toInt z2) := w4.2.1
  have p7 : (Int32.toInt z2) ≤ 1500 := w4.2.2.1
  have p8 : HID (1500 ≤ (Int32.toInt x1) ∨ f3 = upd fn0 (Int.toNat (Int32.toInt x1)) (st8 z1)) := w4.2.2.2
  have w9 : ((1500 ≤ (Int32.toInt x1) ∧ (Int32.toInt z2) = (Int32.toInt x1)) ∨ (¬ (1500 ≤ (Int32.toInt x1)) ∧ (Int32.toInt z2) = (Int32.toInt x1) + 1)) := w4.1
  rcases w9 with ⟨k10, k11⟩ | w9
  · skip
    refine r_aload_n 8 0 C dX5_addWord_8 rfl ?_
    refine r_iload_n 9 1 C dX5_addWord_9 rfl ?_
    refine r_bipush 10 16 C dX5_addWord_10 (by decide) ?_
    obtain ⟨z12, ez12⟩ : ∃ z_9, x0 >>> (16 &&& 31) = z_9 := ⟨_, rfl⟩
    have tz12 : (Int32.toInt z12) = (Int32.toInt x0) / 65536 := by rw [← ez12]; exact shr_16 x0
    refine r_ishr 12 z12 C dX5_addWord_12 ez12 ?_
    refine r_callVv 13 C dX5_addWord_13 [] [(h0, .inr (4, [.ref h1, .int z2])), (h1, .inl (gB g, 1500, .inl f3))] [] (fun sz => c1_X5_add l g h0 h1 z12 z2 f3 ⟨p6, p7⟩ sz) gX5_addWord_X5_add rfl ⟨rfl, rfl⟩ 1 (by decide) ⟨Nat.le_of_ble_eq_true rfl, Nat.le_of_ble_eq_true rfl⟩ 0 rfl rfl [0, 1] [] rfl rfl (by decide) (by decide) (by decide) rfl rfl (Nat.le_of_ble_eq_true rfl) ⟨Nat.le_of_ble_eq_true rfl, Nat.le_of_ble_eq_true rfl⟩ (fun  u16 w15 => ?_)
    obtain ⟨z13, f14⟩ := u16
    refine r_ws [(h0, .inr (4, [.ref h1, .int z13])), (h1, .inl (gB g, 1500, .inl f14))] rfl ?_
    have p17 : 0 ≤ (Int32.toInt z13) := w15.2.1
    have p18 : (Int32.toInt z13) ≤ 1500 := w15.2.2.1
    have p19 : HID (1500 ≤ (Int32.toInt z2) ∨ f14 = upd f3 (Int.toNat (Int32.toInt z2)) (st8 z12)) := w15.2.2.2
    have w20 : ((1500 ≤ (Int32.toInt z2) ∧ (Int32.toInt z13) = (Int32.toInt z2)) ∨ (¬ (1500 ≤ (Int32.toInt z2)) ∧ (Int32.toInt z13) = (Int32.toInt z2) + 1)) := w15.1
    rcases w20 with ⟨k21, k22⟩ | w20
    · skip
      refine r_aload_n 16 0 C dX5_addWord_16 rfl ?_
      refine r_iload_n 17 1 C dX5_addWord_17 rfl ?_
      refine r_bipush 18 8 C dX5_addWord_18 (by decide) ?_
      obtain ⟨z23, ez23⟩ : ∃ z_9, x0 >>> (8 &&& 31) = z_9 := ⟨_, rfl⟩
      have tz23 : (Int32.toInt z23) = (Int32.toInt x0) / 256 := by rw [← ez23]; exact shr_8 x0
      refine r_ishr 20 z23 C dX5_addWord_20 ez23 ?_
      refine r_callVv 21 C dX5_addWord_21 [] [(h0, .inr (4, [.ref h1, .int z13])), (h1, .inl (gB g, 1500, .inl f14))] [] (fun sz => c1_X5_add l g h0 h1 z23 z13 f14 ⟨p17, p18⟩ sz) gX5_addWord_X5_add rfl ⟨rfl, rfl⟩ 1 (by decide) ⟨Nat.le_of_ble_eq_true rfl, Nat.le_of_ble_eq_true rfl⟩ 0 rfl rfl [0, 1] [] rfl rfl (by decide) (by decide) (by decide) rfl rfl (Nat.le_of_ble_eq_true rfl) ⟨Nat.le_of_ble_eq_true rfl, Nat.le_of_ble_eq_true rfl⟩ (fun  u27 w26 => ?_)
      obtain ⟨z24, f25⟩ := u27
      refine r_ws [(h0, .inr (4, [.ref h1, .int z24])), (h1, .inl (gB g, 1500, .inl f25))] rfl ?_
      have p28 : 0 ≤ (Int32.toInt z24) := w26.2.1
      have p29 : (Int32.toInt z24) ≤ 1500 := w26.2.2.1
      have p30 : HID (1500 ≤ (Int32.toInt z13) ∨ f25 = upd f14 (Int.toNat (Int32.toInt z13)) (st8 z23)) := w26.2.2.2
      have w31 : ((1500 ≤ (Int32.toInt z13) ∧ (Int32.toInt z24) = (Int32.toInt z13)) ∨ (¬ (1500 ≤ (Int32.toInt z13)) ∧ (Int32.toInt z24) = (Int32.toInt z13) + 1)) := w26.1
      rcases w31 with ⟨k32, k33⟩ | w31
      · skip
        refine r_aload_n 24 0 C dX5_addWord_24 rfl ?_
        refine r_iload_n 25 1 C dX5_addWord_25 rfl ?_
        refine r_callVv 26 C dX5_addWord_26 [] [(h0, .inr (4, [.ref h1, .int z24])), (h1, .inl (gB g, 1500, .inl f25))] [] (fun sz => c1_X5_add l g h0 h1 x0 z24 f25 ⟨p28, p29⟩ sz) gX5_addWord_X5_add rfl ⟨rfl, rfl⟩ 1 (by decide) ⟨Nat.le_of_ble_eq_true rfl, Nat.le_of_ble_eq_true rfl⟩ 0 rfl rfl [0, 1] [] rfl rfl (by decide) (by decide) (by decide) rfl rfl (Nat.le_of_ble_eq_true rfl) ⟨Nat.le_of_ble_eq_true rfl, Nat.le_of_ble_eq_true rfl⟩ (fun  u37 w36 => ?_)
        obtain ⟨z34, f35⟩ := u37
        refine r_ws [(h0, .inr (4, [.ref h1, .int z34])), (h1, .inl (gB g, 1500, .inl f35))] rfl ?_
        have p38 : 0 ≤ (Int32.toInt z34) := w36.2.1
        have p39 : (Int32.toInt z34) ≤ 1500 := w36.2.2.1
        have p40 : HID (1500 ≤ (Int32.toInt z24) ∨ f35 = upd f25 (Int.toNat (Int32.toInt z24)) (st8 x0)) := w36.2.2.2
        have w41 : ((1500 ≤ (Int32.toInt z24) ∧ (Int32.toInt z34) = (Int32.toInt z24)) ∨ (¬ (1500 ≤ (Int32.toInt z24)) ∧ (Int32.toInt z34) = (Int32.toInt z24) + 1)) := w36.1
        rcases w41 with ⟨k42, k43⟩ | w41
        · skip
          exact r_vret 29 Rt dX5_addWord_29 (z34, f35) (show 0 ≤ (Int32.toInt z34) ∧ (Int32.toInt z34) ≤ 1500 ∧ (1496 < (Int32.toInt x1) ∨ (Int32.toInt z34) = (Int32.toInt x1) + 4) ∧ HID (1496 < (Int32.toInt x1) ∨ f35 = wr4 fn0 (Int.toNat (Int32.toInt x1)) x0) from ⟨(show _ ∧ _ from ⟨p38, p39⟩).1, (show _ ∧ _ from ⟨p38, p39⟩).2, (by ((repeat' apply And.intro) <;> first | trivial | rfl | assumption | omega | decide | exact Or.inl rfl | exact Or.inr (Or.inl rfl) | exact Or.inr (Or.inr rfl))), (by first | exact Or.inl (by omega) | exact Or.inr (wr4_pf (p8.resolve_left (by omega)) (p19.resolve_left (by omega)) (p30.resolve_left (by omega)) (p40.resolve_left (by omega)) (by assumption) (by assumption) (by assumption) (by omega) (by omega) (by omega)))⟩) [0, 1] (by decide) rfl (Nat.le_of_ble_eq_true rfl) (Nat.le_of_ble_eq_true rfl)
        obtain ⟨k44, k45⟩ := w41
        exact absurd trivial (by omega)
      obtain ⟨k46, k47⟩ := w31
      exact absurd trivial (by omega)
    obtain ⟨k48, k49⟩ := w20
    exact absurd trivial (by omega)
  obtain ⟨k50, k51⟩ := w9
  refine r_aload_n 8 0 C dX5_addWord_8 rfl ?_
  refine r_iload_n 9 1 C dX5_addWord_9 rfl ?_
  refine r_bipush 10 16 C dX5_addWord_10 (by decide) ?_
  obtain ⟨z52, ez52⟩ : ∃ z_9, x0 >>> (16 &&& 31) = z_9 := ⟨_, rfl⟩
  have tz52 : (Int32.toInt z52) = (Int32.toInt x0) / 65536 := by rw [← ez52]; exact shr_16 x0
  refine r_ishr 12 z52 C dX5_addWord_12 ez52 ?_
  refine r_callVv 13 C dX5_addWord_13 [] [(h0, .inr (4, [.ref h1, .int z2])), (h1, .inl (gB g, 1500, .inl f3))] [] (fun sz => c1_X5_add l g h0 h1 z52 z2 f3 ⟨p6, p7⟩ sz) gX5_addWord_X5_add rfl ⟨rfl, rfl⟩ 1 (by decide) ⟨Nat.le_of_ble_eq_true rfl, Nat.le_of_ble_eq_true rfl⟩ 0 rfl rfl [0, 1] [] rfl rfl (by decide) (by decide) (by decide) rfl rfl (Nat.le_of_ble_eq_true rfl) ⟨Nat.le_of_ble_eq_true rfl, Nat.le_of_ble_eq_true rfl⟩ (fun  u56 w55 => ?_)
  obtain ⟨z53, f54⟩ := u56
  refine r_ws [(h0, .inr (4, [.ref h1, .int z53])), (h1, .inl (gB g, 1500, .inl f54))] rfl ?_
  have p57 : 0 ≤ (Int32.toInt z53) := w55.2.1
  have p58 : (Int32.toInt z53) ≤ 1500 := w55.2.2.1
  have p59 : HID (1500 ≤ (Int32.toInt z2) ∨ f54 = upd f3 (Int.toNat (Int32.toInt z2)) (st8 z52)) := w55.2.2.2
  have w60 : ((1500 ≤ (Int32.toInt z2) ∧ (Int32.toInt z53) = (Int32.toInt z2)) ∨ (¬ (1500 ≤ (Int32.toInt z2)) ∧ (Int32.toInt z53) = (Int32.toInt z2) + 1)) := w55.1
  rcases w60 with ⟨k61, k62⟩ | w60
  · skip
    refine r_aload_n 16 0 C dX5_addWord_16 rfl ?_
    refine r_iload_n 17 1 C dX5_addWord_17 rfl ?_
    refine r_bipush 18 8 C dX5_addWord_18 (by decide) ?_
    obtain ⟨z63, ez63⟩ : ∃ z_9, x0 >>> (8 &&& 31) = z_9 := ⟨_, rfl⟩
    have tz63 : (Int32.toInt z63) = (Int32.toInt x0) / 256 := by rw [← ez63]; exact shr_8 x0
    refine r_ishr 20 z63 C dX5_addWord_20 ez63 ?_
    refine r_callVv 21 C dX5_addWord_21 [] [(h0, .inr (4, [.ref h1, .int z53])), (h1, .inl (gB g, 1500, .inl f54))] [] (fun sz => c1_X5_add l g h0 h1 z63 z53 f54 ⟨p57, p58⟩ sz) gX5_addWord_X5_add rfl ⟨rfl, rfl⟩ 1 (by decide) ⟨Nat.le_of_ble_eq_true rfl, Nat.le_of_ble_eq_true rfl⟩ 0 rfl rfl [0, 1] [] rfl rfl (by decide) (by decide) (by decide) rfl rfl (Nat.le_of_ble_eq_true rfl) ⟨Nat.le_of_ble_eq_true rfl, Nat.le_of_ble_eq_true rfl⟩ (fun  u67 w66 => ?_)
    obtain ⟨z64, f65⟩ := u67
    refine r_ws [(h0, .inr (4, [.ref h1, .int z64])), (h1, .inl (gB g, 1500, .inl f65))] rfl ?_
    have p68 : 0 ≤ (Int32.toInt z64) := w66.2.1
    have p69 : (Int32.toInt z64) ≤ 1500 := w66.2.2.1
    have p70 : HID (1500 ≤ (Int32.toInt z53) ∨ f65 = upd f54 (Int.toNat (Int32.toInt z53)) (st8 z63)) := w66.2.2.2
    have w71 : ((1500 ≤ (Int32.toInt z53) ∧ (Int32.toInt z64) = (Int32.toInt z53)) ∨ (¬ (1500 ≤ (Int32.toInt z53)) ∧ (Int32.toInt z64) = (Int32.toInt z53) + 1)) := w66.1
    rcases w71 with ⟨k72, k73⟩ | w71
    · skip
      refine r_aload_n 24 0 C dX5_addWord_24 rfl ?_
      refine r_iload_n 25 1 C dX5_addWord_25 rfl ?_
      refine r_callVv 26 C dX5_addWord_26 [] [(h0, .inr (4, [.ref h1, .int z64])), (h1, .inl (gB g, 1500, .inl f65))] [] (fun sz => c1_X5_add l g h0 h1 x0 z64 f65 ⟨p68, p69⟩ sz) gX5_addWord_X5_add rfl ⟨rfl, rfl⟩ 1 (by decide) ⟨Nat.le_of_ble_eq_true rfl, Nat.le_of_ble_eq_true rfl⟩ 0 rfl rfl [0, 1] [] rfl rfl (by decide) (by decide) (by decide) rfl rfl (Nat.le_of_ble_eq_true rfl) ⟨Nat.le_of_ble_eq_true rfl, Nat.le_of_ble_eq_true rfl⟩ (fun  u77 w76 => ?_)
      obtain ⟨z74, f75⟩ := u77
      refine r_ws [(h0, .inr (4, [.ref h1, .int z74])), (h1, .inl (gB g, 1500, .inl f75))] rfl ?_
      have p78 : 0 ≤ (Int32.toInt z74) := w76.2.1
      have p79 : (Int32.toInt z74) ≤ 1500 := w76.2.2.1
      have p80 : HID (1500 ≤ (Int32.toInt z64) ∨ f75 = upd f65 (Int.toNat (Int32.toInt z64)) (st8 x0)) := w76.2.2.2
      have w81 : ((1500 ≤ (Int32.toInt z64) ∧ (Int32.toInt z74) = (Int32.toInt z64)) ∨ (¬ (1500 ≤ (Int32.toInt z64)) ∧ (Int32.toInt z74) = (Int32.toInt z64) + 1)) := w76.1
      rcases w81 with ⟨k82, k83⟩ | w81
      · skip
        exact r_vret 29 Rt dX5_addWord_29 (z74, f75) (show 0 ≤ (Int32.toInt z74) ∧ (Int32.toInt z74) ≤ 1500 ∧ (1496 < (Int32.toInt x1) ∨ (Int32.toInt z74) = (Int32.toInt x1) + 4) ∧ HID (1496 < (Int32.toInt x1) ∨ f75 = wr4 fn0 (Int.toNat (Int32.toInt x1)) x0) from ⟨(show _ ∧ _ from ⟨p78, p79⟩).1, (show _ ∧ _ from ⟨p78, p79⟩).2, (by ((repeat' apply And.intro) <;> first | trivial | rfl | assumption | omega | decide | exact Or.inl rfl | exact Or.inr (Or.inl rfl) | exact Or.inr (Or.inr rfl))), (by first | exact Or.inl (by omega) | exact Or.inr (wr4_pf (p8.resolve_left (by omega)) (p59.resolve_left (by omega)) (p70.resolve_left (by omega)) (p80.resolve_left (by omega)) (by assumption) (by assumption) (by assumption) (by omega) (by omega) (by omega)))⟩) [0, 1] (by decide) rfl (Nat.le_of_ble_eq_true rfl) (Nat.le_of_ble_eq_true rfl)
      obtain ⟨k84, k85⟩ := w81
      exact absurd trivial (by omega)
    obtain ⟨k86, k87⟩ := w71
    exact absurd trivial (by omega)
  obtain ⟨k88, k89⟩ := w60
  refine r_aload_n 16 0 C dX5_addWord_16 rfl ?_
  refine r_iload_n 17 1 C dX5_addWord_17 rfl ?_
  refine r_bipush 18 8 C dX5_addWord_18 (by decide) ?_
  obtain ⟨z90, ez90⟩ : ∃ z_9, x0 >>> (8 &&& 31) = z_9 := ⟨_, rfl⟩
  have tz90 : (Int32.toInt z90) = (Int32.toInt x0) / 256 := by rw [← ez90]; exact shr_8 x0
  refine r_ishr 20 z90 C dX5_addWord_20 ez90 ?_
  refine r_callVv 21 C dX5_addWord_21 [] [(h0, .inr (4, [.ref h1, .int z53])), (h1, .inl (gB g, 1500, .inl f54))] [] (fun sz => c1_X5_add l g h0 h1 z90 z53 f54 ⟨p57, p58⟩ sz) gX5_addWord_X5_add rfl ⟨rfl, rfl⟩ 1 (by decide) ⟨Nat.le_of_ble_eq_true rfl, Nat.le_of_ble_eq_true rfl⟩ 0 rfl rfl [0, 1] [] rfl rfl (by decide) (by decide) (by decide) rfl rfl (Nat.le_of_ble_eq_true rfl) ⟨Nat.le_of_ble_eq_true rfl, Nat.le_of_ble_eq_true rfl⟩ (fun  u94 w93 => ?_)
  obtain ⟨z91, f92⟩ := u94
  refine r_ws [(h0, .inr (4, [.ref h1, .int z91])), (h1, .inl (gB g, 1500, .inl f92))] rfl ?_
  have p95 : 0 ≤ (Int32.toInt z91) := w93.2.1
  have p96 : (Int32.toInt z91) ≤ 1500 := w93.2.2.1
  have p97 : HID (1500 ≤ (Int32.toInt z53) ∨ f92 = upd f54 (Int.toNat (Int32.toInt z53)) (st8 z90)) := w93.2.2.2
  have w98 : ((1500 ≤ (Int32.toInt z53) ∧ (Int32.toInt z91) = (Int32.toInt z53)) ∨ (¬ (1500 ≤ (Int32.toInt z53)) ∧ (Int32.toInt z91) = (Int32.toInt z53) + 1)) := w93.1
  rcases w98 with ⟨k99, k100⟩ | w98
  · skip
    refine r_aload_n 24 0 C dX5_addWord_24 rfl ?_
    refine r_iload_n 25 1 C dX5_addWord_25 rfl ?_
    refine r_callVv 26 C dX5_addWord_26 [] [(h0, .inr (4, [.ref h1, .int z91])), (h1, .inl (gB g, 1500, .inl f92))] [] (fun sz => c1_X5_add l g h0 h1 x0 z91 f92 ⟨p95, p96⟩ sz) gX5_addWord_X5_add rfl ⟨rfl, rfl⟩ 1 (by decide) ⟨Nat.le_of_ble_eq_true rfl, Nat.le_of_ble_eq_true rfl⟩ 0 rfl rfl [0, 1] [] rfl rfl (by decide) (by decide) (by decide) rfl rfl (Nat.le_of_ble_eq_true rfl) ⟨Nat.le_of_ble_eq_true rfl, Nat.le_of_ble_eq_true rfl⟩ (fun  u104 w103 => ?_)
    obtain ⟨z101, f102⟩ := u104
    refine r_ws [(h0, .inr (4, [.ref h1, .int z101])), (h1, .inl (gB g, 1500, .inl f102))] rfl ?_
    have p105 : 0 ≤ (Int32.toInt z101) := w103.2.1
    have p106 : (Int32.toInt z101) ≤ 1500 := w103.2.2.1
    have p107 : HID (1500 ≤ (Int32.toInt z91) ∨ f102 = upd f92 (Int.toNat (Int32.toInt z91)) (st8 x0)) := w103.2.2.2
    have w108 : ((1500 ≤ (Int32.toInt z91) ∧ (Int32.toInt z101) = (Int32.toInt z91)) ∨ (¬ (1500 ≤ (Int32.toInt z91)) ∧ (Int32.toInt z101) = (Int32.toInt z91) + 1)) := w103.1
    rcases w108 with ⟨k109, k110⟩ | w108
    · skip
      exact r_vret 29 Rt dX5_addWord_29 (z101, f102) (show 0 ≤ (Int32.toInt z101) ∧ (Int32.toInt z101) ≤ 1500 ∧ (1496 < (Int32.toInt x1) ∨ (Int32.toInt z101) = (Int32.toInt x1) + 4) ∧ HID (1496 < (Int32.toInt x1) ∨ f102 = wr4 fn0 (Int.toNat (Int32.toInt x1)) x0) from ⟨(show _ ∧ _ from ⟨p105, p106⟩).1, (show _ ∧ _ from ⟨p105, p106⟩).2, (by ((repeat' apply And.intro) <;> first | trivial | rfl | assumption | omega | decide | exact Or.inl rfl | exact Or.inr (Or.inl rfl) | exact Or.inr (Or.inr rfl))), (by first | exact Or.inl (by omega) | exact Or.inr (wr4_pf (p8.resolve_left (by omega)) (p59.resolve_left (by omega)) (p97.resolve_left (by omega)) (p107.resolve_left (by omega)) (by assumption) (by assumption) (by assumption) (by omega) (by omega) (by omega)))⟩) [0, 1] (by decide) rfl (Nat.le_of_ble_eq_true rfl) (Nat.le_of_ble_eq_true rfl)
    obtain ⟨k111, k112⟩ := w108
    exact absurd trivial (by omega)
  obtain ⟨k113, k114⟩ := w98
  refine r_aload_n 24 0 C dX5_addWord_24 rfl ?_
  refine r_iload_n 25 1 C dX5_addWord_25 rfl ?_
  refine r_callVv 26 C dX5_addWord_26 [] [(h0, .inr (4, [.ref h1, .int z91])), (h1, .inl (gB g, 1500, .inl f92))] [] (fun sz => c1_X5_add l g h0 h1 x0 z91 f92 ⟨p95, p96⟩ sz) gX5_addWord_X5_add rfl ⟨rfl, rfl⟩ 1 (by decide) ⟨Nat.le_of_ble_eq_true rfl, Nat.le_of_ble_eq_true rfl⟩ 0 rfl rfl [0, 1] [] rfl rfl (by decide) (by decide) (by decide) rfl rfl (Nat.le_of_ble_eq_true rfl) ⟨Nat.le_of_ble_eq_true rfl, Nat.le_of_ble_eq_true rfl⟩ (fun  u118 w117 => ?_)
  obtain ⟨z115, f116⟩ := u118
  refine r_ws [(h0, .inr (4, [.ref h1, .int z115])), (h1, .inl (gB g, 1500, .inl f116))] rfl ?_
  have p119 : 0 ≤ (Int32.toInt z115) := w117.2.1
  have p120 : (Int32.toInt z115) ≤ 1500 := w117.2.2.1
  have p121 : HID (1500 ≤ (Int32.toInt z91) ∨ f116 = upd f92 (Int.toNat (Int32.toInt z91)) (st8 x0)) := w117.2.2.2
  have w122 : ((1500 ≤ (Int32.toInt z91) ∧ (Int32.toInt z115) = (Int32.toInt z91)) ∨ (¬ (1500 ≤ (Int32.toInt z91)) ∧ (Int32.toInt z115) = (Int32.toInt z91) + 1)) := w117.1
  rcases w122 with ⟨k123, k124⟩ | w122
  · skip
    exact r_vret 29 Rt dX5_addWord_29 (z115, f116) (show 0 ≤ (Int32.toInt z115) ∧ (Int32.toInt z115) ≤ 1500 ∧ (1496 < (Int32.toInt x1) ∨ (Int32.toInt z115) = (Int32.toInt x1) + 4) ∧ HID (1496 < (Int32.toInt x1) ∨ f116 = wr4 fn0 (Int.toNat (Int32.toInt x1)) x0) from ⟨(show _ ∧ _ from ⟨p119, p120⟩).1, (show _ ∧ _ from ⟨p119, p120⟩).2, (by ((repeat' apply And.intro) <;> first | trivial | rfl | assumption | omega | decide | exact Or.inl rfl | exact Or.inr (Or.inl rfl) | exact Or.inr (Or.inr rfl))), (by first | exact Or.inl (by omega) | exact Or.inr (wr4_pf (p8.resolve_left (by omega)) (p59.resolve_left (by omega)) (p97.resolve_left (by omega)) (p121.resolve_left (by omega)) (by assumption) (by assumption) (by assumption) (by omega) (by omega) (by omega)))⟩) [0, 1] (by decide) rfl (Nat.le_of_ble_eq_true rfl) (Nat.le_of_ble_eq_true rfl)
  obtain ⟨k125, k126⟩ := w122
  exact r_vret 29 Rt dX5_addWord_29 (z115, f116) (show 0 ≤ (Int32.toInt z115) ∧ (Int32.toInt z115) ≤ 1500 ∧ (1496 < (Int32.toInt x1) ∨ (Int32.toInt z115) = (Int32.toInt x1) + 4) ∧ HID (1496 < (Int32.toInt x1) ∨ f116 = wr4 fn0 (Int.toNat (Int32.toInt x1)) x0) from ⟨(show _ ∧ _ from ⟨p119, p120⟩).1, (show _ ∧ _ from ⟨p119, p120⟩).2, (by ((repeat' apply And.intro) <;> first | trivial | rfl | assumption | omega | decide | exact Or.inl rfl | exact Or.inr (Or.inl rfl) | exact Or.inr (Or.inr rfl))), (by first | exact Or.inl (by omega) | exact Or.inr (wr4_pf (p8.resolve_left (by omega)) (p59.resolve_left (by omega)) (p97.resolve_left (by omega)) (p121.resolve_left (by omega)) (by assumption) (by assumption) (by assumption) (by omega) (by omega) (by omega)))⟩) [0, 1] (by decide) rfl (Nat.le_of_ble_eq_true rfl) (Nat.le_of_ble_eq_true rfl)
set_option maxHeartbeats 4000000 in
set_option maxRecDepth 100000 in
theorem c3_X11_feed (l : Launch) (g : GD) (h0 : Nat) (h1 : Nat) (h2 : Nat) (x0 : Int32) (x1 : Int32) (x2 : Int32) (x3 : Int32) (x4 : Int32) (h3 : Nat) (h4 : Nat) (h5 : Nat) (h6 : Nat) (h7 : Nat) (h8 : Nat) (h9 : Nat) (h10 : Nat) (vv0 : Value) (x5 : Int32) (fn0 : Nat → Int32) (i_x5 : (0 ≤ (Int32.toInt x5) ∧ (Int32.toInt x5) ≤ 1500)) (sz : Nat) : Met l yX11_feed wsX11_feed ({ frames := 2, cells := 0, slots := 0, locals := 42 }) (va_Pc [.ref h0, .int x0, .int x1, .int x2, .int x3, .int x4] (PW g [(h0, .inr (10, [.ref h1, .ref h3, .ref h4, .ref h5, .ref h6, .ref h7, .ref h8, .ref h9, .ref h10, vv0])), (h1, .inr (4, [.ref h2, .int x5])), (h2, .inl (gB g, 1500, .inl fn0))] sz)) (va_Qi (fun (r : Int32) (u : (Int32) × (Nat → Int32)) => -1 ≤ (Int32.toInt r) ∧ (Int32.toInt r) ≤ 1500 ∧ 0 ≤ (Int32.toInt (u.1)) ∧ (Int32.toInt (u.1)) ≤ 1500 ∧ ((1480 < (Int32.toInt x5) ∧ (Int32.toInt (u.1)) = (Int32.toInt x5) ∧ (Int32.toInt r) = -1) ∨ ((Int32.toInt x5) ≤ 1480 ∧ (Int32.toInt (u.1)) = (Int32.toInt x5) + 20 ∧ (Int32.toInt r) = (Int32.toInt (u.1)))) ∧ HID ((1480 < (Int32.toInt x5) ∧ (u.2) = fn0) ∨ ((Int32.toInt x5) ≤ 1480 ∧ (u.2) = (wr4 (wr4 (wr4 (wr4 (wr4 fn0 ((Int.toNat (Int32.toInt x5)) + 0) x0) ((Int.toNat (Int32.toInt x5)) + 4) x1) ((Int.toNat (Int32.toInt x5)) + 8) x2) ((Int.toNat (Int32.toInt x5)) + 12) x3) ((Int.toNat (Int32.toInt x5)) + 16) x4)))) (BW g (va_A [(h0, .inr (10, [.ref h1, .ref h3, .ref h4, .ref h5, .ref h6, .ref h7, .ref h8, .ref h9, .ref h10, vv0])), (h1, .inr (4, [.ref h2, .int x5])), (h2, .inl (gB g, 1500, .inl fn0))] sz) (fun u : (Int32) × (Nat → Int32) => [(h0, .inr (10, [.ref h1, .ref h3, .ref h4, .ref h5, .ref h6, .ref h7, .ref h8, .ref h9, .ref h10, vv0])), (h1, .inr (4, [.ref h2, .int u.1])), (h2, .inl (gB g, 1500, .inl u.2))])) (va_A [(h0, .inr (10, [.ref h1, .ref h3, .ref h4, .ref h5, .ref h6, .ref h7, .ref h8, .ref h9, .ref h10, vv0])), (h1, .inr (4, [.ref h2, .int x5])), (h2, .inl (gB g, 1500, .inl fn0))] sz)) 0 0 (va_A [(h0, .inr (10, [.ref h1, .ref h3, .ref h4, .ref h5, .ref h6, .ref h7, .ref h8, .ref h9, .ref h10, vv0])), (h1, .inr (4, [.ref h2, .int x5])), (h2, .inl (gB g, 1500, .inl fn0))] sz) := by
  refine met_i RX11 (by decide) rfl rfl (Nat.le_of_ble_eq_true rfl) [(0, .ref h0), (1, .int x0), (2, .int x1), (3, .int x2), (4, .int x3), (5, .int x4)] rfl ?_
  intro p e s m args below meth c A Q C hnm Rt
  have hiX11 : ∀ w ∈ wsX110, w ∈ wsX11_feed := fun w h => List.mem_cons_of_mem _ (List.mem_append_left _ (List.mem_append_right _ (h)))
  refine r_aload_n 0 0 C dX11_feed_0 rfl ?_
  refine r_get 1 C dX11_feed_1 (k := 0) 0 rfl rfl hiX11 (by decide) rfl (mg 1 rfl) (Or.inl rfl) rfl ?_
  refine r_callVi 4 C dX11_feed_4 [] [(h1, .inr (4, [.ref h2, .int x5]))] [(h0, .inr (10, [.ref h1, .ref h3, .ref h4, .ref h5, .ref h6, .ref h7, .ref h8, .ref h9, .ref h10, vv0])), (h2, .inl (gB g, 1500, .inl fn0))] (fun sz => c0_X5_size l g h1 h2 x5 i_x5 sz) gX11_feed_X5_size rfl ⟨rfl, rfl⟩ 0 (by decide) ⟨Nat.le_of_ble_eq_true rfl, Nat.le_of_ble_eq_true rfl⟩ 1 rfl rfl [1] [0, 2] rfl rfl (by decide) (by decide) (by decide) rfl rfl (Nat.le_of_ble_eq_true rfl) ⟨Nat.le_of_ble_eq_true rfl, Nat.le_of_ble_eq_true rfl⟩ (fun r1 _ w2 => ?_)
  refine r_ws [(h0, .inr (10, [.ref h1, .ref h3, .ref h4, .ref h5, .ref h6, .ref h7, .ref h8, .ref h9, .ref h10, vv0])), (h2, .inl (gB g, 1500, .inl fn0)), (h1, .inr (4, [.ref h2, .int x5]))] rfl ?_
  have p3 : x5 = r1 := (w2).symm
  subst p3
  refine r_bipush 7 20 C dX11_feed_7 (by decide) ?_
  obtain ⟨z4, ez4⟩ : ∃ z_9, x5 + 20 = z_9 := ⟨_, rfl⟩
  have tz4 : (Int32.toInt z4) = (Int32.toInt x5) + 20 := by rw [← ez4]; exact fb_addIv (a := 0) (b := 1500) (c := 20) (d := 20) i_x5 ⟨by decide, by decide⟩ (by decide) (by decide)
  refine r_iadd 9 z4 C dX11_feed_9 ez4 ?_
  refine r_sipush 10 1500 C dX11_feed_10 (by decide) ?_
  refine r_icmp_le 13 18 C dX11_feed_13 (by decide) (fun c5 => ?_) (fun c5 => ?_)
  · skip
    have k6 : (Int32.toInt z4) ≤ 1500 := (fa_le z4 1500).mp c5
    refine r_aload_n 18 0 C dX11_feed_18 rfl ?_
    refine r_get 19 C dX11_feed_19 (k := 0) 0 rfl rfl hiX11 (by decide) rfl (mg 1 rfl) (Or.inl rfl) rfl ?_
    refine r_iload_n 22 1 C dX11_feed_22 rfl ?_
    refine r_callVv 23 C dX11_feed_23 [] [(h1, .inr (4, [.ref h2, .int x5])), (h2, .inl (gB g, 1500, .inl fn0))] [(h0, .inr (10, [.ref h1, .ref h3, .ref h4, .ref h5, .ref h6, .ref h7, .ref h8, .ref h9, .ref h10, vv0]))] (fun sz => c2_X5_addWord l g h1 h2 x0 x5 fn0 i_x5 sz) gX11_feed_X5_addWord rfl ⟨rfl, rfl⟩ 1 (by decide) ⟨Nat.le_of_ble_eq_true rfl, Nat.le_of_ble_eq_true rfl⟩ 2 rfl rfl [2, 1] [0] rfl rfl (by decide) (by decide) (by decide) rfl rfl (Nat.le_of_ble_eq_true rfl) ⟨Nat.le_of_ble_eq_true rfl, Nat.le_of_ble_eq_true rfl⟩ (fun  u10 w9 => ?_)
    obtain ⟨z7, f8⟩ := u10
    refine r_ws [(h0, .inr (10, [.ref h1, .ref h3, .ref h4, .ref h5, .ref h6, .ref h7, .ref h8, .ref h9, .ref h10, vv0])), (h1, .inr (4, [.ref h2, .int z7])), (h2, .inl (gB g, 1500, .inl f8))] rfl ?_
    have p11 : 0 ≤ (Int32.toInt z7) := w9.1
    have p12 : (Int32.toInt z7) ≤ 1500 := w9.2.1
    have p13 : (1496 < (Int32.toInt x5) ∨ (Int32.toInt z7) = (Int32.toInt x5) + 4) := w9.2.2.1
    have p14 : HID (1496 < (Int32.toInt x5) ∨ f8 = wr4 fn0 (Int.toNat (Int32.toInt x5)) x0) := w9.2.2.2
    refine r_aload_n 26 0 C dX11_feed_26 rfl ?_
    refine r_get 27 C dX11_feed_27 (k := 0) 0 rfl rfl hiX11 (by decide) rfl (mg 1 rfl) (Or.inl rfl) rfl ?_
    refine r_iload_n 30 2 C dX11_feed_30 rfl ?_
    refine r_callVv 31 C dX11_feed_31 [] [(h1, .inr (4, [.ref h2, .int z7])), (h2, .inl (gB g, 1500, .inl f8))] [(h0, .inr (10, [.ref h1, .ref h3, .ref h4, .ref h5, .ref h6, .ref h7, .ref h8, .ref h9, .ref h10, vv0]))] (fun sz => c2_X5_addWord l g h1 h2 x1 z7 f8 ⟨p11, p12⟩ sz) gX11_feed_X5_addWord rfl ⟨rfl, rfl⟩ 1 (by decide) ⟨Nat.le_of_ble_eq_true rfl, Nat.le_of_ble_eq_true rfl⟩ 1 rfl rfl [1, 2] [0] rfl rfl (by decide) (by decide) (by decide) rfl rfl (Nat.le_of_ble_eq_true rfl) ⟨Nat.le_of_ble_eq_true rfl, Nat.le_of_ble_eq_true rfl⟩ (fun  u18 w17 => ?_)
    obtain ⟨z15, f16⟩ := u18
    refine r_ws [(h0, .inr (10, [.ref h1, .ref h3, .ref h4, .ref h5, .ref h6, .ref h7, .ref h8, .ref h9, .ref h10, vv0])), (h1, .inr (4, [.ref h2, .int z15])), (h2, .inl (gB g, 1500, .inl f16))] rfl ?_
    have p19 : 0 ≤ (Int32.toInt z15) := w17.1
    have p20 : (Int32.toInt z15) ≤ 1500 := w17.2.1
    have p21 : (1496 < (Int32.toInt z7) ∨ (Int32.toInt z15) = (Int32.toInt z7) + 4) := w17.2.2.1
    have p22 : HID (1496 < (Int32.toInt z7) ∨ f16 = wr4 f8 (Int.toNat (Int32.toInt z7)) x1) := w17.2.2.2
    refine r_aload_n 34 0 C dX11_feed_34 rfl ?_
    refine r_get 35 C dX11_feed_35 (k := 0) 0 rfl rfl hiX11 (by decide) rfl (mg 1 rfl) (Or.inl rfl) rfl ?_
    refine r_iload_n 38 3 C dX11_feed_38 rfl ?_
    refine r_callVv 39 C dX11_feed_39 [] [(h1, .inr (4, [.ref h2, .int z15])), (h2, .inl (gB g, 1500, .inl f16))] [(h0, .inr (10, [.ref h1, .ref h3, .ref h4, .ref h5, .ref h6, .ref h7, .ref h8, .ref h9, .ref h10, vv0]))] (fun sz => c2_X5_addWord l g h1 h2 x2 z15 f16 ⟨p19, p20⟩ sz) gX11_feed_X5_addWord rfl ⟨rfl, rfl⟩ 1 (by decide) ⟨Nat.le_of_ble_eq_true rfl, Nat.le_of_ble_eq_true rfl⟩ 1 rfl rfl [1, 2] [0] rfl rfl (by decide) (by decide) (by decide) rfl rfl (Nat.le_of_ble_eq_true rfl) ⟨Nat.le_of_ble_eq_true rfl, Nat.le_of_ble_eq_true rfl⟩ (fun  u26 w25 => ?_)
    obtain ⟨z23, f24⟩ := u26
    refine r_ws [(h0, .inr (10, [.ref h1, .ref h3, .ref h4, .ref h5, .ref h6, .ref h7, .ref h8, .ref h9, .ref h10, vv0])), (h1, .inr (4, [.ref h2, .int z23])), (h2, .inl (gB g, 1500, .inl f24))] rfl ?_
    have p27 : 0 ≤ (Int32.toInt z23) := w25.1
    have p28 : (Int32.toInt z23) ≤ 1500 := w25.2.1
    have p29 : (1496 < (Int32.toInt z15) ∨ (Int32.toInt z23) = (Int32.toInt z15) + 4) := w25.2.2.1
    have p30 : HID (1496 < (Int32.toInt z15) ∨ f24 = wr4 f16 (Int.toNat (Int32.toInt z15)) x2) := w25.2.2.2
    refine r_aload_n 42 0 C dX11_feed_42 rfl ?_
    refine r_get 43 C dX11_feed_43 (k := 0) 0 rfl rfl hiX11 (by decide) rfl (mg 1 rfl) (Or.inl rfl) rfl ?_
    refine r_iload 46 4 C dX11_feed_46 rfl ?_
    refine r_callVv 48 C dX11_feed_48 [] [(h1, .inr (4, [.ref h2, .int z23])), (h2, .inl (gB g, 1500, .inl f24))] [(h0, .inr (10, [.ref h1, .ref h3, .ref h4, .ref h5, .ref h6, .ref h7, .ref h8, .ref h9, .ref h10, vv0]))] (fun sz => c2_X5_addWord l g h1 h2 x3 z23 f24 ⟨p27, p28⟩ sz) gX11_feed_X5_addWord rfl ⟨rfl, rfl⟩ 1 (by decide) ⟨Nat.le_of_ble_eq_true rfl, Nat.le_of_ble_eq_true rfl⟩ 1 rfl rfl [1, 2] [0] rfl rfl (by decide) (by decide) (by decide) rfl rfl (Nat.le_of_ble_eq_true rfl) ⟨Nat.le_of_ble_eq_true rfl, Nat.le_of_ble_eq_true rfl⟩ (fun  u34 w33 => ?_)
    obtain ⟨z31, f32⟩ := u34
    refine r_ws [(h0, .inr (10, [.ref h1, .ref h3, .ref h4, .ref h5, .ref h6, .ref h7, .ref h8, .ref h9, .ref h10, vv0])), (h1, .inr (4, [.ref h2, .int z31])), (h2, .inl (gB g, 1500, .inl f32))] rfl ?_
    have p35 : 0 ≤ (Int32.toInt z31) := w33.1
    have p36 : (Int32.toInt z31) ≤ 1500 := w33.2.1
    have p37 : (1496 < (Int32.toInt z23) ∨ (Int32.toInt z31) = (Int32.toInt z23) + 4) := w33.2.2.1
    have p38 : HID (1496 < (Int32.toInt z23) ∨ f32 = wr4 f24 (Int.toNat (Int32.toInt z23)) x3) := w33.2.2.2
    refine r_aload_n 51 0 C dX11_feed_51 rfl ?_
    refine r_get 52 C dX11_feed_52 (k := 0) 0 rfl rfl hiX11 (by decide) rfl (mg 1 rfl) (Or.inl rfl) rfl ?_
    refine r_iload 55 5 C dX11_feed_55 rfl ?_
    refine r_callVv 57 C dX11_feed_57 [] [(h1, .inr (4, [.ref h2, .int z31])), (h2, .inl (gB g, 1500, .inl f32))] [(h0, .inr (10, [.ref h1, .ref h3, .ref h4, .ref h5, .ref h6, .ref h7, .ref h8, .ref h9, .ref h10, vv0]))] (fun sz => c2_X5_addWord l g h1 h2 x4 z31 f32 ⟨p35, p36⟩ sz) gX11_feed_X5_addWord rfl ⟨rfl, rfl⟩ 1 (by decide) ⟨Nat.le_of_ble_eq_true rfl, Nat.le_of_ble_eq_true rfl⟩ 1 rfl rfl [1, 2] [0] rfl rfl (by decide) (by decide) (by decide) rfl rfl (Nat.le_of_ble_eq_true rfl) ⟨Nat.le_of_ble_eq_true rfl, Nat.le_of_ble_eq_true rfl⟩ (fun  u42 w41 => ?_)
    obtain ⟨z39, f40⟩ := u42
    refine r_ws [(h0, .inr (10, [.ref h1, .ref h3, .ref h4, .ref h5, .ref h6, .ref h7, .ref h8, .ref h9, .ref h10, vv0])), (h1, .inr (4, [.ref h2, .int z39])), (h2, .inl (gB g, 1500, .inl f40))] rfl ?_
    have p43 : 0 ≤ (Int32.toInt z39) := w41.1
    have p44 : (Int32.toInt z39) ≤ 1500 := w41.2.1
    have p45 : (1496 < (Int32.toInt z31) ∨ (Int32.toInt z39) = (Int32.toInt z31) + 4) := w41.2.2.1
    have p46 : HID (1496 < (Int32.toInt z31) ∨ f40 = wr4 f32 (Int.toNat (Int32.toInt z31)) x4) := w41.2.2.2
    refine r_aload_n 60 0 C dX11_feed_60 rfl ?_
    refine r_get 61 C dX11_feed_61 (k := 0) 0 rfl rfl hiX11 (by decide) rfl (mg 1 rfl) (Or.inl rfl) rfl ?_
    refine r_callVi 64 C dX11_feed_64 [] [(h1, .inr (4, [.ref h2, .int z39]))] [(h0, .inr (10, [.ref h1, .ref h3, .ref h4, .ref h5, .ref h6, .ref h7, .ref h8, .ref h9, .ref h10, vv0])), (h2, .inl (gB g, 1500, .inl f40))] (fun sz => c0_X5_size l g h1 h2 z39 ⟨p43, p44⟩ sz) gX11_feed_X5_size rfl ⟨rfl, rfl⟩ 0 (by decide) ⟨Nat.le_of_ble_eq_true rfl, Nat.le_of_ble_eq_true rfl⟩ 1 rfl rfl [1] [0, 2] rfl rfl (by decide) (by decide) (by decide) rfl rfl (Nat.le_of_ble_eq_true rfl) ⟨Nat.le_of_ble_eq_true rfl, Nat.le_of_ble_eq_true rfl⟩ (fun r47 _ w48 => ?_)
    refine r_ws [(h0, .inr (10, [.ref h1, .ref h3, .ref h4, .ref h5, .ref h6, .ref h7, .ref h8, .ref h9, .ref h10, vv0])), (h2, .inl (gB g, 1500, .inl f40)), (h1, .inr (4, [.ref h2, .int z39]))] rfl ?_
    have p49 : z39 = r47 := (w48).symm
    subst p49
    exact r_iret 67 Rt dX11_feed_67 (z39, f40) (show -1 ≤ (Int32.toInt z39) ∧ (Int32.toInt z39) ≤ 1500 ∧ 0 ≤ (Int32.toInt z39) ∧ (Int32.toInt z39) ≤ 1500 ∧ ((1480 < (Int32.toInt x5) ∧ (Int32.toInt z39) = (Int32.toInt x5) ∧ (Int32.toInt z39) = -1) ∨ ((Int32.toInt x5) ≤ 1480 ∧ (Int32.toInt z39) = (Int32.toInt x5) + 20 ∧ (Int32.toInt z39) = (Int32.toInt z39))) ∧ HID ((1480 < (Int32.toInt x5) ∧ f40 = fn0) ∨ ((Int32.toInt x5) ≤ 1480 ∧ f40 = (wr4 (wr4 (wr4 (wr4 (wr4 fn0 ((Int.toNat (Int32.toInt x5)) + 0) x0) ((Int.toNat (Int32.toInt x5)) + 4) x1) ((Int.toNat (Int32.toInt x5)) + 8) x2) ((Int.toNat (Int32.toInt x5)) + 12) x3) ((Int.toNat (Int32.toInt x5)) + 16) x4))) from ⟨(iv_wide (c := (-1)) (d := 1500) ⟨p43, p44⟩ (by decide) (by decide)).1, (show _ ∧ _ from ⟨p43, p44⟩).2, (show _ ∧ _ from ⟨p43, p44⟩).1, (show _ ∧ _ from ⟨p43, p44⟩).2, (by ((repeat' apply And.intro) <;> first | trivial | rfl | assumption | omega | decide | exact Or.inl rfl | exact Or.inr (Or.inl rfl) | exact Or.inr (Or.inr rfl))), (by exact Or.inr ⟨by omega, feed_pf (p14.resolve_left (by omega)) (p22.resolve_left (by omega)) (p30.resolve_left (by omega)) (p38.resolve_left (by omega)) (p46.resolve_left (by omega)) (by omega) (by omega) (by omega) (by omega) (by omega)⟩)⟩) [0, 2, 1] (by decide) rfl (Nat.le_of_ble_eq_true rfl) (Nat.le_of_ble_eq_true rfl)
  · skip
    have k50 : ¬ ((Int32.toInt z4) ≤ 1500) := fun h_9 => c5 ((fa_le z4 1500).mpr h_9)
    refine r_iconst 16 (-1) C dX11_feed_16 (by decide) ?_
    exact r_iret 17 Rt dX11_feed_17 (x5, fn0) (show -1 ≤ (Int32.toInt (-1)) ∧ (Int32.toInt (-1)) ≤ 1500 ∧ 0 ≤ (Int32.toInt x5) ∧ (Int32.toInt x5) ≤ 1500 ∧ ((1480 < (Int32.toInt x5) ∧ (Int32.toInt x5) = (Int32.toInt x5) ∧ (-1) = -1) ∨ ((Int32.toInt x5) ≤ 1480 ∧ (Int32.toInt x5) = (Int32.toInt x5) + 20 ∧ (-1) = (Int32.toInt x5))) ∧ HID ((1480 < (Int32.toInt x5) ∧ fn0 = fn0) ∨ ((Int32.toInt x5) ≤ 1480 ∧ fn0 = (wr4 (wr4 (wr4 (wr4 (wr4 fn0 ((Int.toNat (Int32.toInt x5)) + 0) x0) ((Int.toNat (Int32.toInt x5)) + 4) x1) ((Int.toNat (Int32.toInt x5)) + 8) x2) ((Int.toNat (Int32.toInt x5)) + 12) x3) ((Int.toNat (Int32.toInt x5)) + 16) x4))) from ⟨(by ((repeat' apply And.intro) <;> first | trivial | rfl | assumption | omega | decide | exact Or.inl rfl | exact Or.inr (Or.inl rfl) | exact Or.inr (Or.inr rfl))), (by ((repeat' apply And.intro) <;> first | trivial | rfl | assumption | omega | decide | exact Or.inl rfl | exact Or.inr (Or.inl rfl) | exact Or.inr (Or.inr rfl))), i_x5.1, i_x5.2, (by ((repeat' apply And.intro) <;> first | trivial | rfl | assumption | omega | decide | exact Or.inl rfl | exact Or.inr (Or.inl rfl) | exact Or.inr (Or.inr rfl))), (by exact Or.inl ⟨by omega, rfl⟩)⟩) [0, 2, 1] (by decide) rfl (Nat.le_of_ble_eq_true rfl) (Nat.le_of_ble_eq_true rfl)
set_option maxHeartbeats 4000000 in
set_option maxRecDepth 100000 in
theorem c4_X5_cut (l : Launch) (g : GD) (h0 : Nat) (x0 : Int32) (h1 : Nat) (x1 : Int32) (i_x1 : (0 ≤ (Int32.toInt x1) ∧ (Int32.toInt x1) ≤ 1500)) (sz : Nat) : Met l yX5_cut wsX5_cut ({ frames := 0, cells := 0, slots := 0, locals := 0 }) (va_Pc [.ref h0, .int x0] (PW g [(h0, .inr (4, [.ref h1, .int x1]))] sz)) (va_Qv (fun (u : (Int32)) => (((Int32.toInt x0) < 0 ∧ (Int32.toInt u) = (Int32.toInt x1)) ∨ (¬ ((Int32.toInt x0) < 0) ∧ (Int32.toInt x1) < (Int32.toInt x0) ∧ (Int32.toInt u) = (Int32.toInt x1)) ∨ (¬ ((Int32.toInt x0) < 0) ∧ ¬ ((Int32.toInt x1) < (Int32.toInt x0)) ∧ (Int32.toInt u) = (Int32.toInt x0))) ∧ 0 ≤ (Int32.toInt u) ∧ (Int32.toInt u) ≤ 1500) (BW g (va_A [(h0, .inr (4, [.ref h1, .int x1]))] sz) (fun u : (Int32) => [(h0, .inr (4, [.ref h1, .int u]))])) (va_A [(h0, .inr (4, [.ref h1, .int x1]))] sz)) 0 0 (va_A [(h0, .inr (4, [.ref h1, .int x1]))] sz) := by
  refine met_v RX5 (by decide) rfl rfl (Nat.le_of_ble_eq_true rfl) [(0, .ref h0), (1, .int x0)] rfl ?_
  intro p e s m args below meth c A Q C hnm Rt
  have gx0 := fb_rng x0
  have hiX5 : ∀ w ∈ wsX50, w ∈ wsX5_cut := fun w h => List.mem_cons_of_mem _ (List.mem_append_right _ (h))
  refine r_iload_n 0 1 C dX5_cut_0 rfl ?_
  refine r_if_lt 1 17 C dX5_cut_1 (by decide) (fun c1 => ?_) (fun c1 => ?_)
  · skip
    have k2 : (Int32.toInt x0) < 0 := (fa_lt x0 0).mp c1
    exact r_vret 17 Rt dX5_cut_17 x1 (show (((Int32.toInt x0) < 0 ∧ (Int32.toInt x1) = (Int32.toInt x1)) ∨ (¬ ((Int32.toInt x0) < 0) ∧ (Int32.toInt x1) < (Int32.toInt x0) ∧ (Int32.toInt x1) = (Int32.toInt x1)) ∨ (¬ ((Int32.toInt x0) < 0) ∧ ¬ ((Int32.toInt x1) < (Int32.toInt x0)) ∧ (Int32.toInt x1) = (Int32.toInt x0))) ∧ 0 ≤ (Int32.toInt x1) ∧ (Int32.toInt x1) ≤ 1500 from by refine ⟨Or.inl ?_, ?_, ?_⟩ <;> ((repeat' apply And.intro) <;> first | trivial | rfl | assumption | omega | decide | exact Or.inl rfl | exact Or.inr (Or.inl rfl) | exact Or.inr (Or.inr rfl))) [0] (by decide) rfl (Nat.le_of_ble_eq_true rfl) (Nat.le_of_ble_eq_true rfl)
  · skip
    have k3 : ¬ ((Int32.toInt x0) < 0) := fun h_9 => c1 ((fa_lt x0 0).mpr h_9)
    refine r_iload_n 4 1 C dX5_cut_4 rfl ?_
    refine r_aload_n 5 0 C dX5_cut_5 rfl ?_
    refine r_get 6 C dX5_cut_6 (k := 1) 0 rfl rfl hiX5 (by decide) rfl (mg 1 rfl) (Or.inl rfl) rfl ?_
    refine r_icmp_gt 9 17 C dX5_cut_9 (by decide) (fun c4 => ?_) (fun c4 => ?_)
    · skip
      have k5 : (Int32.toInt x1) < (Int32.toInt x0) := (fa_lt x1 x0).mp c4
      exact r_vret 17 Rt dX5_cut_17 x1 (show (((Int32.toInt x0) < 0 ∧ (Int32.toInt x1) = (Int32.toInt x1)) ∨ (¬ ((Int32.toInt x0) < 0) ∧ (Int32.toInt x1) < (Int32.toInt x0) ∧ (Int32.toInt x1) = (Int32.toInt x1)) ∨ (¬ ((Int32.toInt x0) < 0) ∧ ¬ ((Int32.toInt x1) < (Int32.toInt x0)) ∧ (Int32.toInt x1) = (Int32.toInt x0))) ∧ 0 ≤ (Int32.toInt x1) ∧ (Int32.toInt x1) ≤ 1500 from by refine ⟨Or.inr (Or.inl ?_), ?_, ?_⟩ <;> ((repeat' apply And.intro) <;> first | trivial | rfl | assumption | omega | decide | exact Or.inl rfl | exact Or.inr (Or.inl rfl) | exact Or.inr (Or.inr rfl))) [0] (by decide) rfl (Nat.le_of_ble_eq_true rfl) (Nat.le_of_ble_eq_true rfl)
    · skip
      have k6 : ¬ ((Int32.toInt x1) < (Int32.toInt x0)) := fun h_9 => c4 ((fa_lt x1 x0).mpr h_9)
      refine r_aload_n 12 0 C dX5_cut_12 rfl ?_
      refine r_iload_n 13 1 C dX5_cut_13 rfl ?_
      refine r_put 14 C dX5_cut_14 (k := 1) 0 rfl rfl hiX5 tyX5 tyX5_ok nmX5 (by decide) rfl (mg 1 rfl) (Or.inl rfl) rfl rfl rfl rfl (Nat.le_of_ble_eq_true rfl) [(h0, .inr (4, [.ref h1, .int x0]))] rfl ?_
      exact r_vret 17 Rt dX5_cut_17 x0 (show (((Int32.toInt x0) < 0 ∧ (Int32.toInt x0) = (Int32.toInt x1)) ∨ (¬ ((Int32.toInt x0) < 0) ∧ (Int32.toInt x1) < (Int32.toInt x0) ∧ (Int32.toInt x0) = (Int32.toInt x1)) ∨ (¬ ((Int32.toInt x0) < 0) ∧ ¬ ((Int32.toInt x1) < (Int32.toInt x0)) ∧ (Int32.toInt x0) = (Int32.toInt x0))) ∧ 0 ≤ (Int32.toInt x0) ∧ (Int32.toInt x0) ≤ 1500 from by refine ⟨Or.inr (Or.inr (?_)), ?_, ?_⟩ <;> ((repeat' apply And.intro) <;> first | trivial | rfl | assumption | omega | decide | exact Or.inl rfl | exact Or.inr (Or.inl rfl) | exact Or.inr (Or.inr rfl))) [0] (by decide) rfl (Nat.le_of_ble_eq_true rfl) (Nat.le_of_ble_eq_true rfl)
set_option maxHeartbeats 4000000 in
set_option maxRecDepth 100000 in
theorem c5_X11_end (l : Launch) (g : GD) (h0 : Nat) (h1 : Nat) (x0 : Int32) (h2 : Nat) (h3 : Nat) (h4 : Nat) (h5 : Nat) (h6 : Nat) (h7 : Nat) (h8 : Nat) (h9 : Nat) (vv0 : Value) (h10 : Nat) (x1 : Int32) (i_x1 : (0 ≤ (Int32.toInt x1) ∧ (Int32.toInt x1) ≤ 1500)) (sz : Nat) : Met l yX11_end wsX11_end ({ frames := 1, cells := 0, slots := 0, locals := 21 }) (va_Pc [.ref h0, .int x0] (PW g [(h0, .inr (10, [.ref h1, .ref h2, .ref h3, .ref h4, .ref h5, .ref h6, .ref h7, .ref h8, .ref h9, vv0])), (h1, .inr (4, [.ref h10, .int x1]))] sz)) (va_Qi (fun (r : Int32) (u : (Int32)) => -1 ≤ (Int32.toInt r) ∧ (Int32.toInt r) ≤ 1500 ∧ 0 ≤ (Int32.toInt u) ∧ (Int32.toInt u) ≤ 1500 ∧ ((((Int32.toInt x0) < 0 ∨ (Int32.toInt x1) < (Int32.toInt x0)) ∧ (Int32.toInt u) = (Int32.toInt x1) ∧ (Int32.toInt r) = -1) ∨ (0 ≤ (Int32.toInt x0) ∧ (Int32.toInt x0) ≤ (Int32.toInt x1) ∧ (Int32.toInt u) = (Int32.toInt x0) ∧ (Int32.toInt r) = (Int32.toInt x0)))) (BW g (va_A [(h0, .inr (10, [.ref h1, .ref h2, .ref h3, .ref h4, .ref h5, .ref h6, .ref h7, .ref h8, .ref h9, vv0])), (h1, .inr (4, [.ref h10, .int x1]))] sz) (fun u : (Int32) => [(h0, .inr (10, [.ref h1, .ref h2, .ref h3, .ref h4, .ref h5, .ref h6, .ref h7, .ref h8, .ref h9, vv0])), (h1, .inr (4, [.ref h10, .int u]))])) (va_A [(h0, .inr (10, [.ref h1, .ref h2, .ref h3, .ref h4, .ref h5, .ref h6, .ref h7, .ref h8, .ref h9, vv0])), (h1, .inr (4, [.ref h10, .int x1]))] sz)) 0 0 (va_A [(h0, .inr (10, [.ref h1, .ref h2, .ref h3, .ref h4, .ref h5, .ref h6, .ref h7, .ref h8, .ref h9, vv0])), (h1, .inr (4, [.ref h10, .int x1]))] sz) := by
  refine met_i RX11 (by decide) rfl rfl (Nat.le_of_ble_eq_true rfl) [(0, .ref h0), (1, .int x0)] rfl ?_
  intro p e s m args below meth c A Q C hnm Rt
  have gx0 := fb_rng x0
  have hiX11 : ∀ w ∈ wsX110, w ∈ wsX11_end := fun w h => List.mem_cons_of_mem _ (List.mem_append_left _ (List.mem_append_right _ (h)))
  refine r_iload_n 0 1 C dX11_end_0 rfl ?_
  refine r_if_lt 1 15 C dX11_end_1 (by decide) (fun c1 => ?_) (fun c1 => ?_)
  · skip
    have k2 : (Int32.toInt x0) < 0 := (fa_lt x0 0).mp c1
    refine r_iconst 15 (-1) C dX11_end_15 (by decide) ?_
    exact r_iret 16 Rt dX11_end_16 x1 (show -1 ≤ (Int32.toInt (-1)) ∧ (Int32.toInt (-1)) ≤ 1500 ∧ 0 ≤ (Int32.toInt x1) ∧ (Int32.toInt x1) ≤ 1500 ∧ ((((Int32.toInt x0) < 0 ∨ (Int32.toInt x1) < (Int32.toInt x0)) ∧ (Int32.toInt x1) = (Int32.toInt x1) ∧ (-1) = -1) ∨ (0 ≤ (Int32.toInt x0) ∧ (Int32.toInt x0) ≤ (Int32.toInt x1) ∧ (Int32.toInt x1) = (Int32.toInt x0) ∧ (-1) = (Int32.toInt x0))) from ⟨(by ((repeat' apply And.intro) <;> first | trivial | rfl | assumption | omega | decide | exact Or.inl rfl | exact Or.inr (Or.inl rfl) | exact Or.inr (Or.inr rfl))), (by ((repeat' apply And.intro) <;> first | trivial | rfl | assumption | omega | decide | exact Or.inl rfl | exact Or.inr (Or.inl rfl) | exact Or.inr (Or.inr rfl))), i_x1.1, i_x1.2, (by ((repeat' apply And.intro) <;> first | trivial | rfl | assumption | omega | decide | exact Or.inl rfl | exact Or.inr (Or.inl rfl) | exact Or.inr (Or.inr rfl)))⟩) [0, 1] (by decide) rfl (Nat.le_of_ble_eq_true rfl) (Nat.le_of_ble_eq_true rfl)
  · skip
    have k3 : ¬ ((Int32.toInt x0) < 0) := fun h_9 => c1 ((fa_lt x0 0).mpr h_9)
    refine r_iload_n 4 1 C dX11_end_4 rfl ?_
    refine r_aload_n 5 0 C dX11_end_5 rfl ?_
    refine r_get 6 C dX11_end_6 (k := 0) 0 rfl rfl hiX11 (by decide) rfl (mg 1 rfl) (Or.inl rfl) rfl ?_
    refine r_callVi 9 C dX11_end_9 [.int x0] [(h1, .inr (4, [.ref h10, .int x1]))] [(h0, .inr (10, [.ref h1, .ref h2, .ref h3, .ref h4, .ref h5, .ref h6, .ref h7, .ref h8, .ref h9, vv0]))] (fun sz => c0_X5_size l g h1 h10 x1 i_x1 sz) gX11_end_X5_size rfl ⟨rfl, rfl⟩ 0 (by decide) ⟨Nat.le_of_ble_eq_true rfl, Nat.le_of_ble_eq_true rfl⟩ 1 rfl rfl [1] [0] rfl rfl (by decide) (by decide) (by decide) rfl rfl (Nat.le_of_ble_eq_true rfl) ⟨Nat.le_of_ble_eq_true rfl, Nat.le_of_ble_eq_true rfl⟩ (fun r4 _ w5 => ?_)
    refine r_ws [(h0, .inr (10, [.ref h1, .ref h2, .ref h3, .ref h4, .ref h5, .ref h6, .ref h7, .ref h8, .ref h9, vv0])), (h1, .inr (4, [.ref h10, .int x1]))] rfl ?_
    have p6 : x1 = r4 := (w5).symm
    subst p6
    refine r_icmp_le 12 17 C dX11_end_12 (by decide) (fun c7 => ?_) (fun c7 => ?_)
    · skip
      have k8 : (Int32.toInt x0) ≤ (Int32.toInt x1) := (fa_le x0 x1).mp c7
      refine r_aload_n 17 0 C dX11_end_17 rfl ?_
      refine r_get 18 C dX11_end_18 (k := 0) 0 rfl rfl hiX11 (by decide) rfl (mg 1 rfl) (Or.inl rfl) rfl ?_
      refine r_iload_n 21 1 C dX11_end_21 rfl ?_
      refine r_callVv 22 C dX11_end_22 [] [(h1, .inr (4, [.ref h10, .int x1]))] [(h0, .inr (10, [.ref h1, .ref h2, .ref h3, .ref h4, .ref h5, .ref h6, .ref h7, .ref h8, .ref h9, vv0]))] (fun sz => c4_X5_cut l g h1 x0 h10 x1 i_x1 sz) gX11_end_X5_cut rfl ⟨rfl, rfl⟩ 1 (by decide) ⟨Nat.le_of_ble_eq_true rfl, Nat.le_of_ble_eq_true rfl⟩ 1 rfl rfl [1] [0] rfl rfl (by decide) (by decide) (by decide) rfl rfl (Nat.le_of_ble_eq_true rfl) ⟨Nat.le_of_ble_eq_true rfl, Nat.le_of_ble_eq_true rfl⟩ (fun  z9 w10 => ?_)
      refine r_ws [(h0, .inr (10, [.ref h1, .ref h2, .ref h3, .ref h4, .ref h5, .ref h6, .ref h7, .ref h8, .ref h9, vv0])), (h1, .inr (4, [.ref h10, .int z9]))] rfl ?_
      have p11 : 0 ≤ (Int32.toInt z9) := w10.2.1
      have p12 : (Int32.toInt z9) ≤ 1500 := w10.2.2
      have w13 : (((Int32.toInt x0) < 0 ∧ (Int32.toInt z9) = (Int32.toInt x1)) ∨ (¬ ((Int32.toInt x0) < 0) ∧ (Int32.toInt x1) < (Int32.toInt x0) ∧ (Int32.toInt z9) = (Int32.toInt x1)) ∨ (¬ ((Int32.toInt x0) < 0) ∧ ¬ ((Int32.toInt x1) < (Int32.toInt x0)) ∧ (Int32.toInt z9) = (Int32.toInt x0))) := w10.1
      rcases w13 with ⟨k14, k15⟩ | w13
      · skip
        exact absurd trivial (by omega)
      rcases w13 with ⟨k16, k17, k18⟩ | w13
      · skip
        refine r_iload_n 25 1 C dX11_end_25 rfl ?_
        exact r_iret 26 Rt dX11_end_26 z9 (show -1 ≤ (Int32.toInt x0) ∧ (Int32.toInt x0) ≤ 1500 ∧ 0 ≤ (Int32.toInt z9) ∧ (Int32.toInt z9) ≤ 1500 ∧ ((((Int32.toInt x0) < 0 ∨ (Int32.toInt x1) < (Int32.toInt x0)) ∧ (Int32.toInt z9) = (Int32.toInt x1) ∧ (Int32.toInt x0) = -1) ∨ (0 ≤ (Int32.toInt x0) ∧ (Int32.toInt x0) ≤ (Int32.toInt x1) ∧ (Int32.toInt z9) = (Int32.toInt x0) ∧ (Int32.toInt x0) = (Int32.toInt x0))) from ⟨(by ((repeat' apply And.intro) <;> first | trivial | rfl | assumption | omega | decide | exact Or.inl rfl | exact Or.inr (Or.inl rfl) | exact Or.inr (Or.inr rfl))), (by ((repeat' apply And.intro) <;> first | trivial | rfl | assumption | omega | decide | exact Or.inl rfl | exact Or.inr (Or.inl rfl) | exact Or.inr (Or.inr rfl))), (show _ ∧ _ from ⟨p11, p12⟩).1, (show _ ∧ _ from ⟨p11, p12⟩).2, (by ((repeat' apply And.intro) <;> first | trivial | rfl | assumption | omega | decide | exact Or.inl rfl | exact Or.inr (Or.inl rfl) | exact Or.inr (Or.inr rfl)))⟩) [0, 1] (by decide) rfl (Nat.le_of_ble_eq_true rfl) (Nat.le_of_ble_eq_true rfl)
      obtain ⟨k19, k20, k21⟩ := w13
      refine r_iload_n 25 1 C dX11_end_25 rfl ?_
      exact r_iret 26 Rt dX11_end_26 z9 (show -1 ≤ (Int32.toInt x0) ∧ (Int32.toInt x0) ≤ 1500 ∧ 0 ≤ (Int32.toInt z9) ∧ (Int32.toInt z9) ≤ 1500 ∧ ((((Int32.toInt x0) < 0 ∨ (Int32.toInt x1) < (Int32.toInt x0)) ∧ (Int32.toInt z9) = (Int32.toInt x1) ∧ (Int32.toInt x0) = -1) ∨ (0 ≤ (Int32.toInt x0) ∧ (Int32.toInt x0) ≤ (Int32.toInt x1) ∧ (Int32.toInt z9) = (Int32.toInt x0) ∧ (Int32.toInt x0) = (Int32.toInt x0))) from ⟨(by ((repeat' apply And.intro) <;> first | trivial | rfl | assumption | omega | decide | exact Or.inl rfl | exact Or.inr (Or.inl rfl) | exact Or.inr (Or.inr rfl))), (by ((repeat' apply And.intro) <;> first | trivial | rfl | assumption | omega | decide | exact Or.inl rfl | exact Or.inr (Or.inl rfl) | exact Or.inr (Or.inr rfl))), (show _ ∧ _ from ⟨p11, p12⟩).1, (show _ ∧ _ from ⟨p11, p12⟩).2, (by ((repeat' apply And.intro) <;> first | trivial | rfl | assumption | omega | decide | exact Or.inl rfl | exact Or.inr (Or.inl rfl) | exact Or.inr (Or.inr rfl)))⟩) [0, 1] (by decide) rfl (Nat.le_of_ble_eq_true rfl) (Nat.le_of_ble_eq_true rfl)
    · skip
      have k22 : ¬ ((Int32.toInt x0) ≤ (Int32.toInt x1)) := fun h_9 => c7 ((fa_le x0 x1).mpr h_9)
      refine r_iconst 15 (-1) C dX11_end_15 (by decide) ?_
      exact r_iret 16 Rt dX11_end_16 x1 (show -1 ≤ (Int32.toInt (-1)) ∧ (Int32.toInt (-1)) ≤ 1500 ∧ 0 ≤ (Int32.toInt x1) ∧ (Int32.toInt x1) ≤ 1500 ∧ ((((Int32.toInt x0) < 0 ∨ (Int32.toInt x1) < (Int32.toInt x0)) ∧ (Int32.toInt x1) = (Int32.toInt x1) ∧ (-1) = -1) ∨ (0 ≤ (Int32.toInt x0) ∧ (Int32.toInt x0) ≤ (Int32.toInt x1) ∧ (Int32.toInt x1) = (Int32.toInt x0) ∧ (-1) = (Int32.toInt x0))) from ⟨(by ((repeat' apply And.intro) <;> first | trivial | rfl | assumption | omega | decide | exact Or.inl rfl | exact Or.inr (Or.inl rfl) | exact Or.inr (Or.inr rfl))), (by ((repeat' apply And.intro) <;> first | trivial | rfl | assumption | omega | decide | exact Or.inl rfl | exact Or.inr (Or.inl rfl) | exact Or.inr (Or.inr rfl))), i_x1.1, i_x1.2, (by ((repeat' apply And.intro) <;> first | trivial | rfl | assumption | omega | decide | exact Or.inl rfl | exact Or.inr (Or.inl rfl) | exact Or.inr (Or.inr rfl)))⟩) [0, 1] (by decide) rfl (Nat.le_of_ble_eq_true rfl) (Nat.le_of_ble_eq_true rfl)
set_option maxHeartbeats 4000000 in
set_option maxRecDepth 100000 in
theorem c6_X8_size (l : Launch) (g : GD) (h0 : Nat) (h1 : Nat) (h2 : Nat) (h3 : Nat) (x0 : Int32) (x1 : Int32) (x2 : Int32) (sz : Nat) : Met l yX8_size wsX8_size ({ frames := 0, cells := 0, slots := 0, locals := 0 }) (va_Pc [.ref h0] (PW g [(h0, .inr (7, [.ref h1, .ref h2, .ref h3, .int x0, .int x1, .int x2]))] sz)) (va_Qi (fun (r : Int32) (_ : Unit) => r = x0) (BW g (va_A [(h0, .inr (7, [.ref h1, .ref h2, .ref h3, .int x0, .int x1, .int x2]))] sz) (fun _ : Unit => [(h0, .inr (7, [.ref h1, .ref h2, .ref h3, .int x0, .int x1, .int x2]))])) (va_A [(h0, .inr (7, [.ref h1, .ref h2, .ref h3, .int x0, .int x1, .int x2]))] sz)) 0 0 (va_A [(h0, .inr (7, [.ref h1, .ref h2, .ref h3, .int x0, .int x1, .int x2]))] sz) := by
  refine met_i RX8 (by decide) rfl rfl (Nat.le_of_ble_eq_true rfl) [(0, .ref h0)] rfl ?_
  intro p e s m args below meth c A Q C hnm Rt
  have hiX8 : ∀ w ∈ wsX80, w ∈ wsX8_size := fun w h => List.mem_cons_of_mem _ (List.mem_append_right _ (h))
  refine r_aload_n 0 0 C dX8_size_0 rfl ?_
  refine r_get 1 C dX8_size_1 (k := 3) 0 rfl rfl hiX8 (by decide) rfl (mg 1 rfl) (Or.inl rfl) rfl ?_
  exact r_iret 4 Rt dX8_size_4 () (show x0 = x0 from (by ((repeat' apply And.intro) <;> first | trivial | rfl | assumption | omega | decide | exact Or.inl rfl | exact Or.inr (Or.inl rfl) | exact Or.inr (Or.inr rfl)))) [0] (by decide) rfl (Nat.le_of_ble_eq_true rfl) (Nat.le_of_ble_eq_true rfl)
set_option maxHeartbeats 4000000 in
set_option maxRecDepth 100000 in
theorem c7_X11_font (l : Launch) (g : GD) (h0 : Nat) (h1 : Nat) (h2 : Nat) (h3 : Nat) (h4 : Nat) (x0 : Int32) (h5 : Nat) (h6 : Nat) (h7 : Nat) (h8 : Nat) (h9 : Nat) (h10 : Nat) (h11 : Nat) (h12 : Nat) (vv0 : Value) (h13 : Nat) (x1 : Int32) (x2 : Int32) (x3 : Int32) (h14 : Nat) (h15 : Nat) (x4 : Int32) (x5 : Int32) (x6 : Int32) (h16 : Nat) (h17 : Nat) (x7 : Int32) (x8 : Int32) (x9 : Int32) (h18 : Nat) (h19 : Nat) (x10 : Int32) (x11 : Int32) (x12 : Int32) (sz : Nat) : Met l yX11_font wsX11_font ({ frames := 1, cells := 0, slots := 0, locals := 20 }) (va_Pc [.ref h0, .int x0] (PW g [(h0, .inr (10, [.ref h5, .ref h6, .ref h1, .ref h7, .ref h8, .ref h9, .ref h10, .ref h11, .ref h12, vv0])), (h1, .inr (3, [.ref h13, .ref h2, .ref h3, .ref h4, .int x1, .int x2, .int x3])), (h2, .inr (7, [.ref h13, .ref h14, .ref h15, .int x4, .int x5, .int x6])), (h3, .inr (7, [.ref h13, .ref h16, .ref h17, .int x7, .int x8, .int x9])), (h4, .inr (7, [.ref h13, .ref h18, .ref h19, .int x10, .int x11, .int x12]))] sz)) (va_Qi (fun (r : Int32) (_ : Unit) => EQP (Int32.toInt r) (FON (Int32.toInt x1) (Int32.toInt x4) (Int32.toInt x7) (Int32.toInt x10) (Int32.toInt x2) (Int32.toInt x3) (Int32.toInt x0))) (BW g (va_A [(h0, .inr (10, [.ref h5, .ref h6, .ref h1, .ref h7, .ref h8, .ref h9, .ref h10, .ref h11, .ref h12, vv0])), (h1, .inr (3, [.ref h13, .ref h2, .ref h3, .ref h4, .int x1, .int x2, .int x3])), (h2, .inr (7, [.ref h13, .ref h14, .ref h15, .int x4, .int x5, .int x6])), (h3, .inr (7, [.ref h13, .ref h16, .ref h17, .int x7, .int x8, .int x9])), (h4, .inr (7, [.ref h13, .ref h18, .ref h19, .int x10, .int x11, .int x12]))] sz) (fun _ : Unit => [(h0, .inr (10, [.ref h5, .ref h6, .ref h1, .ref h7, .ref h8, .ref h9, .ref h10, .ref h11, .ref h12, vv0])), (h1, .inr (3, [.ref h13, .ref h2, .ref h3, .ref h4, .int x1, .int x2, .int x3])), (h2, .inr (7, [.ref h13, .ref h14, .ref h15, .int x4, .int x5, .int x6])), (h3, .inr (7, [.ref h13, .ref h16, .ref h17, .int x7, .int x8, .int x9])), (h4, .inr (7, [.ref h13, .ref h18, .ref h19, .int x10, .int x11, .int x12]))])) (va_A [(h0, .inr (10, [.ref h5, .ref h6, .ref h1, .ref h7, .ref h8, .ref h9, .ref h10, .ref h11, .ref h12, vv0])), (h1, .inr (3, [.ref h13, .ref h2, .ref h3, .ref h4, .int x1, .int x2, .int x3])), (h2, .inr (7, [.ref h13, .ref h14, .ref h15, .int x4, .int x5, .int x6])), (h3, .inr (7, [.ref h13, .ref h16, .ref h17, .int x7, .int x8, .int x9])), (h4, .inr (7, [.ref h13, .ref h18, .ref h19, .int x10, .int x11, .int x12]))] sz)) 0 0 (va_A [(h0, .inr (10, [.ref h5, .ref h6, .ref h1, .ref h7, .ref h8, .ref h9, .ref h10, .ref h11, .ref h12, vv0])), (h1, .inr (3, [.ref h13, .ref h2, .ref h3, .ref h4, .int x1, .int x2, .int x3])), (h2, .inr (7, [.ref h13, .ref h14, .ref h15, .int x4, .int x5, .int x6])), (h3, .inr (7, [.ref h13, .ref h16, .ref h17, .int x7, .int x8, .int x9])), (h4, .inr (7, [.ref h13, .ref h18, .ref h19, .int x10, .int x11, .int x12]))] sz) := by
  refine met_i RX11 (by decide) rfl rfl (Nat.le_of_ble_eq_true rfl) [(0, .ref h0), (1, .int x0)] rfl ?_
  intro p e s m args below meth c A Q C hnm Rt
  have gx0 := fb_rng x0
  have gx1 := fb_rng x1
  have gx2 := fb_rng x2
  have gx3 := fb_rng x3
  have gx4 := fb_rng x4
  have gx7 := fb_rng x7
  have gx10 := fb_rng x10
  have hiX11 : ∀ w ∈ wsX110, w ∈ wsX11_font := fun w h => List.mem_cons_of_mem _ (List.mem_append_left _ (List.mem_append_left _ (List.mem_append_right _ (h))))
  have hiX3 : ∀ w ∈ wsX30, w ∈ wsX11_font := fun w h => List.mem_cons_of_mem _ (List.mem_append_left _ (List.mem_append_right _ (h)))
  refine r_aload_n 0 0 C dX11_font_0 rfl ?_
  refine r_get 1 C dX11_font_1 (k := 2) 0 rfl rfl hiX11 (by decide) rfl (mg 1 rfl) (Or.inl rfl) rfl ?_
  refine r_getN 4 C dX11_font_4 (k := 4) 1 rfl rfl hiX3 (by decide) rfl (mg 5 rfl) rfl rfl ?_
  refine r_iconst 7 (-1) C dX11_font_7 (by decide) ?_
  refine r_icmp_ne 8 13 C dX11_font_8 (by decide) (fun c1 => ?_) (fun c1 => ?_)
  · skip
    have k2 : ¬ ((Int32.toInt x1) = (-1)) := fun h_9 => c1 ((fa_eq x1 (-1)).mpr h_9)
    refine r_iload_n 13 1 C dX11_font_13 rfl ?_
    by_cases c3 : x0 = 0
    · skip
      have k4 : (Int32.toInt x0) = 0 := (fa_eq x0 0).mp c3
      refine r_tableIn 14 52 0 C dX11_font_14 c3 (by decide) (by decide) rfl (by decide) ?_
      refine r_aload_n 52 0 C dX11_font_52 rfl ?_
      refine r_get 53 C dX11_font_53 (k := 2) 0 rfl rfl hiX11 (by decide) rfl (mg 1 rfl) (Or.inl rfl) rfl ?_
      refine r_getN 56 C dX11_font_56 (k := 4) 1 rfl rfl hiX3 (by decide) rfl (mg 5 rfl) rfl rfl ?_
      exact r_iret 59 Rt dX11_font_59 () (show EQP (Int32.toInt x1) (FON (Int32.toInt x1) (Int32.toInt x4) (Int32.toInt x7) (Int32.toInt x10) (Int32.toInt x2) (Int32.toInt x3) (Int32.toInt x0)) from (by unfold EQP FON; (repeat' split) <;> omega)) [0, 1, 2, 3, 4] (by decide) rfl (Nat.le_of_ble_eq_true rfl) (Nat.le_of_ble_eq_true rfl)
    · skip
      have k5 : ¬ ((Int32.toInt x0) = 0) := fun h_9 => c3 ((fa_eq x0 0).mpr h_9)
      by_cases c6 : x0 = 1
      · skip
        have k7 : (Int32.toInt x0) = 1 := (fa_eq x0 1).mp c6
        refine r_tableIn 14 60 1 C dX11_font_14 c6 (by decide) (by decide) rfl (by decide) ?_
        refine r_aload_n 60 0 C dX11_font_60 rfl ?_
        refine r_get 61 C dX11_font_61 (k := 2) 0 rfl rfl hiX11 (by decide) rfl (mg 1 rfl) (Or.inl rfl) rfl ?_
        refine r_getN 64 C dX11_font_64 (k := 1) 1 rfl rfl hiX3 (by decide) rfl (mg 6 rfl) rfl rfl ?_
        refine r_callVi 67 C dX11_font_67 [] [(h2, .inr (7, [.ref h13, .ref h14, .ref h15, .int x4, .int x5, .int x6]))] [(h0, .inr (10, [.ref h5, .ref h6, .ref h1, .ref h7, .ref h8, .ref h9, .ref h10, .ref h11, .ref h12, vv0])), (h1, .inr (3, [.ref h13, .ref h2, .ref h3, .ref h4, .int x1, .int x2, .int x3])), (h3, .inr (7, [.ref h13, .ref h16, .ref h17, .int x7, .int x8, .int x9])), (h4, .inr (7, [.ref h13, .ref h18, .ref h19, .int x10, .int x11, .int x12]))] (fun sz => c6_X8_size l g h2 h13 h14 h15 x4 x5 x6  sz) gX11_font_X8_size rfl ⟨rfl, rfl⟩ 0 (by decide) ⟨Nat.le_of_ble_eq_true rfl, Nat.le_of_ble_eq_true rfl⟩ 2 rfl rfl [2] [0, 1, 3, 4] rfl rfl (by decide) (by decide) (by decide) rfl rfl (Nat.le_of_ble_eq_true rfl) ⟨Nat.le_of_ble_eq_true rfl, Nat.le_of_ble_eq_true rfl⟩ (fun r8 _ w9 => ?_)
        refine r_ws [(h0, .inr (10, [.ref h5, .ref h6, .ref h1, .ref h7, .ref h8, .ref h9, .ref h10, .ref h11, .ref h12, vv0])), (h1, .inr (3, [.ref h13, .ref h2, .ref h3, .ref h4, .int x1, .int x2, .int x3])), (h3, .inr (7, [.ref h13, .ref h16, .ref h17, .int x7, .int x8, .int x9])), (h4, .inr (7, [.ref h13, .ref h18, .ref h19, .int x10, .int x11, .int x12])), (h2, .inr (7, [.ref h13, .ref h14, .ref h15, .int x4, .int x5, .int x6]))] rfl ?_
        have p10 : x4 = r8 := (w9).symm
        subst p10
        exact r_iret 70 Rt dX11_font_70 () (show EQP (Int32.toInt x4) (FON (Int32.toInt x1) (Int32.toInt x4) (Int32.toInt x7) (Int32.toInt x10) (Int32.toInt x2) (Int32.toInt x3) (Int32.toInt x0)) from (by unfold EQP FON; (repeat' split) <;> omega)) [0, 1, 4, 2, 3] (by decide) rfl (Nat.le_of_ble_eq_true rfl) (Nat.le_of_ble_eq_true rfl)
      · skip
        have k11 : ¬ ((Int32.toInt x0) = 1) := fun h_9 => c6 ((fa_eq x0 1).mpr h_9)
        by_cases c12 : x0 = 2
        · skip
          have k13 : (Int32.toInt x0) = 2 := (fa_eq x0 2).mp c12
          refine r_tableIn 14 71 2 C dX11_font_14 c12 (by decide) (by decide) rfl (by decide) ?_
          refine r_aload_n 71 0 C dX11_font_71 rfl ?_
          refine r_get 72 C dX11_font_72 (k := 2) 0 rfl rfl hiX11 (by decide) rfl (mg 1 rfl) (Or.inl rfl) rfl ?_
          refine r_getN 75 C dX11_font_75 (k := 2) 1 rfl rfl hiX3 (by decide) rfl (mg 0 rfl) rfl rfl ?_
          refine r_callVi 78 C dX11_font_78 [] [(h3, .inr (7, [.ref h13, .ref h16, .ref h17, .int x7, .int x8, .int x9]))] [(h0, .inr (10, [.ref h5, .ref h6, .ref h1, .ref h7, .ref h8, .ref h9, .ref h10, .ref h11, .ref h12, vv0])), (h1, .inr (3, [.ref h13, .ref h2, .ref h3, .ref h4, .int x1, .int x2, .int x3])), (h2, .inr (7, [.ref h13, .ref h14, .ref h15, .int x4, .int x5, .int x6])), (h4, .inr (7, [.ref h13, .ref h18, .ref h19, .int x10, .int x11, .int x12]))] (fun sz => c6_X8_size l g h3 h13 h16 h17 x7 x8 x9  sz) gX11_font_X8_size rfl ⟨rfl, rfl⟩ 0 (by decide) ⟨Nat.le_of_ble_eq_true rfl, Nat.le_of_ble_eq_true rfl⟩ 3 rfl rfl [3] [0, 1, 2, 4] rfl rfl (by decide) (by decide) (by decide) rfl rfl (Nat.le_of_ble_eq_true rfl) ⟨Nat.le_of_ble_eq_true rfl, Nat.le_of_ble_eq_true rfl⟩ (fun r14 _ w15 => ?_)
          refine r_ws [(h0, .inr (10, [.ref h5, .ref h6, .ref h1, .ref h7, .ref h8, .ref h9, .ref h10, .ref h11, .ref h12, vv0])), (h1, .inr (3, [.ref h13, .ref h2, .ref h3, .ref h4, .int x1, .int x2, .int x3])), (h2, .inr (7, [.ref h13, .ref h14, .ref h15, .int x4, .int x5, .int x6])), (h4, .inr (7, [.ref h13, .ref h18, .ref h19, .int x10, .int x11, .int x12])), (h3, .inr (7, [.ref h13, .ref h16, .ref h17, .int x7, .int x8, .int x9]))] rfl ?_
          have p16 : x7 = r14 := (w15).symm
          subst p16
          exact r_iret 81 Rt dX11_font_81 () (show EQP (Int32.toInt x7) (FON (Int32.toInt x1) (Int32.toInt x4) (Int32.toInt x7) (Int32.toInt x10) (Int32.toInt x2) (Int32.toInt x3) (Int32.toInt x0)) from (by unfold EQP FON; (repeat' split) <;> omega)) [0, 1, 2, 4, 3] (by decide) rfl (Nat.le_of_ble_eq_true rfl) (Nat.le_of_ble_eq_true rfl)
        · skip
          have k17 : ¬ ((Int32.toInt x0) = 2) := fun h_9 => c12 ((fa_eq x0 2).mpr h_9)
          by_cases c18 : x0 = 3
          · skip
            have k19 : (Int32.toInt x0) = 3 := (fa_eq x0 3).mp c18
            refine r_tableIn 14 82 3 C dX11_font_14 c18 (by decide) (by decide) rfl (by decide) ?_
            refine r_aload_n 82 0 C dX11_font_82 rfl ?_
            refine r_get 83 C dX11_font_83 (k := 2) 0 rfl rfl hiX11 (by decide) rfl (mg 1 rfl) (Or.inl rfl) rfl ?_
            refine r_getN 86 C dX11_font_86 (k := 3) 1 rfl rfl hiX3 (by decide) rfl (mg 1 rfl) rfl rfl ?_
            refine r_callVi 89 C dX11_font_89 [] [(h4, .inr (7, [.ref h13, .ref h18, .ref h19, .int x10, .int x11, .int x12]))] [(h0, .inr (10, [.ref h5, .ref h6, .ref h1, .ref h7, .ref h8, .ref h9, .ref h10, .ref h11, .ref h12, vv0])), (h1, .inr (3, [.ref h13, .ref h2, .ref h3, .ref h4, .int x1, .int x2, .int x3])), (h2, .inr (7, [.ref h13, .ref h14, .ref h15, .int x4, .int x5, .int x6])), (h3, .inr (7, [.ref h13, .ref h16, .ref h17, .int x7, .int x8, .int x9]))] (fun sz => c6_X8_size l g h4 h13 h18 h19 x10 x11 x12  sz) gX11_font_X8_size rfl ⟨rfl, rfl⟩ 0 (by decide) ⟨Nat.le_of_ble_eq_true rfl, Nat.le_of_ble_eq_true rfl⟩ 4 rfl rfl [4] [0, 1, 2, 3] rfl rfl (by decide) (by decide) (by decide) rfl rfl (Nat.le_of_ble_eq_true rfl) ⟨Nat.le_of_ble_eq_true rfl, Nat.le_of_ble_eq_true rfl⟩ (fun r20 _ w21 => ?_)
            refine r_ws [(h0, .inr (10, [.ref h5, .ref h6, .ref h1, .ref h7, .ref h8, .ref h9, .ref h10, .ref h11, .ref h12, vv0])), (h1, .inr (3, [.ref h13, .ref h2, .ref h3, .ref h4, .int x1, .int x2, .int x3])), (h2, .inr (7, [.ref h13, .ref h14, .ref h15, .int x4, .int x5, .int x6])), (h3, .inr (7, [.ref h13, .ref h16, .ref h17, .int x7, .int x8, .int x9])), (h4, .inr (7, [.ref h13, .ref h18, .ref h19, .int x10, .int x11, .int x12]))] rfl ?_
            have p22 : x10 = r20 := (w21).symm
            subst p22
            exact r_iret 92 Rt dX11_font_92 () (show EQP (Int32.toInt x10) (FON (Int32.toInt x1) (Int32.toInt x4) (Int32.toInt x7) (Int32.toInt x10) (Int32.toInt x2) (Int32.toInt x3) (Int32.toInt x0)) from (by unfold EQP FON; (repeat' split) <;> omega)) [0, 1, 2, 3, 4] (by decide) rfl (Nat.le_of_ble_eq_true rfl) (Nat.le_of_ble_eq_true rfl)
          · skip
            have k23 : ¬ ((Int32.toInt x0) = 3) := fun h_9 => c18 ((fa_eq x0 3).mpr h_9)
            by_cases c24 : x0 = 4
            · skip
              have k25 : (Int32.toInt x0) = 4 := (fa_eq x0 4).mp c24
              refine r_tableIn 14 93 4 C dX11_font_14 c24 (by decide) (by decide) rfl (by decide) ?_
              refine r_aload_n 93 0 C dX11_font_93 rfl ?_
              refine r_get 94 C dX11_font_94 (k := 2) 0 rfl rfl hiX11 (by decide) rfl (mg 1 rfl) (Or.inl rfl) rfl ?_
              refine r_getN 97 C dX11_font_97 (k := 5) 1 rfl rfl hiX3 (by decide) rfl (mg 2 rfl) rfl rfl ?_
              exact r_iret 100 Rt dX11_font_100 () (show EQP (Int32.toInt x2) (FON (Int32.toInt x1) (Int32.toInt x4) (Int32.toInt x7) (Int32.toInt x10) (Int32.toInt x2) (Int32.toInt x3) (Int32.toInt x0)) from (by unfold EQP FON; (repeat' split) <;> omega)) [0, 1, 2, 3, 4] (by decide) rfl (Nat.le_of_ble_eq_true rfl) (Nat.le_of_ble_eq_true rfl)
            · skip
              have k26 : ¬ ((Int32.toInt x0) = 4) := fun h_9 => c24 ((fa_eq x0 4).mpr h_9)
              by_cases c27 : x0 = 5
              · skip
                have k28 : (Int32.toInt x0) = 5 := (fa_eq x0 5).mp c27
                refine r_tableIn 14 101 5 C dX11_font_14 c27 (by decide) (by decide) rfl (by decide) ?_
                refine r_aload_n 101 0 C dX11_font_101 rfl ?_
                refine r_get 102 C dX11_font_102 (k := 2) 0 rfl rfl hiX11 (by decide) rfl (mg 1 rfl) (Or.inl rfl) rfl ?_
                refine r_getN 105 C dX11_font_105 (k := 6) 1 rfl rfl hiX3 (by decide) rfl (mg 3 rfl) rfl rfl ?_
                exact r_iret 108 Rt dX11_font_108 () (show EQP (Int32.toInt x3) (FON (Int32.toInt x1) (Int32.toInt x4) (Int32.toInt x7) (Int32.toInt x10) (Int32.toInt x2) (Int32.toInt x3) (Int32.toInt x0)) from (by unfold EQP FON; (repeat' split) <;> omega)) [0, 1, 2, 3, 4] (by decide) rfl (Nat.le_of_ble_eq_true rfl) (Nat.le_of_ble_eq_true rfl)
              · skip
                have k29 : ¬ ((Int32.toInt x0) = 5) := fun h_9 => c27 ((fa_eq x0 5).mpr h_9)
                refine r_tableOut 14 109 C dX11_font_14 (by omega) (by decide) ?_
                refine r_iconst 109 (-1) C dX11_font_109 (by decide) ?_
                exact r_iret 110 Rt dX11_font_110 () (show EQP (-1) (FON (Int32.toInt x1) (Int32.toInt x4) (Int32.toInt x7) (Int32.toInt x10) (Int32.toInt x2) (Int32.toInt x3) (Int32.toInt x0)) from (by unfold EQP FON; (repeat' split) <;> omega)) [0, 1, 2, 3, 4] (by decide) rfl (Nat.le_of_ble_eq_true rfl) (Nat.le_of_ble_eq_true rfl)
  · skip
    have k30 : (Int32.toInt x1) = (-1) := (fa_eq x1 (-1)).mp c1
    refine r_iconst 11 (-1) C dX11_font_11 (by decide) ?_
    exact r_iret 12 Rt dX11_font_12 () (show EQP (-1) (FON (Int32.toInt x1) (Int32.toInt x4) (Int32.toInt x7) (Int32.toInt x10) (Int32.toInt x2) (Int32.toInt x3) (Int32.toInt x0)) from (by unfold EQP FON; (repeat' split) <;> omega)) [0, 1, 2, 3, 4] (by decide) rfl (Nat.le_of_ble_eq_true rfl) (Nat.le_of_ble_eq_true rfl)
set_option maxHeartbeats 4000000 in
set_option maxRecDepth 100000 in
theorem c8_X6_kindOf (l : Launch) (g : GD) (h0 : Nat) (h1 : Nat) (x0 : Int32) (h2 : Nat) (x1 : Int32) (x2 : Int32) (y0 : Int64) (y1 : Int64) (x3 : Int32) (fn0 : Nat → Int32) (i_x1 : (0 ≤ (Int32.toInt x1) ∧ (Int32.toInt x1) ≤ 400)) (i_x2 : (0 ≤ (Int32.toInt x2) ∧ (Int32.toInt x2) ≤ 400)) (i_x3 : (0 ≤ (Int32.toInt x3) ∧ (Int32.toInt x3) ≤ 1)) (sz : Nat) : Met l yX6_kindOf wsX6_kindOf ({ frames := 0, cells := 0, slots := 0, locals := 0 }) (va_Pc [.ref h0, .int x0] (PW g [(h0, .inr (5, [.ref h1, .ref h2, .int x1, .int x2, .long y0, .long y1, .int x3])), (h1, .inl (gB g, 400, .inl fn0))] sz)) (va_Qi (fun (r : Int32) (_ : Unit) => (((Int32.toInt x0) < 0 ∧ r = (-1)) ∨ (¬ ((Int32.toInt x0) < 0) ∧ (Int32.toInt x1) ≤ (Int32.toInt x0) ∧ r = (-1)) ∨ (¬ ((Int32.toInt x0) < 0) ∧ ¬ ((Int32.toInt x1) ≤ (Int32.toInt x0)))) ∧ (∀ nb_9 : Nat → Int64, (Int32.toInt r) = PRK (PTS fn0 nb_9 (Int32.toInt x1)) (Int32.toInt x0))) (BW g (va_A [(h0, .inr (5, [.ref h1, .ref h2, .int x1, .int x2, .long y0, .long y1, .int x3])), (h1, .inl (gB g, 400, .inl fn0))] sz) (fun _ : Unit => [(h0, .inr (5, [.ref h1, .ref h2, .int x1, .int x2, .long y0, .long y1, .int x3])), (h1, .inl (gB g, 400, .inl fn0))])) (va_A [(h0, .inr (5, [.ref h1, .ref h2, .int x1, .int x2, .long y0, .long y1, .int x3])), (h1, .inl (gB g, 400, .inl fn0))] sz)) 0 0 (va_A [(h0, .inr (5, [.ref h1, .ref h2, .int x1, .int x2, .long y0, .long y1, .int x3])), (h1, .inl (gB g, 400, .inl fn0))] sz) := by
  refine met_i RX6 (by decide) rfl rfl (Nat.le_of_ble_eq_true rfl) [(0, .ref h0), (1, .int x0)] rfl ?_
  intro p e s m args below meth c A Q C hnm Rt
  have gx0 := fb_rng x0
  have hiX6 : ∀ w ∈ wsX60, w ∈ wsX6_kindOf := fun w h => List.mem_cons_of_mem _ (List.mem_append_right _ (h))
  refine r_iload_n 0 1 C dX6_kindOf_0 rfl ?_
  refine r_if_lt 1 21 C dX6_kindOf_1 (by decide) (fun c1 => ?_) (fun c1 => ?_)
  · skip
    have k2 : (Int32.toInt x0) < 0 := (fa_lt x0 0).mp c1
    refine r_iconst 21 (-1) C dX6_kindOf_21 (by decide) ?_
    exact r_iret 22 Rt dX6_kindOf_22 () (show (((Int32.toInt x0) < 0 ∧ (-1) = (-1)) ∨ (¬ ((Int32.toInt x0) < 0) ∧ (Int32.toInt x1) ≤ (Int32.toInt x0) ∧ (-1) = (-1)) ∨ (¬ ((Int32.toInt x0) < 0) ∧ ¬ ((Int32.toInt x1) ≤ (Int32.toInt x0)))) ∧ (∀ nb_9 : Nat → Int64, (-1) = PRK (PTS fn0 nb_9 (Int32.toInt x1)) (Int32.toInt x0)) from by refine ⟨Or.inl ?_, (by intro nb_9; first | exact prk_n (by omega) rfl | exact prk_y (by omega) (by omega) rfl (by assumption))⟩ <;> ((repeat' apply And.intro) <;> first | trivial | rfl | assumption | omega | decide | exact Or.inl rfl | exact Or.inr (Or.inl rfl) | exact Or.inr (Or.inr rfl))) [0, 1] (by decide) rfl (Nat.le_of_ble_eq_true rfl) (Nat.le_of_ble_eq_true rfl)
  · skip
    have k3 : ¬ ((Int32.toInt x0) < 0) := fun h_9 => c1 ((fa_lt x0 0).mpr h_9)
    refine r_iload_n 4 1 C dX6_kindOf_4 rfl ?_
    refine r_aload_n 5 0 C dX6_kindOf_5 rfl ?_
    refine r_get 6 C dX6_kindOf_6 (k := 2) 0 rfl rfl hiX6 (by decide) rfl (mg 1 rfl) (Or.inl rfl) rfl ?_
    refine r_icmp_ge 9 21 C dX6_kindOf_9 (by decide) (fun c4 => ?_) (fun c4 => ?_)
    · skip
      have k5 : (Int32.toInt x1) ≤ (Int32.toInt x0) := (fa_le x1 x0).mp c4
      refine r_iconst 21 (-1) C dX6_kindOf_21 (by decide) ?_
      exact r_iret 22 Rt dX6_kindOf_22 () (show (((Int32.toInt x0) < 0 ∧ (-1) = (-1)) ∨ (¬ ((Int32.toInt x0) < 0) ∧ (Int32.toInt x1) ≤ (Int32.toInt x0) ∧ (-1) = (-1)) ∨ (¬ ((Int32.toInt x0) < 0) ∧ ¬ ((Int32.toInt x1) ≤ (Int32.toInt x0)))) ∧ (∀ nb_9 : Nat → Int64, (-1) = PRK (PTS fn0 nb_9 (Int32.toInt x1)) (Int32.toInt x0)) from by refine ⟨Or.inr (Or.inl ?_), (by intro nb_9; first | exact prk_n (by omega) rfl | exact prk_y (by omega) (by omega) rfl (by assumption))⟩ <;> ((repeat' apply And.intro) <;> first | trivial | rfl | assumption | omega | decide | exact Or.inl rfl | exact Or.inr (Or.inl rfl) | exact Or.inr (Or.inr rfl))) [0, 1] (by decide) rfl (Nat.le_of_ble_eq_true rfl) (Nat.le_of_ble_eq_true rfl)
    · skip
      have k6 : ¬ ((Int32.toInt x1) ≤ (Int32.toInt x0)) := fun h_9 => c4 ((fa_le x1 x0).mpr h_9)
      refine r_aload_n 12 0 C dX6_kindOf_12 rfl ?_
      refine r_get 13 C dX6_kindOf_13 (k := 0) 0 rfl rfl hiX6 (by decide) rfl (mg 2 rfl) (Or.inl rfl) rfl ?_
      refine r_iload_n 16 1 C dX6_kindOf_16 rfl ?_
      obtain ⟨z7, ez7⟩ : ∃ z_9, fn0 (Int32.toNatClampNeg x0) = z_9 := ⟨_, rfl⟩
      refine r_bald 17 z7 C dX6_kindOf_17 1 rfl (vinI (by omega) (by omega)) ez7 ?_
      have gz7 := fb_rng z7
      refine r_goto 18 22 C dX6_kindOf_18 (by decide) ?_
      exact r_iret 22 Rt dX6_kindOf_22 () (show (((Int32.toInt x0) < 0 ∧ z7 = (-1)) ∨ (¬ ((Int32.toInt x0) < 0) ∧ (Int32.toInt x1) ≤ (Int32.toInt x0) ∧ z7 = (-1)) ∨ (¬ ((Int32.toInt x0) < 0) ∧ ¬ ((Int32.toInt x1) ≤ (Int32.toInt x0)))) ∧ (∀ nb_9 : Nat → Int64, (Int32.toInt z7) = PRK (PTS fn0 nb_9 (Int32.toInt x1)) (Int32.toInt x0)) from by refine ⟨Or.inr (Or.inr (?_)), (by intro nb_9; first | exact prk_n (by omega) rfl | exact prk_y (by omega) (by omega) rfl (by assumption))⟩ <;> ((repeat' apply And.intro) <;> first | trivial | rfl | assumption | omega | decide | exact Or.inl rfl | exact Or.inr (Or.inl rfl) | exact Or.inr (Or.inr rfl))) [0, 1] (by decide) rfl (Nat.le_of_ble_eq_true rfl) (Nat.le_of_ble_eq_true rfl)
set_option maxHeartbeats 4000000 in
set_option maxRecDepth 100000 in
theorem c9_X11_part (l : Launch) (g : GD) (h0 : Nat) (h1 : Nat) (h2 : Nat) (x0 : Int32) (h3 : Nat) (h4 : Nat) (h5 : Nat) (h6 : Nat) (h7 : Nat) (h8 : Nat) (h9 : Nat) (h10 : Nat) (vv0 : Value) (h11 : Nat) (x1 : Int32) (x2 : Int32) (y0 : Int64) (y1 : Int64) (x3 : Int32) (fn0 : Nat → Int32) (i_x1 : (0 ≤ (Int32.toInt x1) ∧ (Int32.toInt x1) ≤ 400)) (i_x2 : (0 ≤ (Int32.toInt x2) ∧ (Int32.toInt x2) ≤ 400)) (i_x3 : (0 ≤ (Int32.toInt x3) ∧ (Int32.toInt x3) ≤ 1)) (sz : Nat) : Met l yX11_part wsX11_part ({ frames := 1, cells := 0, slots := 0, locals := 21 }) (va_Pc [.ref h0, .int x0] (PW g [(h0, .inr (10, [.ref h3, .ref h4, .ref h5, .ref h6, .ref h7, .ref h8, .ref h1, .ref h9, .ref h10, vv0])), (h1, .inr (5, [.ref h2, .ref h11, .int x1, .int x2, .long y0, .long y1, .int x3])), (h2, .inl (gB g, 400, .inl fn0))] sz)) (va_Qi (fun (r : Int32) (_ : Unit) => (∀ nb_9 : Nat → Int64, (Int32.toInt r) = PRK (PTS fn0 nb_9 (Int32.toInt x1)) (Int32.toInt x0))) (BW g (va_A [(h0, .inr (10, [.ref h3, .ref h4, .ref h5, .ref h6, .ref h7, .ref h8, .ref h1, .ref h9, .ref h10, vv0])), (h1, .inr (5, [.ref h2, .ref h11, .int x1, .int x2, .long y0, .long y1, .int x3])), (h2, .inl (gB g, 400, .inl fn0))] sz) (fun _ : Unit => [(h0, .inr (10, [.ref h3, .ref h4, .ref h5, .ref h6, .ref h7, .ref h8, .ref h1, .ref h9, .ref h10, vv0])), (h1, .inr (5, [.ref h2, .ref h11, .int x1, .int x2, .long y0, .long y1, .int x3])), (h2, .inl (gB g, 400, .inl fn0))])) (va_A [(h0, .inr (10, [.ref h3, .ref h4, .ref h5, .ref h6, .ref h7, .ref h8, .ref h1, .ref h9, .ref h10, vv0])), (h1, .inr (5, [.ref h2, .ref h11, .int x1, .int x2, .long y0, .long y1, .int x3])), (h2, .inl (gB g, 400, .inl fn0))] sz)) 0 0 (va_A [(h0, .inr (10, [.ref h3, .ref h4, .ref h5, .ref h6, .ref h7, .ref h8, .ref h1, .ref h9, .ref h10, vv0])), (h1, .inr (5, [.ref h2, .ref h11, .int x1, .int x2, .long y0, .long y1, .int x3])), (h2, .inl (gB g, 400, .inl fn0))] sz) := by
  refine met_i RX11 (by decide) rfl rfl (Nat.le_of_ble_eq_true rfl) [(0, .ref h0), (1, .int x0)] rfl ?_
  intro p e s m args below meth c A Q C hnm Rt
  have gx0 := fb_rng x0
  have hiX11 : ∀ w ∈ wsX110, w ∈ wsX11_part := fun w h => List.mem_cons_of_mem _ (List.mem_append_left _ (List.mem_append_right _ (h)))
  refine r_aload_n 0 0 C dX11_part_0 rfl ?_
  refine r_get 1 C dX11_part_1 (k := 6) 0 rfl rfl hiX11 (by decide) rfl (mg 1 rfl) (Or.inl rfl) rfl ?_
  refine r_iload_n 4 1 C dX11_part_4 rfl ?_
  refine r_callVi 5 C dX11_part_5 [] [(h1, .inr (5, [.ref h2, .ref h11, .int x1, .int x2, .long y0, .long y1, .int x3])), (h2, .inl (gB g, 400, .inl fn0))] [(h0, .inr (10, [.ref h3, .ref h4, .ref h5, .ref h6, .ref h7, .ref h8, .ref h1, .ref h9, .ref h10, vv0]))] (fun sz => c8_X6_kindOf l g h1 h2 x0 h11 x1 x2 y0 y1 x3 fn0 i_x1 i_x2 i_x3 sz) gX11_part_X6_kindOf rfl ⟨rfl, rfl⟩ 1 (by decide) ⟨Nat.le_of_ble_eq_true rfl, Nat.le_of_ble_eq_true rfl⟩ 1 rfl rfl [1, 2] [0] rfl rfl (by decide) (by decide) (by decide) rfl rfl (Nat.le_of_ble_eq_true rfl) ⟨Nat.le_of_ble_eq_true rfl, Nat.le_of_ble_eq_true rfl⟩ (fun r1 _ w2 => ?_)
  refine r_ws [(h0, .inr (10, [.ref h3, .ref h4, .ref h5, .ref h6, .ref h7, .ref h8, .ref h1, .ref h9, .ref h10, vv0])), (h1, .inr (5, [.ref h2, .ref h11, .int x1, .int x2, .long y0, .long y1, .int x3])), (h2, .inl (gB g, 400, .inl fn0))] rfl ?_
  have p3 : (∀ nb_9 : Nat → Int64, (Int32.toInt r1) = PRK (PTS fn0 nb_9 (Int32.toInt x1)) (Int32.toInt x0)) := w2.2
  have w4 : (((Int32.toInt x0) < 0 ∧ r1 = (-1)) ∨ (¬ ((Int32.toInt x0) < 0) ∧ (Int32.toInt x1) ≤ (Int32.toInt x0) ∧ r1 = (-1)) ∨ (¬ ((Int32.toInt x0) < 0) ∧ ¬ ((Int32.toInt x1) ≤ (Int32.toInt x0)))) := w2.1
  rcases w4 with ⟨k5, k6⟩ | w4
  · skip
    have k6 := k6.symm
    subst k6
    exact r_iret 8 Rt dX11_part_8 () (show (∀ nb_9 : Nat → Int64, (-1) = PRK (PTS fn0 nb_9 (Int32.toInt x1)) (Int32.toInt x0)) from (by exact p3)) [0, 1, 2] (by decide) rfl (Nat.le_of_ble_eq_true rfl) (Nat.le_of_ble_eq_true rfl)
  rcases w4 with ⟨k7, k8, k9⟩ | w4
  · skip
    have k9 := k9.symm
    subst k9
    exact r_iret 8 Rt dX11_part_8 () (show (∀ nb_9 : Nat → Int64, (-1) = PRK (PTS fn0 nb_9 (Int32.toInt x1)) (Int32.toInt x0)) from (by exact p3)) [0, 1, 2] (by decide) rfl (Nat.le_of_ble_eq_true rfl) (Nat.le_of_ble_eq_true rfl)
  obtain ⟨k10, k11⟩ := w4
  exact r_iret 8 Rt dX11_part_8 () (show (∀ nb_9 : Nat → Int64, (Int32.toInt r1) = PRK (PTS fn0 nb_9 (Int32.toInt x1)) (Int32.toInt x0)) from (by exact p3)) [0, 1, 2] (by decide) rfl (Nat.le_of_ble_eq_true rfl) (Nat.le_of_ble_eq_true rfl)
set_option maxHeartbeats 4000000 in
set_option maxRecDepth 100000 in
theorem c10_X6_pointOf (l : Launch) (g : GD) (h0 : Nat) (h1 : Nat) (h2 : Nat) (x0 : Int32) (x1 : Int32) (x2 : Int32) (x3 : Int32) (x4 : Int32) (y0 : Int64) (y1 : Int64) (x5 : Int32) (fn0 : Nat → Int32) (fm0 : Nat → Int64) (i_x3 : (0 ≤ (Int32.toInt x3) ∧ (Int32.toInt x3) ≤ 400)) (i_x4 : (0 ≤ (Int32.toInt x4) ∧ (Int32.toInt x4) ≤ 400)) (i_x5 : (0 ≤ (Int32.toInt x5) ∧ (Int32.toInt x5) ≤ 1)) (sz : Nat) : Met l yX6_pointOf wsX6_pointOf ({ frames := 1, cells := 0, slots := 0, locals := 21 }) (va_Pc [.ref h0, .int x0, .int x1, .int x2] (PW g [(h0, .inr (5, [.ref h1, .ref h2, .int x3, .int x4, .long y0, .long y1, .int x5])), (h1, .inl (gB g, 400, .inl fn0)), (h2, .inl (gJ g, 2400, .inr (.inl fm0)))] sz)) (va_Ql (fun (r : Int64) (_ : Unit) => r = PAT (PTS fn0 fm0 (Int32.toInt x3)) (Int32.toInt x0) (Int32.toInt x1) (Int32.toInt x2)) (BW g (va_A [(h0, .inr (5, [.ref h1, .ref h2, .int x3, .int x4, .long y0, .long y1, .int x5])), (h1, .inl (gB g, 400, .inl fn0)), (h2, .inl (gJ g, 2400, .inr (.inl fm0)))] sz) (fun _ : Unit => [(h0, .inr (5, [.ref h1, .ref h2, .int x3, .int x4, .long y0, .long y1, .int x5])), (h1, .inl (gB g, 400, .inl fn0)), (h2, .inl (gJ g, 2400, .inr (.inl fm0)))])) (va_A [(h0, .inr (5, [.ref h1, .ref h2, .int x3, .int x4, .long y0, .long y1, .int x5])), (h1, .inl (gB g, 400, .inl fn0)), (h2, .inl (gJ g, 2400, .inr (.inl fm0)))] sz)) 0 0 (va_A [(h0, .inr (5, [.ref h1, .ref h2, .int x3, .int x4, .long y0, .long y1, .int x5])), (h1, .inl (gB g, 400, .inl fn0)), (h2, .inl (gJ g, 2400, .inr (.inl fm0)))] sz) := by
  refine met_l RX6 (by decide) rfl rfl (Nat.le_of_ble_eq_true rfl) [(0, .ref h0), (1, .int x0), (2, .int x1), (3, .int x2)] rfl ?_
  intro p e s m args below meth c A Q C hnm Rt
  have gx0 := fb_rng x0
  have gx1 := fb_rng x1
  have gx2 := fb_rng x2
  have hiX6 : ∀ w ∈ wsX60, w ∈ wsX6_pointOf := fun w h => List.mem_cons_of_mem _ (List.mem_append_right _ (h))
  refine r_aload_n 0 0 C dX6_pointOf_0 rfl ?_
  refine r_iload_n 1 1 C dX6_pointOf_1 rfl ?_
  refine r_callVi 2 C dX6_pointOf_2 [] [(h0, .inr (5, [.ref h1, .ref h2, .int x3, .int x4, .long y0, .long y1, .int x5])), (h1, .inl (gB g, 400, .inl fn0))] [(h2, .inl (gJ g, 2400, .inr (.inl fm0)))] (fun sz => c8_X6_kindOf l g h0 h1 x0 h2 x3 x4 y0 y1 x5 fn0 i_x3 i_x4 i_x5 sz) gX6_pointOf_X6_kindOf rfl ⟨rfl, rfl⟩ 1 (by decide) ⟨Nat.le_of_ble_eq_true rfl, Nat.le_of_ble_eq_true rfl⟩ 0 rfl rfl [0, 1] [2] rfl rfl (by decide) (by decide) (by decide) rfl rfl (Nat.le_of_ble_eq_true rfl) ⟨Nat.le_of_ble_eq_true rfl, Nat.le_of_ble_eq_true rfl⟩ (fun r1 _ w2 => ?_)
  refine r_ws [(h2, .inl (gJ g, 2400, .inr (.inl fm0))), (h0, .inr (5, [.ref h1, .ref h2, .int x3, .int x4, .long y0, .long y1, .int x5])), (h1, .inl (gB g, 400, .inl fn0))] rfl ?_
  have p3 : (∀ nb_9 : Nat → Int64, (Int32.toInt r1) = PRK (PTS fn0 nb_9 (Int32.toInt x3)) (Int32.toInt x0)) := w2.2
  have w4 : (((Int32.toInt x0) < 0 ∧ r1 = (-1)) ∨ (¬ ((Int32.toInt x0) < 0) ∧ (Int32.toInt x3) ≤ (Int32.toInt x0) ∧ r1 = (-1)) ∨ (¬ ((Int32.toInt x0) < 0) ∧ ¬ ((Int32.toInt x3) ≤ (Int32.toInt x0)))) := w2.1
  rcases w4 with ⟨k5, k6⟩ | w4
  · skip
    have k6 := k6.symm
    subst k6
    refine r_istore 5 C dX6_pointOf_5 [(4, .int (-1)), (0, .ref h0), (1, .int x0), (2, .int x1), (3, .int x2)] (by decide) rfl ?_
    refine r_iload 7 0 C dX6_pointOf_7 rfl ?_
    refine r_iconst 9 (-1) C dX6_pointOf_9 (by decide) ?_
    refine r_icmp_eq_t 10 28 C dX6_pointOf_10 (by decide) (by decide) ?_
    refine r_lconst 28 0 C dX6_pointOf_28 (by decide) ?_
    exact r_lret 29 Rt dX6_pointOf_29 () (show 0 = PAT (PTS fn0 fm0 (Int32.toInt x3)) (Int32.toInt x0) (Int32.toInt x1) (Int32.toInt x2) from (by first | exact (pat_k (p3 _) (by have h_7 : Int32.toInt (-1) = -1 := rfl; omega)).symm | exact pat_v (p3 _) (by omega) (by omega) ⟨by omega, by omega⟩ (by omega) (by omega) (by assumption) (by omega))) [1, 2, 0] (by decide) rfl (Nat.le_of_ble_eq_true rfl) (Nat.le_of_ble_eq_true rfl)
  rcases w4 with ⟨k7, k8, k9⟩ | w4
  · skip
    have k9 := k9.symm
    subst k9
    refine r_istore 5 C dX6_pointOf_5 [(4, .int (-1)), (0, .ref h0), (1, .int x0), (2, .int x1), (3, .int x2)] (by decide) rfl ?_
    refine r_iload 7 0 C dX6_pointOf_7 rfl ?_
    refine r_iconst 9 (-1) C dX6_pointOf_9 (by decide) ?_
    refine r_icmp_eq_t 10 28 C dX6_pointOf_10 (by decide) (by decide) ?_
    refine r_lconst 28 0 C dX6_pointOf_28 (by decide) ?_
    exact r_lret 29 Rt dX6_pointOf_29 () (show 0 = PAT (PTS fn0 fm0 (Int32.toInt x3)) (Int32.toInt x0) (Int32.toInt x1) (Int32.toInt x2) from (by first | exact (pat_k (p3 _) (by have h_7 : Int32.toInt (-1) = -1 := rfl; omega)).symm | exact pat_v (p3 _) (by omega) (by omega) ⟨by omega, by omega⟩ (by omega) (by omega) (by assumption) (by omega))) [1, 2, 0] (by decide) rfl (Nat.le_of_ble_eq_true rfl) (Nat.le_of_ble_eq_true rfl)
  obtain ⟨k10, k11⟩ := w4
  refine r_istore 5 C dX6_pointOf_5 [(4, .int r1), (0, .ref h0), (1, .int x0), (2, .int x1), (3, .int x2)] (by decide) rfl ?_
  refine r_iload 7 0 C dX6_pointOf_7 rfl ?_
  refine r_iconst 9 (-1) C dX6_pointOf_9 (by decide) ?_
  refine r_icmp_eq 10 28 C dX6_pointOf_10 (by decide) (fun c12 => ?_) (fun c12 => ?_)
  · skip
    have k13 : (Int32.toInt r1) = (-1) := (fa_eq r1 (-1)).mp c12
    refine r_lconst 28 0 C dX6_pointOf_28 (by decide) ?_
    exact r_lret 29 Rt dX6_pointOf_29 () (show 0 = PAT (PTS fn0 fm0 (Int32.toInt x3)) (Int32.toInt x0) (Int32.toInt x1) (Int32.toInt x2) from (by first | exact (pat_k (p3 _) (by have h_7 : Int32.toInt (-1) = -1 := rfl; omega)).symm | exact pat_v (p3 _) (by omega) (by omega) ⟨by omega, by omega⟩ (by omega) (by omega) (by assumption) (by omega))) [1, 2, 0] (by decide) rfl (Nat.le_of_ble_eq_true rfl) (Nat.le_of_ble_eq_true rfl)
  · skip
    have k14 : ¬ ((Int32.toInt r1) = (-1)) := fun h_9 => c12 ((fa_eq r1 (-1)).mpr h_9)
    refine r_iload 13 0 C dX6_pointOf_13 rfl ?_
    refine r_iconst 15 3 C dX6_pointOf_15 (by decide) ?_
    refine r_icmp_eq 16 28 C dX6_pointOf_16 (by decide) (fun c15 => ?_) (fun c15 => ?_)
    · skip
      have k16 : (Int32.toInt r1) = 3 := (fa_eq r1 3).mp c15
      refine r_lconst 28 0 C dX6_pointOf_28 (by decide) ?_
      exact r_lret 29 Rt dX6_pointOf_29 () (show 0 = PAT (PTS fn0 fm0 (Int32.toInt x3)) (Int32.toInt x0) (Int32.toInt x1) (Int32.toInt x2) from (by first | exact (pat_k (p3 _) (by have h_7 : Int32.toInt (-1) = -1 := rfl; omega)).symm | exact pat_v (p3 _) (by omega) (by omega) ⟨by omega, by omega⟩ (by omega) (by omega) (by assumption) (by omega))) [1, 2, 0] (by decide) rfl (Nat.le_of_ble_eq_true rfl) (Nat.le_of_ble_eq_true rfl)
    · skip
      have k17 : ¬ ((Int32.toInt r1) = 3) := fun h_9 => c15 ((fa_eq r1 3).mpr h_9)
      refine r_iload_n 19 4 C dX6_pointOf_19 rfl ?_
      refine r_if_lt 20 28 C dX6_pointOf_20 (by decide) (fun c18 => ?_) (fun c18 => ?_)
      · skip
        have k19 : (Int32.toInt x2) < 0 := (fa_lt x2 0).mp c18
        refine r_lconst 28 0 C dX6_pointOf_28 (by decide) ?_
        exact r_lret 29 Rt dX6_pointOf_29 () (show 0 = PAT (PTS fn0 fm0 (Int32.toInt x3)) (Int32.toInt x0) (Int32.toInt x1) (Int32.toInt x2) from (by first | exact (pat_k (p3 _) (by have h_7 : Int32.toInt (-1) = -1 := rfl; omega)).symm | exact pat_v (p3 _) (by omega) (by omega) ⟨by omega, by omega⟩ (by omega) (by omega) (by assumption) (by omega))) [1, 2, 0] (by decide) rfl (Nat.le_of_ble_eq_true rfl) (Nat.le_of_ble_eq_true rfl)
      · skip
        have k20 : ¬ ((Int32.toInt x2) < 0) := fun h_9 => c18 ((fa_lt x2 0).mpr h_9)
        refine r_iload_n 23 4 C dX6_pointOf_23 rfl ?_
        refine r_iconst 24 1 C dX6_pointOf_24 (by decide) ?_
        refine r_icmp_le 25 30 C dX6_pointOf_25 (by decide) (fun c21 => ?_) (fun c21 => ?_)
        · skip
          have k22 : (Int32.toInt x2) ≤ 1 := (fa_le x2 1).mp c21
          refine r_iload_n 30 3 C dX6_pointOf_30 rfl ?_
          refine r_if_lt 31 49 C dX6_pointOf_31 (by decide) (fun c23 => ?_) (fun c23 => ?_)
          · skip
            have k24 : (Int32.toInt x1) < 0 := (fa_lt x1 0).mp c23
            refine r_lconst 49 0 C dX6_pointOf_49 (by decide) ?_
            exact r_lret 50 Rt dX6_pointOf_50 () (show 0 = PAT (PTS fn0 fm0 (Int32.toInt x3)) (Int32.toInt x0) (Int32.toInt x1) (Int32.toInt x2) from (by first | exact (pat_k (p3 _) (by have h_7 : Int32.toInt (-1) = -1 := rfl; omega)).symm | exact pat_v (p3 _) (by omega) (by omega) ⟨by omega, by omega⟩ (by omega) (by omega) (by assumption) (by omega))) [1, 2, 0] (by decide) rfl (Nat.le_of_ble_eq_true rfl) (Nat.le_of_ble_eq_true rfl)
          · skip
            have k25 : ¬ ((Int32.toInt x1) < 0) := fun h_9 => c23 ((fa_lt x1 0).mpr h_9)
            refine r_iload_n 34 3 C dX6_pointOf_34 rfl ?_
            refine r_iload 35 0 C dX6_pointOf_35 rfl ?_
            refine r_iconst 37 2 C dX6_pointOf_37 (by decide) ?_
            refine r_icmp_ne 38 45 C dX6_pointOf_38 (by decide) (fun c26 => ?_) (fun c26 => ?_)
            · skip
              have k27 : ¬ ((Int32.toInt r1) = 2) := fun h_9 => c26 ((fa_eq r1 2).mpr h_9)
              refine r_iconst 45 0 C dX6_pointOf_45 (by decide) ?_
              refine r_icmp_le 46 51 C dX6_pointOf_46 (by decide) (fun c28 => ?_) (fun c28 => ?_)
              · skip
                have k29 : (Int32.toInt x1) ≤ 0 := (fa_le x1 0).mp c28
                refine r_aload_n 51 1 C dX6_pointOf_51 rfl ?_
                refine r_get 52 C dX6_pointOf_52 (k := 1) 1 rfl rfl hiX6 (by decide) rfl (mg 1 rfl) (Or.inl rfl) rfl ?_
                refine r_iload_n 55 2 C dX6_pointOf_55 rfl ?_
                refine r_bipush 56 6 C dX6_pointOf_56 (by decide) ?_
                obtain ⟨z30, ez30⟩ : ∃ z_9, x0 * 6 = z_9 := ⟨_, rfl⟩
                have tz30 : (Int32.toInt z30) = (Int32.toInt x0) * 6 := by rw [← ez30]; exact fb_mulI (by show -2147483648 ≤ (Int32.toInt x0) * 6; omega) (by show (Int32.toInt x0) * 6 < 2147483648; omega)
                refine r_imul 58 z30 C dX6_pointOf_58 ez30 ?_
                refine r_iload_n 59 3 C dX6_pointOf_59 rfl ?_
                refine r_iconst 60 2 C dX6_pointOf_60 (by decide) ?_
                obtain ⟨z31, ez31⟩ : ∃ z_9, x1 * 2 = z_9 := ⟨_, rfl⟩
                have tz31 : (Int32.toInt z31) = (Int32.toInt x1) * 2 := by rw [← ez31]; exact fb_mulI (by show -2147483648 ≤ (Int32.toInt x1) * 2; omega) (by show (Int32.toInt x1) * 2 < 2147483648; omega)
                refine r_imul 61 z31 C dX6_pointOf_61 ez31 ?_
                obtain ⟨z32, ez32⟩ : ∃ z_9, z30 + z31 = z_9 := ⟨_, rfl⟩
                have tz32 : (Int32.toInt z32) = (Int32.toInt z30) + (Int32.toInt z31) := by rw [← ez32]; exact fb_addI (by show -2147483648 ≤ (Int32.toInt z30) + (Int32.toInt z31); omega) (by show (Int32.toInt z30) + (Int32.toInt z31) < 2147483648; omega)
                refine r_iadd 62 z32 C dX6_pointOf_62 ez32 ?_
                refine r_iload_n 63 4 C dX6_pointOf_63 rfl ?_
                obtain ⟨z33, ez33⟩ : ∃ z_9, z32 + x2 = z_9 := ⟨_, rfl⟩
                have tz33 : (Int32.toInt z33) = (Int32.toInt z32) + (Int32.toInt x2) := by rw [← ez33]; exact fb_addI (by show -2147483648 ≤ (Int32.toInt z32) + (Int32.toInt x2); omega) (by show (Int32.toInt z32) + (Int32.toInt x2) < 2147483648; omega)
                refine r_iadd 64 z33 C dX6_pointOf_64 ez33 ?_
                obtain ⟨z34, ez34⟩ : ∃ z_9, fm0 (Int32.toNatClampNeg z33) = z_9 := ⟨_, rfl⟩
                refine r_lald 65 z34 C dX6_pointOf_65 0 rfl (vinI (by omega) (by omega)) ez34 ?_
                have gz34 := fb_rngL z34
                exact r_lret 66 Rt dX6_pointOf_66 () (show z34 = PAT (PTS fn0 fm0 (Int32.toInt x3)) (Int32.toInt x0) (Int32.toInt x1) (Int32.toInt x2) from (by first | exact (pat_k (p3 _) (by have h_7 : Int32.toInt (-1) = -1 := rfl; omega)).symm | exact pat_v (p3 _) (by omega) (by omega) ⟨by omega, by omega⟩ (by omega) (by omega) (by assumption) (by omega))) [1, 2, 0] (by decide) rfl (Nat.le_of_ble_eq_true rfl) (Nat.le_of_ble_eq_true rfl)
              · skip
                have k35 : ¬ ((Int32.toInt x1) ≤ 0) := fun h_9 => c28 ((fa_le x1 0).mpr h_9)
                refine r_lconst 49 0 C dX6_pointOf_49 (by decide) ?_
                exact r_lret 50 Rt dX6_pointOf_50 () (show 0 = PAT (PTS fn0 fm0 (Int32.toInt x3)) (Int32.toInt x0) (Int32.toInt x1) (Int32.toInt x2) from (by first | exact (pat_k (p3 _) (by have h_7 : Int32.toInt (-1) = -1 := rfl; omega)).symm | exact pat_v (p3 _) (by omega) (by omega) ⟨by omega, by omega⟩ (by omega) (by omega) (by assumption) (by omega))) [1, 2, 0] (by decide) rfl (Nat.le_of_ble_eq_true rfl) (Nat.le_of_ble_eq_true rfl)
            · skip
              have k36 : (Int32.toInt r1) = 2 := (fa_eq r1 2).mp c26
              refine r_iconst 41 2 C dX6_pointOf_41 (by decide) ?_
              refine r_goto 42 46 C dX6_pointOf_42 (by decide) ?_
              refine r_icmp_le 46 51 C dX6_pointOf_46 (by decide) (fun c37 => ?_) (fun c37 => ?_)
              · skip
                have k38 : (Int32.toInt x1) ≤ 2 := (fa_le x1 2).mp c37
                refine r_aload_n 51 1 C dX6_pointOf_51 rfl ?_
                refine r_get 52 C dX6_pointOf_52 (k := 1) 1 rfl rfl hiX6 (by decide) rfl (mg 1 rfl) (Or.inl rfl) rfl ?_
                refine r_iload_n 55 2 C dX6_pointOf_55 rfl ?_
                refine r_bipush 56 6 C dX6_pointOf_56 (by decide) ?_
                obtain ⟨z39, ez39⟩ : ∃ z_9, x0 * 6 = z_9 := ⟨_, rfl⟩
                have tz39 : (Int32.toInt z39) = (Int32.toInt x0) * 6 := by rw [← ez39]; exact fb_mulI (by show -2147483648 ≤ (Int32.toInt x0) * 6; omega) (by show (Int32.toInt x0) * 6 < 2147483648; omega)
                refine r_imul 58 z39 C dX6_pointOf_58 ez39 ?_
                refine r_iload_n 59 3 C dX6_pointOf_59 rfl ?_
                refine r_iconst 60 2 C dX6_pointOf_60 (by decide) ?_
                obtain ⟨z40, ez40⟩ : ∃ z_9, x1 * 2 = z_9 := ⟨_, rfl⟩
                have tz40 : (Int32.toInt z40) = (Int32.toInt x1) * 2 := by rw [← ez40]; exact fb_mulI (by show -2147483648 ≤ (Int32.toInt x1) * 2; omega) (by show (Int32.toInt x1) * 2 < 2147483648; omega)
                refine r_imul 61 z40 C dX6_pointOf_61 ez40 ?_
                obtain ⟨z41, ez41⟩ : ∃ z_9, z39 + z40 = z_9 := ⟨_, rfl⟩
                have tz41 : (Int32.toInt z41) = (Int32.toInt z39) + (Int32.toInt z40) := by rw [← ez41]; exact fb_addI (by show -2147483648 ≤ (Int32.toInt z39) + (Int32.toInt z40); omega) (by show (Int32.toInt z39) + (Int32.toInt z40) < 2147483648; omega)
                refine r_iadd 62 z41 C dX6_pointOf_62 ez41 ?_
                refine r_iload_n 63 4 C dX6_pointOf_63 rfl ?_
                obtain ⟨z42, ez42⟩ : ∃ z_9, z41 + x2 = z_9 := ⟨_, rfl⟩
                have tz42 : (Int32.toInt z42) = (Int32.toInt z41) + (Int32.toInt x2) := by rw [← ez42]; exact fb_addI (by show -2147483648 ≤ (Int32.toInt z41) + (Int32.toInt x2); omega) (by show (Int32.toInt z41) + (Int32.toInt x2) < 2147483648; omega)
                refine r_iadd 64 z42 C dX6_pointOf_64 ez42 ?_
                obtain ⟨z43, ez43⟩ : ∃ z_9, fm0 (Int32.toNatClampNeg z42) = z_9 := ⟨_, rfl⟩
                refine r_lald 65 z43 C dX6_pointOf_65 0 rfl (vinI (by omega) (by omega)) ez43 ?_
                have gz43 := fb_rngL z43
                exact r_lret 66 Rt dX6_pointOf_66 () (show z43 = PAT (PTS fn0 fm0 (Int32.toInt x3)) (Int32.toInt x0) (Int32.toInt x1) (Int32.toInt x2) from (by first | exact (pat_k (p3 _) (by have h_7 : Int32.toInt (-1) = -1 := rfl; omega)).symm | exact pat_v (p3 _) (by omega) (by omega) ⟨by omega, by omega⟩ (by omega) (by omega) (by assumption) (by omega))) [1, 2, 0] (by decide) rfl (Nat.le_of_ble_eq_true rfl) (Nat.le_of_ble_eq_true rfl)
              · skip
                have k44 : ¬ ((Int32.toInt x1) ≤ 2) := fun h_9 => c37 ((fa_le x1 2).mpr h_9)
                refine r_lconst 49 0 C dX6_pointOf_49 (by decide) ?_
                exact r_lret 50 Rt dX6_pointOf_50 () (show 0 = PAT (PTS fn0 fm0 (Int32.toInt x3)) (Int32.toInt x0) (Int32.toInt x1) (Int32.toInt x2) from (by first | exact (pat_k (p3 _) (by have h_7 : Int32.toInt (-1) = -1 := rfl; omega)).symm | exact pat_v (p3 _) (by omega) (by omega) ⟨by omega, by omega⟩ (by omega) (by omega) (by assumption) (by omega))) [1, 2, 0] (by decide) rfl (Nat.le_of_ble_eq_true rfl) (Nat.le_of_ble_eq_true rfl)
        · skip
          have k45 : ¬ ((Int32.toInt x2) ≤ 1) := fun h_9 => c21 ((fa_le x2 1).mpr h_9)
          refine r_lconst 28 0 C dX6_pointOf_28 (by decide) ?_
          exact r_lret 29 Rt dX6_pointOf_29 () (show 0 = PAT (PTS fn0 fm0 (Int32.toInt x3)) (Int32.toInt x0) (Int32.toInt x1) (Int32.toInt x2) from (by first | exact (pat_k (p3 _) (by have h_7 : Int32.toInt (-1) = -1 := rfl; omega)).symm | exact pat_v (p3 _) (by omega) (by omega) ⟨by omega, by omega⟩ (by omega) (by omega) (by assumption) (by omega))) [1, 2, 0] (by decide) rfl (Nat.le_of_ble_eq_true rfl) (Nat.le_of_ble_eq_true rfl)
set_option maxHeartbeats 4000000 in
set_option maxRecDepth 100000 in
theorem c11_X11_at (l : Launch) (g : GD) (h0 : Nat) (h1 : Nat) (h2 : Nat) (h3 : Nat) (x0 : Int32) (x1 : Int32) (x2 : Int32) (h4 : Nat) (h5 : Nat) (h6 : Nat) (h7 : Nat) (h8 : Nat) (h9 : Nat) (h10 : Nat) (h11 : Nat) (vv0 : Value) (x3 : Int32) (x4 : Int32) (y0 : Int64) (y1 : Int64) (x5 : Int32) (fn0 : Nat → Int32) (fm0 : Nat → Int64) (i_x3 : (0 ≤ (Int32.toInt x3) ∧ (Int32.toInt x3) ≤ 400)) (i_x4 : (0 ≤ (Int32.toInt x4) ∧ (Int32.toInt x4) ≤ 400)) (i_x5 : (0 ≤ (Int32.toInt x5) ∧ (Int32.toInt x5) ≤ 1)) (sz : Nat) : Met l yX11_at wsX11_at ({ frames := 2, cells := 0, slots := 0, locals := 45 }) (va_Pc [.ref h0, .int x0, .int x1, .int x2] (PW g [(h0, .inr (10, [.ref h4, .ref h5, .ref h6, .ref h7, .ref h8, .ref h9, .ref h1, .ref h10, .ref h11, vv0])), (h1, .inr (5, [.ref h2, .ref h3, .int x3, .int x4, .long y0, .long y1, .int x5])), (h2, .inl (gB g, 400, .inl fn0)), (h3, .inl (gJ g, 2400, .inr (.inl fm0)))] sz)) (va_Ql (fun (r : Int64) (_ : Unit) => r = PAT (PTS fn0 fm0 (Int32.toInt x3)) (Int32.toInt x0) (Int32.toInt x1) (Int32.toInt x2)) (BW g (va_A [(h0, .inr (10, [.ref h4, .ref h5, .ref h6, .ref h7, .ref h8, .ref h9, .ref h1, .ref h10, .ref h11, vv0])), (h1, .inr (5, [.ref h2, .ref h3, .int x3, .int x4, .long y0, .long y1, .int x5])), (h2, .inl (gB g, 400, .inl fn0)), (h3, .inl (gJ g, 2400, .inr (.inl fm0)))] sz) (fun _ : Unit => [(h0, .inr (10, [.ref h4, .ref h5, .ref h6, .ref h7, .ref h8, .ref h9, .ref h1, .ref h10, .ref h11, vv0])), (h1, .inr (5, [.ref h2, .ref h3, .int x3, .int x4, .long y0, .long y1, .int x5])), (h2, .inl (gB g, 400, .inl fn0)), (h3, .inl (gJ g, 2400, .inr (.inl fm0)))])) (va_A [(h0, .inr (10, [.ref h4, .ref h5, .ref h6, .ref h7, .ref h8, .ref h9, .ref h1, .ref h10, .ref h11, vv0])), (h1, .inr (5, [.ref h2, .ref h3, .int x3, .int x4, .long y0, .long y1, .int x5])), (h2, .inl (gB g, 400, .inl fn0)), (h3, .inl (gJ g, 2400, .inr (.inl fm0)))] sz)) 0 0 (va_A [(h0, .inr (10, [.ref h4, .ref h5, .ref h6, .ref h7, .ref h8, .ref h9, .ref h1, .ref h10, .ref h11, vv0])), (h1, .inr (5, [.ref h2, .ref h3, .int x3, .int x4, .long y0, .long y1, .int x5])), (h2, .inl (gB g, 400, .inl fn0)), (h3, .inl (gJ g, 2400, .inr (.inl fm0)))] sz) := by
  refine met_l RX11 (by decide) rfl rfl (Nat.le_of_ble_eq_true rfl) [(0, .ref h0), (1, .int x0), (2, .int x1), (3, .int x2)] rfl ?_
  intro p e s m args below meth c A Q C hnm Rt
  have gx0 := fb_rng x0
  have gx1 := fb_rng x1
  have gx2 := fb_rng x2
  have hiX11 : ∀ w ∈ wsX110, w ∈ wsX11_at := fun w h => List.mem_cons_of_mem _ (List.mem_append_left _ (List.mem_append_right _ (h)))
  refine r_aload_n 0 0 C dX11_at_0 rfl ?_
  refine r_get 1 C dX11_at_1 (k := 6) 0 rfl rfl hiX11 (by decide) rfl (mg 1 rfl) (Or.inl rfl) rfl ?_
  refine r_iload_n 4 1 C dX11_at_4 rfl ?_
  refine r_iload_n 5 2 C dX11_at_5 rfl ?_
  refine r_iload_n 6 3 C dX11_at_6 rfl ?_
  refine r_callVl 7 C dX11_at_7 [] [(h1, .inr (5, [.ref h2, .ref h3, .int x3, .int x4, .long y0, .long y1, .int x5])), (h2, .inl (gB g, 400, .inl fn0)), (h3, .inl (gJ g, 2400, .inr (.inl fm0)))] [(h0, .inr (10, [.ref h4, .ref h5, .ref h6, .ref h7, .ref h8, .ref h9, .ref h1, .ref h10, .ref h11, vv0]))] (fun sz => c10_X6_pointOf l g h1 h2 h3 x0 x1 x2 x3 x4 y0 y1 x5 fn0 fm0 i_x3 i_x4 i_x5 sz) gX11_at_X6_pointOf rfl ⟨rfl, rfl⟩ 3 (by decide) ⟨Nat.le_of_ble_eq_true rfl, Nat.le_of_ble_eq_true rfl⟩ 1 rfl rfl [1, 2, 3] [0] rfl rfl (by decide) (by decide) (by decide) rfl rfl (Nat.le_of_ble_eq_true rfl) ⟨Nat.le_of_ble_eq_true rfl, Nat.le_of_ble_eq_true rfl⟩ (fun r1 _ w2 => ?_)
  refine r_ws [(h0, .inr (10, [.ref h4, .ref h5, .ref h6, .ref h7, .ref h8, .ref h9, .ref h1, .ref h10, .ref h11, vv0])), (h1, .inr (5, [.ref h2, .ref h3, .int x3, .int x4, .long y0, .long y1, .int x5])), (h2, .inl (gB g, 400, .inl fn0)), (h3, .inl (gJ g, 2400, .inr (.inl fm0)))] rfl ?_
  have p3 : r1 = PAT (PTS fn0 fm0 (Int32.toInt x3)) (Int32.toInt x0) (Int32.toInt x1) (Int32.toInt x2) := w2
  have gr1 := fb_rngL r1
  exact r_lret 10 Rt dX11_at_10 () (show r1 = PAT (PTS fn0 fm0 (Int32.toInt x3)) (Int32.toInt x0) (Int32.toInt x1) (Int32.toInt x2) from (by exact p3)) [0, 1, 2, 3] (by decide) rfl (Nat.le_of_ble_eq_true rfl) (Nat.le_of_ble_eq_true rfl)
set_option maxHeartbeats 4000000 in
set_option maxRecDepth 100000 in
theorem c12_X11_isKeyAndNumber (l : Launch) (g : GD) (x0 : Int32) (x1 : Int32) (sz : Nat) : Met l yX11_isKeyAndNumber wsX11_isKeyAndNumber ({ frames := 0, cells := 0, slots := 0, locals := 0 }) (va_Pc [.int x0, .int x1] (PW g [] sz)) (va_Qi (fun (r : Int32) (_ : Unit) => (((Int32.toInt x0) < 0 ∧ r = 0) ∨ (¬ ((Int32.toInt x0) < 0) ∧ 65535 < (Int32.toInt x0) ∧ r = 0) ∨ (¬ ((Int32.toInt x0) < 0) ∧ ¬ (65535 < (Int32.toInt x0)) ∧ (Int32.toInt x1) < 0 ∧ r = 0) ∨ (¬ ((Int32.toInt x0) < 0) ∧ ¬ (65535 < (Int32.toInt x0)) ∧ ¬ ((Int32.toInt x1) < 0) ∧ 8 < (Int32.toInt x1) ∧ r = 0) ∨ (¬ ((Int32.toInt x0) < 0) ∧ ¬ (65535 < (Int32.toInt x0)) ∧ ¬ ((Int32.toInt x1) < 0) ∧ ¬ (8 < (Int32.toInt x1)) ∧ r = 1))) (BW g (va_A [] sz) (fun _ : Unit => [])) (va_A [] sz)) 0 0 (va_A [] sz) := by
  refine met_z RX11 (by decide) rfl rfl (Nat.le_of_ble_eq_true rfl) [(0, .int x0), (1, .int x1)] rfl ?_
  intro p e s m args below meth c A Q C hnm Rt
  have gx0 := fb_rng x0
  have gx1 := fb_rng x1
  refine r_iload_n 0 0 C dX11_isKeyAndNumber_0 rfl ?_
  refine r_if_lt 1 24 C dX11_isKeyAndNumber_1 (by decide) (fun c1 => ?_) (fun c1 => ?_)
  · skip
    have k2 : (Int32.toInt x0) < 0 := (fa_lt x0 0).mp c1
    refine r_iconst 24 0 C dX11_isKeyAndNumber_24 (by decide) ?_
    exact r_zret 25 Rt dX11_isKeyAndNumber_25 (by decide) () (show (((Int32.toInt x0) < 0 ∧ 0 = 0) ∨ (¬ ((Int32.toInt x0) < 0) ∧ 65535 < (Int32.toInt x0) ∧ 0 = 0) ∨ (¬ ((Int32.toInt x0) < 0) ∧ ¬ (65535 < (Int32.toInt x0)) ∧ (Int32.toInt x1) < 0 ∧ 0 = 0) ∨ (¬ ((Int32.toInt x0) < 0) ∧ ¬ (65535 < (Int32.toInt x0)) ∧ ¬ ((Int32.toInt x1) < 0) ∧ 8 < (Int32.toInt x1) ∧ 0 = 0) ∨ (¬ ((Int32.toInt x0) < 0) ∧ ¬ (65535 < (Int32.toInt x0)) ∧ ¬ ((Int32.toInt x1) < 0) ∧ ¬ (8 < (Int32.toInt x1)) ∧ 0 = 1)) from by refine Or.inl ?_ <;> ((repeat' apply And.intro) <;> first | trivial | rfl | assumption | omega | decide | exact Or.inl rfl | exact Or.inr (Or.inl rfl) | exact Or.inr (Or.inr rfl))) [] (by decide) rfl (Nat.le_of_ble_eq_true rfl) (Nat.le_of_ble_eq_true rfl)
  · skip
    have k3 : ¬ ((Int32.toInt x0) < 0) := fun h_9 => c1 ((fa_lt x0 0).mpr h_9)
    refine r_iload_n 4 0 C dX11_isKeyAndNumber_4 rfl ?_
    refine r_ldc 5 65535 C dX11_isKeyAndNumber_5 (mg 1 rfl) ?_
    refine r_icmp_gt 7 24 C dX11_isKeyAndNumber_7 (by decide) (fun c4 => ?_) (fun c4 => ?_)
    · skip
      have k5 : 65535 < (Int32.toInt x0) := (fa_lt 65535 x0).mp c4
      refine r_iconst 24 0 C dX11_isKeyAndNumber_24 (by decide) ?_
      exact r_zret 25 Rt dX11_isKeyAndNumber_25 (by decide) () (show (((Int32.toInt x0) < 0 ∧ 0 = 0) ∨ (¬ ((Int32.toInt x0) < 0) ∧ 65535 < (Int32.toInt x0) ∧ 0 = 0) ∨ (¬ ((Int32.toInt x0) < 0) ∧ ¬ (65535 < (Int32.toInt x0)) ∧ (Int32.toInt x1) < 0 ∧ 0 = 0) ∨ (¬ ((Int32.toInt x0) < 0) ∧ ¬ (65535 < (Int32.toInt x0)) ∧ ¬ ((Int32.toInt x1) < 0) ∧ 8 < (Int32.toInt x1) ∧ 0 = 0) ∨ (¬ ((Int32.toInt x0) < 0) ∧ ¬ (65535 < (Int32.toInt x0)) ∧ ¬ ((Int32.toInt x1) < 0) ∧ ¬ (8 < (Int32.toInt x1)) ∧ 0 = 1)) from by refine Or.inr (Or.inl ?_) <;> ((repeat' apply And.intro) <;> first | trivial | rfl | assumption | omega | decide | exact Or.inl rfl | exact Or.inr (Or.inl rfl) | exact Or.inr (Or.inr rfl))) [] (by decide) rfl (Nat.le_of_ble_eq_true rfl) (Nat.le_of_ble_eq_true rfl)
    · skip
      have k6 : ¬ (65535 < (Int32.toInt x0)) := fun h_9 => c4 ((fa_lt 65535 x0).mpr h_9)
      refine r_iload_n 10 1 C dX11_isKeyAndNumber_10 rfl ?_
      refine r_if_lt 11 24 C dX11_isKeyAndNumber_11 (by decide) (fun c7 => ?_) (fun c7 => ?_)
      · skip
        have k8 : (Int32.toInt x1) < 0 := (fa_lt x1 0).mp c7
        refine r_iconst 24 0 C dX11_isKeyAndNumber_24 (by decide) ?_
        exact r_zret 25 Rt dX11_isKeyAndNumber_25 (by decide) () (show (((Int32.toInt x0) < 0 ∧ 0 = 0) ∨ (¬ ((Int32.toInt x0) < 0) ∧ 65535 < (Int32.toInt x0) ∧ 0 = 0) ∨ (¬ ((Int32.toInt x0) < 0) ∧ ¬ (65535 < (Int32.toInt x0)) ∧ (Int32.toInt x1) < 0 ∧ 0 = 0) ∨ (¬ ((Int32.toInt x0) < 0) ∧ ¬ (65535 < (Int32.toInt x0)) ∧ ¬ ((Int32.toInt x1) < 0) ∧ 8 < (Int32.toInt x1) ∧ 0 = 0) ∨ (¬ ((Int32.toInt x0) < 0) ∧ ¬ (65535 < (Int32.toInt x0)) ∧ ¬ ((Int32.toInt x1) < 0) ∧ ¬ (8 < (Int32.toInt x1)) ∧ 0 = 1)) from by refine Or.inr (Or.inr (Or.inl ?_)) <;> ((repeat' apply And.intro) <;> first | trivial | rfl | assumption | omega | decide | exact Or.inl rfl | exact Or.inr (Or.inl rfl) | exact Or.inr (Or.inr rfl))) [] (by decide) rfl (Nat.le_of_ble_eq_true rfl) (Nat.le_of_ble_eq_true rfl)
      · skip
        have k9 : ¬ ((Int32.toInt x1) < 0) := fun h_9 => c7 ((fa_lt x1 0).mpr h_9)
        refine r_iload_n 14 1 C dX11_isKeyAndNumber_14 rfl ?_
        refine r_bipush 15 8 C dX11_isKeyAndNumber_15 (by decide) ?_
        refine r_icmp_gt 17 24 C dX11_isKeyAndNumber_17 (by decide) (fun c10 => ?_) (fun c10 => ?_)
        · skip
          have k11 : 8 < (Int32.toInt x1) := (fa_lt 8 x1).mp c10
          refine r_iconst 24 0 C dX11_isKeyAndNumber_24 (by decide) ?_
          exact r_zret 25 Rt dX11_isKeyAndNumber_25 (by decide) () (show (((Int32.toInt x0) < 0 ∧ 0 = 0) ∨ (¬ ((Int32.toInt x0) < 0) ∧ 65535 < (Int32.toInt x0) ∧ 0 = 0) ∨ (¬ ((Int32.toInt x0) < 0) ∧ ¬ (65535 < (Int32.toInt x0)) ∧ (Int32.toInt x1) < 0 ∧ 0 = 0) ∨ (¬ ((Int32.toInt x0) < 0) ∧ ¬ (65535 < (Int32.toInt x0)) ∧ ¬ ((Int32.toInt x1) < 0) ∧ 8 < (Int32.toInt x1) ∧ 0 = 0) ∨ (¬ ((Int32.toInt x0) < 0) ∧ ¬ (65535 < (Int32.toInt x0)) ∧ ¬ ((Int32.toInt x1) < 0) ∧ ¬ (8 < (Int32.toInt x1)) ∧ 0 = 1)) from by refine Or.inr (Or.inr (Or.inr (Or.inl ?_))) <;> ((repeat' apply And.intro) <;> first | trivial | rfl | assumption | omega | decide | exact Or.inl rfl | exact Or.inr (Or.inl rfl) | exact Or.inr (Or.inr rfl))) [] (by decide) rfl (Nat.le_of_ble_eq_true rfl) (Nat.le_of_ble_eq_true rfl)
        · skip
          have k12 : ¬ (8 < (Int32.toInt x1)) := fun h_9 => c10 ((fa_lt 8 x1).mpr h_9)
          refine r_iconst 20 1 C dX11_isKeyAndNumber_20 (by decide) ?_
          refine r_goto 21 25 C dX11_isKeyAndNumber_21 (by decide) ?_
          exact r_zret 25 Rt dX11_isKeyAndNumber_25 (by decide) () (show (((Int32.toInt x0) < 0 ∧ 1 = 0) ∨ (¬ ((Int32.toInt x0) < 0) ∧ 65535 < (Int32.toInt x0) ∧ 1 = 0) ∨ (¬ ((Int32.toInt x0) < 0) ∧ ¬ (65535 < (Int32.toInt x0)) ∧ (Int32.toInt x1) < 0 ∧ 1 = 0) ∨ (¬ ((Int32.toInt x0) < 0) ∧ ¬ (65535 < (Int32.toInt x0)) ∧ ¬ ((Int32.toInt x1) < 0) ∧ 8 < (Int32.toInt x1) ∧ 1 = 0) ∨ (¬ ((Int32.toInt x0) < 0) ∧ ¬ (65535 < (Int32.toInt x0)) ∧ ¬ ((Int32.toInt x1) < 0) ∧ ¬ (8 < (Int32.toInt x1)) ∧ 1 = 1)) from by refine Or.inr (Or.inr (Or.inr (Or.inr (?_)))) <;> ((repeat' apply And.intro) <;> first | trivial | rfl | assumption | omega | decide | exact Or.inl rfl | exact Or.inr (Or.inl rfl) | exact Or.inr (Or.inr rfl))) [] (by decide) rfl (Nat.le_of_ble_eq_true rfl) (Nat.le_of_ble_eq_true rfl)
set_option maxHeartbeats 4000000 in
set_option maxRecDepth 100000 in
theorem c13_X5_cut (l : Launch) (g : GD) (h0 : Nat) (x0 : Int32) (h1 : Nat) (x1 : Int32) (i_x1 : (0 ≤ (Int32.toInt x1) ∧ (Int32.toInt x1) ≤ 1508)) (sz : Nat) : Met l yX5_cut wsX5_cut ({ frames := 0, cells := 0, slots := 0, locals := 0 }) (va_Pc [.ref h0, .int x0] (PW g [(h0, .inr (4, [.ref h1, .int x1]))] sz)) (va_Qv (fun (u : (Int32)) => (((Int32.toInt x0) < 0 ∧ (Int32.toInt u) = (Int32.toInt x1)) ∨ (¬ ((Int32.toInt x0) < 0) ∧ (Int32.toInt x1) < (Int32.toInt x0) ∧ (Int32.toInt u) = (Int32.toInt x1)) ∨ (¬ ((Int32.toInt x0) < 0) ∧ ¬ ((Int32.toInt x1) < (Int32.toInt x0)) ∧ (Int32.toInt u) = (Int32.toInt x0))) ∧ 0 ≤ (Int32.toInt u) ∧ (Int32.toInt u) ≤ 1508) (BW g (va_A [(h0, .inr (4, [.ref h1, .int x1]))] sz) (fun u : (Int32) => [(h0, .inr (4, [.ref h1, .int u]))])) (va_A [(h0, .inr (4, [.ref h1, .int x1]))] sz)) 0 0 (va_A [(h0, .inr (4, [.ref h1, .int x1]))] sz) := by
  refine met_v RX5 (by decide) rfl rfl (Nat.le_of_ble_eq_true rfl) [(0, .ref h0), (1, .int x0)] rfl ?_
  intro p e s m args below meth c A Q C hnm Rt
  have gx0 := fb_rng x0
  have hiX5 : ∀ w ∈ wsX50, w ∈ wsX5_cut := fun w h => List.mem_cons_of_mem _ (List.mem_append_right _ (h))
  refine r_iload_n 0 1 C dX5_cut_0 rfl ?_
  refine r_if_lt 1 17 C dX5_cut_1 (by decide) (fun c1 => ?_) (fun c1 => ?_)
  · skip
    have k2 : (Int32.toInt x0) < 0 := (fa_lt x0 0).mp c1
    exact r_vret 17 Rt dX5_cut_17 x1 (show (((Int32.toInt x0) < 0 ∧ (Int32.toInt x1) = (Int32.toInt x1)) ∨ (¬ ((Int32.toInt x0) < 0) ∧ (Int32.toInt x1) < (Int32.toInt x0) ∧ (Int32.toInt x1) = (Int32.toInt x1)) ∨ (¬ ((Int32.toInt x0) < 0) ∧ ¬ ((Int32.toInt x1) < (Int32.toInt x0)) ∧ (Int32.toInt x1) = (Int32.toInt x0))) ∧ 0 ≤ (Int32.toInt x1) ∧ (Int32.toInt x1) ≤ 1508 from by refine ⟨Or.inl ?_, ?_, ?_⟩ <;> ((repeat' apply And.intro) <;> first | trivial | rfl | assumption | omega | decide | exact Or.inl rfl | exact Or.inr (Or.inl rfl) | exact Or.inr (Or.inr rfl))) [0] (by decide) rfl (Nat.le_of_ble_eq_true rfl) (Nat.le_of_ble_eq_true rfl)
  · skip
    have k3 : ¬ ((Int32.toInt x0) < 0) := fun h_9 => c1 ((fa_lt x0 0).mpr h_9)
    refine r_iload_n 4 1 C dX5_cut_4 rfl ?_
    refine r_aload_n 5 0 C dX5_cut_5 rfl ?_
    refine r_get 6 C dX5_cut_6 (k := 1) 0 rfl rfl hiX5 (by decide) rfl (mg 1 rfl) (Or.inl rfl) rfl ?_
    refine r_icmp_gt 9 17 C dX5_cut_9 (by decide) (fun c4 => ?_) (fun c4 => ?_)
    · skip
      have k5 : (Int32.toInt x1) < (Int32.toInt x0) := (fa_lt x1 x0).mp c4
      exact r_vret 17 Rt dX5_cut_17 x1 (show (((Int32.toInt x0) < 0 ∧ (Int32.toInt x1) = (Int32.toInt x1)) ∨ (¬ ((Int32.toInt x0) < 0) ∧ (Int32.toInt x1) < (Int32.toInt x0) ∧ (Int32.toInt x1) = (Int32.toInt x1)) ∨ (¬ ((Int32.toInt x0) < 0) ∧ ¬ ((Int32.toInt x1) < (Int32.toInt x0)) ∧ (Int32.toInt x1) = (Int32.toInt x0))) ∧ 0 ≤ (Int32.toInt x1) ∧ (Int32.toInt x1) ≤ 1508 from by refine ⟨Or.inr (Or.inl ?_), ?_, ?_⟩ <;> ((repeat' apply And.intro) <;> first | trivial | rfl | assumption | omega | decide | exact Or.inl rfl | exact Or.inr (Or.inl rfl) | exact Or.inr (Or.inr rfl))) [0] (by decide) rfl (Nat.le_of_ble_eq_true rfl) (Nat.le_of_ble_eq_true rfl)
    · skip
      have k6 : ¬ ((Int32.toInt x1) < (Int32.toInt x0)) := fun h_9 => c4 ((fa_lt x1 x0).mpr h_9)
      refine r_aload_n 12 0 C dX5_cut_12 rfl ?_
      refine r_iload_n 13 1 C dX5_cut_13 rfl ?_
      refine r_put 14 C dX5_cut_14 (k := 1) 0 rfl rfl hiX5 tyX5 tyX5_ok nmX5 (by decide) rfl (mg 1 rfl) (Or.inl rfl) rfl rfl rfl rfl (Nat.le_of_ble_eq_true rfl) [(h0, .inr (4, [.ref h1, .int x0]))] rfl ?_
      exact r_vret 17 Rt dX5_cut_17 x0 (show (((Int32.toInt x0) < 0 ∧ (Int32.toInt x0) = (Int32.toInt x1)) ∨ (¬ ((Int32.toInt x0) < 0) ∧ (Int32.toInt x1) < (Int32.toInt x0) ∧ (Int32.toInt x0) = (Int32.toInt x1)) ∨ (¬ ((Int32.toInt x0) < 0) ∧ ¬ ((Int32.toInt x1) < (Int32.toInt x0)) ∧ (Int32.toInt x0) = (Int32.toInt x0))) ∧ 0 ≤ (Int32.toInt x0) ∧ (Int32.toInt x0) ≤ 1508 from by refine ⟨Or.inr (Or.inr (?_)), ?_, ?_⟩ <;> ((repeat' apply And.intro) <;> first | trivial | rfl | assumption | omega | decide | exact Or.inl rfl | exact Or.inr (Or.inl rfl) | exact Or.inr (Or.inr rfl))) [0] (by decide) rfl (Nat.le_of_ble_eq_true rfl) (Nat.le_of_ble_eq_true rfl)
set_option maxHeartbeats 4000000 in
set_option maxRecDepth 100000 in
theorem c14_X5_get (l : Launch) (g : GD) (h0 : Nat) (h1 : Nat) (y0 : Int64) (x0 : Int32) (fn0 : Nat → Int32) (i_x0 : (0 ≤ (Int32.toInt x0) ∧ (Int32.toInt x0) ≤ 1500)) (sz : Nat) : Met l yX5_get wsX5_get ({ frames := 0, cells := 0, slots := 0, locals := 0 }) (va_Pc [.ref h0, .long y0] (PW g [(h0, .inr (4, [.ref h1, .int x0])), (h1, .inl (gB g, 1500, .inl fn0))] sz)) (va_Qi (fun (r : Int32) (_ : Unit) => -1 ≤ (Int32.toInt r) ∧ (Int32.toInt r) ≤ 255 ∧ HID ((0 ≤ (Int64.toInt y0) ∧ (Int64.toInt y0) < (Int32.toInt x0) ∧ r = (fn0 (Int.toNat (Int64.toInt y0)) &&& 255)) ∨ (((Int64.toInt y0) < 0 ∨ (Int32.toInt x0) ≤ (Int64.toInt y0)) ∧ r = -1)) ∧ (Int32.toInt r) = GB fn0 (Int32.toInt x0) (Int64.toInt y0)) (BW g (va_A [(h0, .inr (4, [.ref h1, .int x0])), (h1, .inl (gB g, 1500, .inl fn0))] sz) (fun _ : Unit => [(h0, .inr (4, [.ref h1, .int x0])), (h1, .inl (gB g, 1500, .inl fn0))])) (va_A [(h0, .inr (4, [.ref h1, .int x0])), (h1, .inl (gB g, 1500, .inl fn0))] sz)) 0 0 (va_A [(h0, .inr (4, [.ref h1, .int x0])), (h1, .inl (gB g, 1500, .inl fn0))] sz) := by
  refine met_i RX5 (by decide) rfl rfl (Nat.le_of_ble_eq_true rfl) [(0, .ref h0), (1, .long y0)] rfl ?_
  intro p e s m args below meth c A Q C hnm Rt
  have gy0 := fb_rngL y0
  have hiX5 : ∀ w ∈ wsX50, w ∈ wsX5_get := fun w h => List.mem_cons_of_mem _ (List.mem_append_right _ (h))
  refine r_lload_n 0 1 C dX5_get_0 rfl ?_
  refine r_lconst 1 0 C dX5_get_1 (by decide) ?_
  obtain ⟨z1, ez1⟩ : ∃ z_9, lg_cmp y0 0 = z_9 := ⟨_, rfl⟩
  have l1z1 : (Int32.toInt z1) < 0 ↔ (Int64.toInt y0) < 0 := by rw [← ez1]; exact lgI1 y0 0
  have l2z1 : 0 < (Int32.toInt z1) ↔ 0 < (Int64.toInt y0) := by rw [← ez1]; exact lgI2 y0 0
  refine r_lcmp 2 z1 C dX5_get_2 ez1 ?_
  refine r_if_lt 3 30 C dX5_get_3 (by decide) (fun c2 => ?_) (fun c2 => ?_)
  · skip
    have k3 : (Int32.toInt z1) < 0 := (fa_lt z1 0).mp c2
    refine r_iconst 30 (-1) C dX5_get_30 (by decide) ?_
    exact r_iret 31 Rt dX5_get_31 () (show -1 ≤ (Int32.toInt (-1)) ∧ (Int32.toInt (-1)) ≤ 255 ∧ HID ((0 ≤ (Int64.toInt y0) ∧ (Int64.toInt y0) < (Int32.toInt x0) ∧ (-1) = (fn0 (Int.toNat (Int64.toInt y0)) &&& 255)) ∨ (((Int64.toInt y0) < 0 ∨ (Int32.toInt x0) ≤ (Int64.toInt y0)) ∧ (-1) = -1)) ∧ (-1) = GB fn0 (Int32.toInt x0) (Int64.toInt y0) from ⟨(by ((repeat' apply And.intro) <;> first | trivial | rfl | assumption | omega | decide | exact Or.inl rfl | exact Or.inr (Or.inl rfl) | exact Or.inr (Or.inr rfl))), (by ((repeat' apply And.intro) <;> first | trivial | rfl | assumption | omega | decide | exact Or.inl rfl | exact Or.inr (Or.inl rfl) | exact Or.inr (Or.inr rfl))), (by first | exact Or.inr ⟨by omega, rfl⟩ | exact Or.inl ⟨by omega, by omega, get_pf (by assumption) (by assumption) (by omega)⟩), (by first | exact (gb_out (by omega)).symm | exact gb_ret (by assumption) (by assumption) (by omega) (by omega) (by omega))⟩) [0, 1] (by decide) rfl (Nat.le_of_ble_eq_true rfl) (Nat.le_of_ble_eq_true rfl)
  · skip
    have k4 : ¬ ((Int32.toInt z1) < 0) := fun h_9 => c2 ((fa_lt z1 0).mpr h_9)
    refine r_lload_n 6 1 C dX5_get_6 rfl ?_
    refine r_aload_n 7 0 C dX5_get_7 rfl ?_
    refine r_get 8 C dX5_get_8 (k := 1) 0 rfl rfl hiX5 (by decide) rfl (mg 1 rfl) (Or.inl rfl) rfl ?_
    obtain ⟨z5, ez5⟩ : ∃ z_9, Int32.toInt64 x0 = z_9 := ⟨_, rfl⟩
    have tz5 : (Int64.toInt z5) = (Int32.toInt x0) := by rw [← ez5]; exact Int32.toInt_toInt64 _
    refine r_i2l 11 z5 C dX5_get_11 ez5 ?_
    obtain ⟨z6, ez6⟩ : ∃ z_9, lg_cmp y0 z5 = z_9 := ⟨_, rfl⟩
    have l1z6 : (Int32.toInt z6) < 0 ↔ (Int64.toInt y0) < (Int64.toInt z5) := by rw [← ez6]; exact lgI1 y0 z5
    have l2z6 : 0 < (Int32.toInt z6) ↔ (Int64.toInt z5) < (Int64.toInt y0) := by rw [← ez6]; exact lgI2 y0 z5
    refine r_lcmp 12 z6 C dX5_get_12 ez6 ?_
    refine r_if_ge 13 30 C dX5_get_13 (by decide) (fun c7 => ?_) (fun c7 => ?_)
    · skip
      have k8 : 0 ≤ (Int32.toInt z6) := (fa_le 0 z6).mp c7
      refine r_iconst 30 (-1) C dX5_get_30 (by decide) ?_
      exact r_iret 31 Rt dX5_get_31 () (show -1 ≤ (Int32.toInt (-1)) ∧ (Int32.toInt (-1)) ≤ 255 ∧ HID ((0 ≤ (Int64.toInt y0) ∧ (Int64.toInt y0) < (Int32.toInt x0) ∧ (-1) = (fn0 (Int.toNat (Int64.toInt y0)) &&& 255)) ∨ (((Int64.toInt y0) < 0 ∨ (Int32.toInt x0) ≤ (Int64.toInt y0)) ∧ (-1) = -1)) ∧ (-1) = GB fn0 (Int32.toInt x0) (Int64.toInt y0) from ⟨(by ((repeat' apply And.intro) <;> first | trivial | rfl | assumption | omega | decide | exact Or.inl rfl | exact Or.inr (Or.inl rfl) | exact Or.inr (Or.inr rfl))), (by ((repeat' apply And.intro) <;> first | trivial | rfl | assumption | omega | decide | exact Or.inl rfl | exact Or.inr (Or.inl rfl) | exact Or.inr (Or.inr rfl))), (by first | exact Or.inr ⟨by omega, rfl⟩ | exact Or.inl ⟨by omega, by omega, get_pf (by assumption) (by assumption) (by omega)⟩), (by first | exact (gb_out (by omega)).symm | exact gb_ret (by assumption) (by assumption) (by omega) (by omega) (by omega))⟩) [0, 1] (by decide) rfl (Nat.le_of_ble_eq_true rfl) (Nat.le_of_ble_eq_true rfl)
    · skip
      have k9 : ¬ (0 ≤ (Int32.toInt z6)) := fun h_9 => c7 ((fa_le 0 z6).mpr h_9)
      refine r_aload_n 16 0 C dX5_get_16 rfl ?_
      refine r_get 17 C dX5_get_17 (k := 0) 0 rfl rfl hiX5 (by decide) rfl (mg 2 rfl) (Or.inl rfl) rfl ?_
      refine r_lload_n 20 1 C dX5_get_20 rfl ?_
      obtain ⟨z10, ez10⟩ : ∃ z_9, Int64.toInt32 y0 = z_9 := ⟨_, rfl⟩
      have tz10 : (Int32.toInt z10) = (Int64.toInt y0) := by rw [← ez10]; exact l2i_in (by omega) (by omega)
      refine r_l2i 21 z10 C dX5_get_21 ez10 ?_
      obtain ⟨z11, ez11⟩ : ∃ z_9, fn0 (Int32.toNatClampNeg z10) = z_9 := ⟨_, rfl⟩
      refine r_bald 22 z11 C dX5_get_22 1 rfl (vinI (by omega) (by omega)) ez11 ?_
      have gz11 := fb_rng z11
      refine r_sipush 23 255 C dX5_get_23 (by decide) ?_
      obtain ⟨z12, ez12⟩ : ∃ z_9, z11 &&& 255 = z_9 := ⟨_, rfl⟩
      have tz12 : 0 ≤ (Int32.toInt z12) ∧ (Int32.toInt z12) ≤ 255 := by rw [← ez12]; exact and_255 z11
      refine r_iand 26 z12 C dX5_get_26 ez12 ?_
      refine r_goto 27 31 C dX5_get_27 (by decide) ?_
      exact r_iret 31 Rt dX5_get_31 () (show -1 ≤ (Int32.toInt z12) ∧ (Int32.toInt z12) ≤ 255 ∧ HID ((0 ≤ (Int64.toInt y0) ∧ (Int64.toInt y0) < (Int32.toInt x0) ∧ z12 = (fn0 (Int.toNat (Int64.toInt y0)) &&& 255)) ∨ (((Int64.toInt y0) < 0 ∨ (Int32.toInt x0) ≤ (Int64.toInt y0)) ∧ z12 = -1)) ∧ (Int32.toInt z12) = GB fn0 (Int32.toInt x0) (Int64.toInt y0) from ⟨(iv_wide (c := (-1)) (d := 255) tz12 (by decide) (by decide)).1, (iv_wide (c := (-1)) (d := 255) tz12 (by decide) (by decide)).2, (by first | exact Or.inr ⟨by omega, rfl⟩ | exact Or.inl ⟨by omega, by omega, get_pf (by assumption) (by assumption) (by omega)⟩), (by first | exact (gb_out (by omega)).symm | exact gb_ret (by assumption) (by assumption) (by omega) (by omega) (by omega))⟩) [0, 1] (by decide) rfl (Nat.le_of_ble_eq_true rfl) (Nat.le_of_ble_eq_true rfl)
set_option maxHeartbeats 4000000 in
set_option maxRecDepth 100000 in
theorem c15_X5_add (l : Launch) (g : GD) (h0 : Nat) (h1 : Nat) (x0 : Int32) (x1 : Int32) (fn0 : Nat → Int32) (i_x1 : (0 ≤ (Int32.toInt x1) ∧ (Int32.toInt x1) ≤ 1508)) (sz : Nat) : Met l yX5_add wsX5_add ({ frames := 0, cells := 0, slots := 0, locals := 0 }) (va_Pc [.ref h0, .int x0] (PW g [(h0, .inr (4, [.ref h1, .int x1])), (h1, .inl (gB g, 1508, .inl fn0))] sz)) (va_Qv (fun (u : (Int32) × (Nat → Int32)) => ((1508 ≤ (Int32.toInt x1) ∧ (Int32.toInt (u.1)) = (Int32.toInt x1)) ∨ (¬ (1508 ≤ (Int32.toInt x1)) ∧ (Int32.toInt (u.1)) = (Int32.toInt x1) + 1)) ∧ 0 ≤ (Int32.toInt (u.1)) ∧ (Int32.toInt (u.1)) ≤ 1508 ∧ HID (1508 ≤ (Int32.toInt x1) ∨ (u.2) = upd fn0 (Int.toNat (Int32.toInt x1)) (st8 x0))) (BW g (va_A [(h0, .inr (4, [.ref h1, .int x1])), (h1, .inl (gB g, 1508, .inl fn0))] sz) (fun u : (Int32) × (Nat → Int32) => [(h0, .inr (4, [.ref h1, .int u.1])), (h1, .inl (gB g, 1508, .inl u.2))])) (va_A [(h0, .inr (4, [.ref h1, .int x1])), (h1, .inl (gB g, 1508, .inl fn0))] sz)) 0 0 (va_A [(h0, .inr (4, [.ref h1, .int x1])), (h1, .inl (gB g, 1508, .inl fn0))] sz) := by
  refine met_v RX5 (by decide) rfl rfl (Nat.le_of_ble_eq_true rfl) [(0, .ref h0), (1, .int x0)] rfl ?_
  intro p e s m args below meth c A Q C hnm Rt
  have hiX5 : ∀ w ∈ wsX50, w ∈ wsX5_add := fun w h => List.mem_cons_of_mem _ (List.mem_append_right _ (h))
  refine r_aload_n 0 0 C dX5_add_0 rfl ?_
  refine r_get 1 C dX5_add_1 (k := 1) 0 rfl rfl hiX5 (by decide) rfl (mg 1 rfl) (Or.inl rfl) rfl ?_
  refine r_aload_n 4 0 C dX5_add_4 rfl ?_
  refine r_get 5 C dX5_add_5 (k := 0) 0 rfl rfl hiX5 (by decide) rfl (mg 2 rfl) (Or.inl rfl) rfl ?_
  refine r_balen 8 1508 C dX5_add_8 1 rfl (by decide) ?_
  refine r_icmp_ge 9 33 C dX5_add_9 (by decide) (fun c1 => ?_) (fun c1 => ?_)
  · skip
    have k2 : 1508 ≤ (Int32.toInt x1) := (fa_le 1508 x1).mp c1
    exact r_vret 33 Rt dX5_add_33 (x1, fn0) (show ((1508 ≤ (Int32.toInt x1) ∧ (Int32.toInt x1) = (Int32.toInt x1)) ∨ (¬ (1508 ≤ (Int32.toInt x1)) ∧ (Int32.toInt x1) = (Int32.toInt x1) + 1)) ∧ 0 ≤ (Int32.toInt x1) ∧ (Int32.toInt x1) ≤ 1508 ∧ HID (1508 ≤ (Int32.toInt x1) ∨ fn0 = upd fn0 (Int.toNat (Int32.toInt x1)) (st8 x0)) from by refine ⟨Or.inl ?_, ?_, ?_, (by first | exact Or.inl (by omega) | exact Or.inr (add_pf (by assumption) (by assumption)))⟩ <;> ((repeat' apply And.intro) <;> first | trivial | rfl | assumption | omega | decide | exact Or.inl rfl | exact Or.inr (Or.inl rfl) | exact Or.inr (Or.inr rfl))) [0, 1] (by decide) rfl (Nat.le_of_ble_eq_true rfl) (Nat.le_of_ble_eq_true rfl)
  · skip
    have k3 : ¬ (1508 ≤ (Int32.toInt x1)) := fun h_9 => c1 ((fa_le 1508 x1).mpr h_9)
    refine r_aload_n 12 0 C dX5_add_12 rfl ?_
    refine r_get 13 C dX5_add_13 (k := 0) 0 rfl rfl hiX5 (by decide) rfl (mg 2 rfl) (Or.inl rfl) rfl ?_
    refine r_aload_n 16 0 C dX5_add_16 rfl ?_
    refine r_get 17 C dX5_add_17 (k := 1) 0 rfl rfl hiX5 (by decide) rfl (mg 1 rfl) (Or.inl rfl) rfl ?_
    refine r_iload_n 20 1 C dX5_add_20 rfl ?_
    obtain ⟨z4, ez4⟩ : ∃ z_9, (Int32.toInt8 x0).toInt32 = z_9 := ⟨_, rfl⟩
    have gz4 := fb_rng z4
    refine r_i2b 21 z4 C dX5_add_21 ez4 ?_
    obtain ⟨f5, ef5⟩ : ∃ f_9, upd fn0 (Int32.toNatClampNeg x1) (vp_nar .byte z4) = f_9 := ⟨_, rfl⟩
    refine r_bast 22 C dX5_add_22 1 rfl (vinI (by omega) (by omega)) f5 ef5 [(h0, .inr (4, [.ref h1, .int x1])), (h1, .inl (gB g, 1508, .inl f5))] rfl ?_
    refine r_aload_n 23 0 C dX5_add_23 rfl ?_
    refine r_dup 24 C dX5_add_24 rfl ?_
    refine r_get 25 C dX5_add_25 (k := 1) 0 rfl rfl hiX5 (by decide) rfl (mg 1 rfl) (Or.inl rfl) rfl ?_
    refine r_iconst 28 1 C dX5_add_28 (by decide) ?_
    obtain ⟨z6, ez6⟩ : ∃ z_9, x1 + 1 = z_9 := ⟨_, rfl⟩
    have tz6 : (Int32.toInt z6) = (Int32.toInt x1) + 1 := by rw [← ez6]; exact fb_addIv (a := 0) (b := 1508) (c := 1) (d := 1) i_x1 ⟨by decide, by decide⟩ (by decide) (by decide)
    refine r_iadd 29 z6 C dX5_add_29 ez6 ?_
    refine r_put 30 C dX5_add_30 (k := 1) 0 rfl rfl hiX5 tyX5 tyX5_ok nmX5 (by decide) rfl (mg 1 rfl) (Or.inl rfl) rfl rfl rfl rfl (Nat.le_of_ble_eq_true rfl) [(h0, .inr (4, [.ref h1, .int z6])), (h1, .inl (gB g, 1508, .inl f5))] rfl ?_
    exact r_vret 33 Rt dX5_add_33 (z6, f5) (show ((1508 ≤ (Int32.toInt x1) ∧ (Int32.toInt z6) = (Int32.toInt x1)) ∨ (¬ (1508 ≤ (Int32.toInt x1)) ∧ (Int32.toInt z6) = (Int32.toInt x1) + 1)) ∧ 0 ≤ (Int32.toInt z6) ∧ (Int32.toInt z6) ≤ 1508 ∧ HID (1508 ≤ (Int32.toInt x1) ∨ f5 = upd fn0 (Int.toNat (Int32.toInt x1)) (st8 x0)) from by refine ⟨Or.inr (?_), ?_, ?_, (by first | exact Or.inl (by omega) | exact Or.inr (add_pf (by assumption) (by assumption)))⟩ <;> ((repeat' apply And.intro) <;> first | trivial | rfl | assumption | omega | decide | exact Or.inl rfl | exact Or.inr (Or.inl rfl) | exact Or.inr (Or.inr rfl))) [0, 1] (by decide) rfl (Nat.le_of_ble_eq_true rfl) (Nat.le_of_ble_eq_true rfl)
set_option maxHeartbeats 4000000 in
set_option maxRecDepth 100000 in
theorem c16_X5_addAll (l : Launch) (g : GD) (h0 : Nat) (h1 : Nat) (h2 : Nat) (h3 : Nat) (x0 : Int32) (x1 : Int32) (x2 : Int32) (fn0 : Nat → Int32) (fn1 : Nat → Int32) (i_x1 : (0 ≤ (Int32.toInt x1) ∧ (Int32.toInt x1) ≤ 1508)) (i_x2 : (0 ≤ (Int32.toInt x2) ∧ (Int32.toInt x2) ≤ 1500)) (sz : Nat) : Met l yX5_addAll wsX5_addAll ({ frames := 1, cells := 0, slots := 0, locals := 22 }) (va_Pc [.ref h0, .ref h1, .int x0] (PW g [(h0, .inr (4, [.ref h2, .int x1])), (h1, .inr (4, [.ref h3, .int x2])), (h2, .inl (gB g, 1508, .inl fn0)), (h3, .inl (gB g, 1500, .inl fn1))] sz)) (va_Qv (fun (u : (Int32) × (Nat → Int32)) => 0 ≤ (Int32.toInt (u.1)) ∧ (Int32.toInt (u.1)) ≤ 1508 ∧ (((Int32.toInt x0) ≤ 0 ∧ (((Int32.toInt x2) ≤ 0 ∧ (Int32.toInt (u.1)) = (Int32.toInt x1)) ∨ (0 < (Int32.toInt x2) ∧ (Int32.toInt x1) + (Int32.toInt x2) ≤ 1508 ∧ (Int32.toInt (u.1)) = (Int32.toInt x1) + (Int32.toInt x2)) ∨ 1508 < (Int32.toInt x1) + (Int32.toInt x2))) ∨ (0 ≤ (Int32.toInt x0) ∧ (((Int32.toInt x2) ≤ (Int32.toInt x0) ∧ (Int32.toInt (u.1)) = (Int32.toInt x1)) ∨ ((Int32.toInt x0) < (Int32.toInt x2) ∧ (Int32.toInt x1) + (Int32.toInt x2) - (Int32.toInt x0) ≤ 1508 ∧ (Int32.toInt (u.1)) = (Int32.toInt x1) + (Int32.toInt x2) - (Int32.toInt x0)) ∨ 1508 < (Int32.toInt x1) + (Int32.toInt x2) - (Int32.toInt x0)))) ∧ HID (1508 < (Int32.toInt x1) + (Int32.toInt x2) ∨ (u.2) = cpy fn0 (Int.toNat (Int32.toInt x1)) fn1 (Int.toNat (Int32.toInt x0)) ((Int.toNat (Int32.toInt x2)) - (Int.toNat (Int32.toInt x0))))) (BW g (va_A [(h0, .inr (4, [.ref h2, .int x1])), (h1, .inr (4, [.ref h3, .int x2])), (h2, .inl (gB g, 1508, .inl fn0)), (h3, .inl (gB g, 1500, .inl fn1))] sz) (fun u : (Int32) × (Nat → Int32) => [(h0, .inr (4, [.ref h2, .int u.1])), (h1, .inr (4, [.ref h3, .int x2])), (h2, .inl (gB g, 1508, .inl u.2)), (h3, .inl (gB g, 1500, .inl fn1))])) (va_A [(h0, .inr (4, [.ref h2, .int x1])), (h1, .inr (4, [.ref h3, .int x2])), (h2, .inl (gB g, 1508, .inl fn0)), (h3, .inl (gB g, 1500, .inl fn1))] sz)) 0 0 (va_A [(h0, .inr (4, [.ref h2, .int x1])), (h1, .inr (4, [.ref h3, .int x2])), (h2, .inl (gB g, 1508, .inl fn0)), (h3, .inl (gB g, 1500, .inl fn1))] sz) := by
  refine met_v RX5 (by decide) rfl rfl (Nat.le_of_ble_eq_true rfl) [(0, .ref h0), (1, .ref h1), (2, .int x0)] rfl ?_
  intro p e s m args below meth c A Q C hnm Rt
  have gx0 := fb_rng x0
  have hiX5 : ∀ w ∈ wsX50, w ∈ wsX5_addAll := fun w h => List.mem_cons_of_mem _ (List.mem_append_right _ (h))
  refine r_iload_n 0 2 C dX5_addAll_0 rfl ?_
  refine r_iconst 1 0 C dX5_addAll_1 (by decide) ?_
  obtain ⟨z1, ez1⟩ : ∃ z_9, (if x0 < 0 then 0 else x0) = z_9 := ⟨_, rfl⟩
  have tz1 : ((Int32.toInt x0) < 0 ∧ (Int32.toInt z1) = 0) ∨ (¬ ((Int32.toInt x0) < 0) ∧ (Int32.toInt z1) = (Int32.toInt x0)) := by rw [← ez1]; exact mx_or x0 0 0 x0
  refine r_mmax 2 z1 C dX5_addAll_2 (mg 1 rfl) (mg 2 rfl) (mg 3 rfl) (mg 4 rfl) (Nat.le_of_ble_eq_true rfl) (Nat.le_of_ble_eq_true rfl) (Nat.le_of_ble_eq_true rfl) (Nat.le_of_ble_eq_true rfl) ez1 ?_
  refine r_istore_n 5 C dX5_addAll_5 [(3, .int z1), (0, .ref h0), (1, .ref h1), (2, .int x0)] (by decide) rfl ?_
  have lp6 : ∀ (n5 : Nat) (z2 : Int32) (z3 : Int32) (f4 : Nat → Int32), (0 ≤ (Int32.toInt z2) ∧ (Int32.toInt z2) ≤ 2147483647) → (0 ≤ (Int32.toInt z3) ∧ (Int32.toInt z3) ≤ 1508) → (((Int32.toInt x0) ≤ 0 ∧ ((Int32.toInt z3) = (Int32.toInt x1) + (Int32.toInt z2) ∨ ((Int32.toInt z3) = 1508 ∧ 1508 ≤ (Int32.toInt x1) + (Int32.toInt z2))) ∧ ((Int32.toInt z2) ≤ (Int32.toInt x2) ∨ (Int32.toInt z2) = 0)) ∨ (0 ≤ (Int32.toInt x0) ∧ ((Int32.toInt z3) = (Int32.toInt x1) + (Int32.toInt z2) - (Int32.toInt x0) ∨ ((Int32.toInt z3) = 1508 ∧ 1508 ≤ (Int32.toInt x1) + (Int32.toInt z2) - (Int32.toInt x0))) ∧ (Int32.toInt x0) ≤ (Int32.toInt z2) ∧ ((Int32.toInt z2) ≤ (Int32.toInt x2) ∨ (Int32.toInt z2) = (Int32.toInt x0)))) → (HID (1508 < (Int32.toInt x1) + (Int32.toInt x2) ∨ f4 = cpy fn0 (Int.toNat (Int32.toInt x1)) fn1 (Int.toNat (Int32.toInt x0)) ((Int.toNat (Int32.toInt z2)) - (Int.toNat (Int32.toInt x0))))) → Int.toNat (2147483647 - (Int32.toInt z2)) < n5 → WW p l e ({ frames := 1, cells := 0, slots := 0, locals := 22 } : Room) s m args below meth c A Q g 4 0 0 [(h0, .inr (4, [.ref h2, .int z3])), (h1, .inr (4, [.ref h3, .int x2])), (h2, .inl (gB g, 1508, .inl f4)), (h3, .inl (gB g, 1500, .inl fn1))] 6 [(3, .int z2), (0, .ref h0), (1, .ref h1), (2, .int x0)] [] := by
    intro n5
    induction n5 with
    | zero => intro z2 z3 f4 i9 i10 j11 j12 hm8; exact absurd hm8 (Nat.not_lt_zero _)
    | succ n5 ih7 =>
      intro z2 z3 f4 i9 i10 j11 j12 hm8
      obtain ⟨i9a, i9b⟩ := i9
      obtain ⟨i10a, i10b⟩ := i10
      refine r_iload_n 6 0 C dX5_addAll_6 rfl ?_
      refine r_aload_n 7 2 C dX5_addAll_7 rfl ?_
      refine r_get 8 C dX5_addAll_8 (k := 1) 1 rfl rfl hiX5 (by decide) rfl (mg 5 rfl) (Or.inl rfl) rfl ?_
      refine r_icmp_ge 11 30 C dX5_addAll_11 (by decide) (fun c13 => ?_) (fun c13 => ?_)
      · skip
        have k14 : (Int32.toInt x2) ≤ (Int32.toInt z2) := (fa_le x2 z2).mp c13
        exact r_vret 30 Rt dX5_addAll_30 (z3, f4) (show 0 ≤ (Int32.toInt z3) ∧ (Int32.toInt z3) ≤ 1508 ∧ (((Int32.toInt x0) ≤ 0 ∧ (((Int32.toInt x2) ≤ 0 ∧ (Int32.toInt z3) = (Int32.toInt x1)) ∨ (0 < (Int32.toInt x2) ∧ (Int32.toInt x1) + (Int32.toInt x2) ≤ 1508 ∧ (Int32.toInt z3) = (Int32.toInt x1) + (Int32.toInt x2)) ∨ 1508 < (Int32.toInt x1) + (Int32.toInt x2))) ∨ (0 ≤ (Int32.toInt x0) ∧ (((Int32.toInt x2) ≤ (Int32.toInt x0) ∧ (Int32.toInt z3) = (Int32.toInt x1)) ∨ ((Int32.toInt x0) < (Int32.toInt x2) ∧ (Int32.toInt x1) + (Int32.toInt x2) - (Int32.toInt x0) ≤ 1508 ∧ (Int32.toInt z3) = (Int32.toInt x1) + (Int32.toInt x2) - (Int32.toInt x0)) ∨ 1508 < (Int32.toInt x1) + (Int32.toInt x2) - (Int32.toInt x0)))) ∧ HID (1508 < (Int32.toInt x1) + (Int32.toInt x2) ∨ f4 = cpy fn0 (Int.toNat (Int32.toInt x1)) fn1 (Int.toNat (Int32.toInt x0)) ((Int.toNat (Int32.toInt x2)) - (Int.toNat (Int32.toInt x0)))) from ⟨(show _ ∧ _ from ⟨i10a, i10b⟩).1, (show _ ∧ _ from ⟨i10a, i10b⟩).2, (by ((repeat' apply And.intro) <;> first | trivial | rfl | assumption | omega | decide | exact Or.inl rfl | exact Or.inr (Or.inl rfl) | exact Or.inr (Or.inr rfl))), (by first | exact Or.inl (by omega) | exact (show HID (1508 < (Int32.toInt x1) + (Int32.toInt x2) ∨ f4 = cpy fn0 (Int.toNat (Int32.toInt x1)) fn1 (Int.toNat (Int32.toInt x0)) ((Int.toNat (Int32.toInt z2)) - (Int.toNat (Int32.toInt x0)))) by assumption).imp id (fun h_9 => cpy_k h_9 (by omega)))⟩) [0, 1, 2, 3] (by decide) rfl (Nat.le_of_ble_eq_true rfl) (Nat.le_of_ble_eq_true rfl)
      · skip
        have k15 : ¬ ((Int32.toInt x2) ≤ (Int32.toInt z2)) := fun h_9 => c13 ((fa_le x2 z2).mpr h_9)
        refine r_aload_n 14 1 C dX5_addAll_14 rfl ?_
        refine r_aload_n 15 2 C dX5_addAll_15 rfl ?_
        refine r_iload_n 16 0 C dX5_addAll_16 rfl ?_
        obtain ⟨z16, ez16⟩ : ∃ z_9, Int32.toInt64 z2 = z_9 := ⟨_, rfl⟩
        have tz16 : (Int64.toInt z16) = (Int32.toInt z2) := by rw [← ez16]; exact Int32.toInt_toInt64 _
        refine r_i2l 17 z16 C dX5_addAll_17 ez16 ?_
        refine r_callVi 18 C dX5_addAll_18 [.ref h0] [(h1, .inr (4, [.ref h3, .int x2])), (h3, .inl (gB g, 1500, .inl fn1))] [(h0, .inr (4, [.ref h2, .int z3])), (h2, .inl (gB g, 1508, .inl f4))] (fun sz => c14_X5_get l g h1 h3 z16 x2 fn1 i_x2 sz) gX5_addAll_X5_get rfl ⟨rfl, rfl⟩ 1 (by decide) ⟨Nat.le_of_ble_eq_true rfl, Nat.le_of_ble_eq_true rfl⟩ 1 rfl rfl [1, 3] [0, 2] rfl rfl (by decide) (by decide) (by decide) rfl rfl (Nat.le_of_ble_eq_true rfl) ⟨Nat.le_of_ble_eq_true rfl, Nat.le_of_ble_eq_true rfl⟩ (fun r17 _ w18 => ?_)
        refine r_ws [(h0, .inr (4, [.ref h2, .int z3])), (h2, .inl (gB g, 1508, .inl f4)), (h1, .inr (4, [.ref h3, .int x2])), (h3, .inl (gB g, 1500, .inl fn1))] rfl ?_
        have p19 : -1 ≤ (Int32.toInt r17) := w18.1
        have p20 : (Int32.toInt r17) ≤ 255 := w18.2.1
        have p21 : HID ((0 ≤ (Int64.toInt z16) ∧ (Int64.toInt z16) < (Int32.toInt x2) ∧ r17 = (fn1 (Int.toNat (Int64.toInt z16)) &&& 255)) ∨ (((Int64.toInt z16) < 0 ∨ (Int32.toInt x2) ≤ (Int64.toInt z16)) ∧ r17 = -1)) := w18.2.2.1
        have p22 : (Int32.toInt r17) = GB fn1 (Int32.toInt x2) (Int64.toInt z16) := w18.2.2.2
        refine r_callVv 21 C dX5_addAll_21 [] [(h0, .inr (4, [.ref h2, .int z3])), (h2, .inl (gB g, 1508, .inl f4))] [(h1, .inr (4, [.ref h3, .int x2])), (h3, .inl (gB g, 1500, .inl fn1))] (fun sz => c15_X5_add l g h0 h2 r17 z3 f4 ⟨i10a, i10b⟩ sz) gX5_addAll_X5_add rfl ⟨rfl, rfl⟩ 1 (by decide) ⟨Nat.le_of_ble_eq_true rfl, Nat.le_of_ble_eq_true rfl⟩ 0 rfl rfl [0, 1] [2, 3] rfl rfl (by decide) (by decide) (by decide) rfl rfl (Nat.le_of_ble_eq_true rfl) ⟨Nat.le_of_ble_eq_true rfl, Nat.le_of_ble_eq_true rfl⟩ (fun  u26 w25 => ?_)
        obtain ⟨z23, f24⟩ := u26
        refine r_ws [(h1, .inr (4, [.ref h3, .int x2])), (h3, .inl (gB g, 1500, .inl fn1)), (h0, .inr (4, [.ref h2, .int z23])), (h2, .inl (gB g, 1508, .inl f24))] rfl ?_
        have p27 : 0 ≤ (Int32.toInt z23) := w25.2.1
        have p28 : (Int32.toInt z23) ≤ 1508 := w25.2.2.1
        have p29 : HID (1508 ≤ (Int32.toInt z3) ∨ f24 = upd f4 (Int.toNat (Int32.toInt z3)) (st8 r17)) := w25.2.2.2
        have w30 : ((1508 ≤ (Int32.toInt z3) ∧ (Int32.toInt z23) = (Int32.toInt z3)) ∨ (¬ (1508 ≤ (Int32.toInt z3)) ∧ (Int32.toInt z23) = (Int32.toInt z3) + 1)) := w25.1
        rcases w30 with ⟨k31, k32⟩ | w30
        · skip
          obtain ⟨z33, ez33⟩ : ∃ z_9, z2 + Int32.ofInt 1 = z_9 := ⟨_, rfl⟩
          have tz33 : (Int32.toInt z33) = (Int32.toInt z2) + 1 := by rw [← ez33]; exact fb_addI (by show -2147483648 ≤ (Int32.toInt z2) + 1; omega) (by show (Int32.toInt z2) + 1 < 2147483648; omega)
          refine r_iinc 24 0 z33 C dX5_addAll_24 rfl ez33 [(3, .int z33), (0, .ref h0), (1, .ref h1), (2, .int x0)] (by decide) rfl ?_
          refine r_goto 27 6 C dX5_addAll_27 (by decide) ?_
          refine r_pick [(h0, .inr (4, [.ref h2, .int z23])), (h1, .inr (4, [.ref h3, .int x2])), (h2, .inl (gB g, 1508, .inl f24)), (h3, .inl (gB g, 1500, .inl fn1))] [2, 0, 3, 1] (by decide) rfl ?_
          exact ih7 z33 z23 f24 ⟨by omega, by omega⟩ ⟨p27, p28⟩ (by show ((Int32.toInt x0) ≤ 0 ∧ ((Int32.toInt z23) = (Int32.toInt x1) + (Int32.toInt z33) ∨ ((Int32.toInt z23) = 1508 ∧ 1508 ≤ (Int32.toInt x1) + (Int32.toInt z33))) ∧ ((Int32.toInt z33) ≤ (Int32.toInt x2) ∨ (Int32.toInt z33) = 0)) ∨ (0 ≤ (Int32.toInt x0) ∧ ((Int32.toInt z23) = (Int32.toInt x1) + (Int32.toInt z33) - (Int32.toInt x0) ∨ ((Int32.toInt z23) = 1508 ∧ 1508 ≤ (Int32.toInt x1) + (Int32.toInt z33) - (Int32.toInt x0))) ∧ (Int32.toInt x0) ≤ (Int32.toInt z33) ∧ ((Int32.toInt z33) ≤ (Int32.toInt x2) ∨ (Int32.toInt z33) = (Int32.toInt x0))); omega) (by first | exact Or.inl (by omega) | exact (show HID (1508 < (Int32.toInt x1) + (Int32.toInt x2) ∨ f4 = cpy fn0 (Int.toNat (Int32.toInt x1)) fn1 (Int.toNat (Int32.toInt x0)) ((Int.toNat (Int32.toInt z2)) - (Int.toNat (Int32.toInt x0)))) by assumption).imp id (fun h_9 => cpy_step h_9 (by omega) (by omega) (by omega) ((p21.resolve_right (by omega)).2.2) (p29.resolve_left (by omega)))) (by omega)
        obtain ⟨k34, k35⟩ := w30
        obtain ⟨z36, ez36⟩ : ∃ z_9, z2 + Int32.ofInt 1 = z_9 := ⟨_, rfl⟩
        have tz36 : (Int32.toInt z36) = (Int32.toInt z2) + 1 := by rw [← ez36]; exact fb_addI (by show -2147483648 ≤ (Int32.toInt z2) + 1; omega) (by show (Int32.toInt z2) + 1 < 2147483648; omega)
        refine r_iinc 24 0 z36 C dX5_addAll_24 rfl ez36 [(3, .int z36), (0, .ref h0), (1, .ref h1), (2, .int x0)] (by decide) rfl ?_
        refine r_goto 27 6 C dX5_addAll_27 (by decide) ?_
        refine r_pick [(h0, .inr (4, [.ref h2, .int z23])), (h1, .inr (4, [.ref h3, .int x2])), (h2, .inl (gB g, 1508, .inl f24)), (h3, .inl (gB g, 1500, .inl fn1))] [2, 0, 3, 1] (by decide) rfl ?_
        exact ih7 z36 z23 f24 ⟨by omega, by omega⟩ ⟨p27, p28⟩ (by show ((Int32.toInt x0) ≤ 0 ∧ ((Int32.toInt z23) = (Int32.toInt x1) + (Int32.toInt z36) ∨ ((Int32.toInt z23) = 1508 ∧ 1508 ≤ (Int32.toInt x1) + (Int32.toInt z36))) ∧ ((Int32.toInt z36) ≤ (Int32.toInt x2) ∨ (Int32.toInt z36) = 0)) ∨ (0 ≤ (Int32.toInt x0) ∧ ((Int32.toInt z23) = (Int32.toInt x1) + (Int32.toInt z36) - (Int32.toInt x0) ∨ ((Int32.toInt z23) = 1508 ∧ 1508 ≤ (Int32.toInt x1) + (Int32.toInt z36) - (Int32.toInt x0))) ∧ (Int32.toInt x0) ≤ (Int32.toInt z36) ∧ ((Int32.toInt z36) ≤ (Int32.toInt x2) ∨ (Int32.toInt z36) = (Int32.toInt x0))); omega) (by first | exact Or.inl (by omega) | exact (show HID (1508 < (Int32.toInt x1) + (Int32.toInt x2) ∨ f4 = cpy fn0 (Int.toNat (Int32.toInt x1)) fn1 (Int.toNat (Int32.toInt x0)) ((Int.toNat (Int32.toInt z2)) - (Int.toNat (Int32.toInt x0)))) by assumption).imp id (fun h_9 => cpy_step h_9 (by omega) (by omega) (by omega) ((p21.resolve_right (by omega)).2.2) (p29.resolve_left (by omega)))) (by omega)
  exact lp6 _ z1 x1 fn0 ⟨by omega, by omega⟩ i_x1 (by show ((Int32.toInt x0) ≤ 0 ∧ ((Int32.toInt x1) = (Int32.toInt x1) + (Int32.toInt z1) ∨ ((Int32.toInt x1) = 1508 ∧ 1508 ≤ (Int32.toInt x1) + (Int32.toInt z1))) ∧ ((Int32.toInt z1) ≤ (Int32.toInt x2) ∨ (Int32.toInt z1) = 0)) ∨ (0 ≤ (Int32.toInt x0) ∧ ((Int32.toInt x1) = (Int32.toInt x1) + (Int32.toInt z1) - (Int32.toInt x0) ∨ ((Int32.toInt x1) = 1508 ∧ 1508 ≤ (Int32.toInt x1) + (Int32.toInt z1) - (Int32.toInt x0))) ∧ (Int32.toInt x0) ≤ (Int32.toInt z1) ∧ ((Int32.toInt z1) ≤ (Int32.toInt x2) ∨ (Int32.toInt z1) = (Int32.toInt x0))); omega) (Or.inr (cpy_0 (by omega))) (Nat.lt_succ_self _)
set_option maxHeartbeats 4000000 in
set_option maxRecDepth 100000 in
theorem c17_X5_nextKey (l : Launch) (g : GD) (x0 : Int32) (x1 : Int32) (sz : Nat) : Met l yX5_nextKey wsX5_nextKey ({ frames := 0, cells := 0, slots := 0, locals := 0 }) (va_Pc [.int x0, .int x1] (PW g [] sz)) (va_Qi (fun (r : Int32) (_ : Unit) => 0 ≤ (Int32.toInt r) ∧ (Int32.toInt r) ≤ 65535 ∧ r = nk x0 x1) (BW g (va_A [] sz) (fun _ : Unit => [])) (va_A [] sz)) 0 0 (va_A [] sz) := by
  refine met_i RX5 (by decide) rfl rfl (Nat.le_of_ble_eq_true rfl) [(0, .int x0), (1, .int x1)] rfl ?_
  intro p e s m args below meth c A Q C hnm Rt
  refine r_iload_n 0 0 C dX5_nextKey_0 rfl ?_
  refine r_iload_n 1 1 C dX5_nextKey_1 rfl ?_
  obtain ⟨z1, ez1⟩ : ∃ z_9, x0 + x1 = z_9 := ⟨_, rfl⟩
  have gz1 := fb_rng z1
  refine r_iadd 2 z1 C dX5_nextKey_2 ez1 ?_
  refine r_ldc 3 52845 C dX5_nextKey_3 (mg 1 rfl) ?_
  obtain ⟨z2, ez2⟩ : ∃ z_9, z1 * 52845 = z_9 := ⟨_, rfl⟩
  have gz2 := fb_rng z2
  refine r_imul 5 z2 C dX5_nextKey_5 ez2 ?_
  refine r_sipush 6 22719 C dX5_nextKey_6 (by decide) ?_
  obtain ⟨z3, ez3⟩ : ∃ z_9, z2 + 22719 = z_9 := ⟨_, rfl⟩
  have gz3 := fb_rng z3
  refine r_iadd 9 z3 C dX5_nextKey_9 ez3 ?_
  refine r_ldc 10 65535 C dX5_nextKey_10 (mg 2 rfl) ?_
  obtain ⟨z4, ez4⟩ : ∃ z_9, z3 &&& 65535 = z_9 := ⟨_, rfl⟩
  have tz4 : 0 ≤ (Int32.toInt z4) ∧ (Int32.toInt z4) ≤ 65535 := by rw [← ez4]; exact and_65535 z3
  refine r_iand 12 z4 C dX5_nextKey_12 ez4 ?_
  exact r_iret 13 Rt dX5_nextKey_13 () (show 0 ≤ (Int32.toInt z4) ∧ (Int32.toInt z4) ≤ 65535 ∧ z4 = nk x0 x1 from ⟨tz4.1, tz4.2, (by subst_vars; rfl)⟩) [] (by decide) rfl (Nat.le_of_ble_eq_true rfl) (Nat.le_of_ble_eq_true rfl)
set_option maxHeartbeats 4000000 in
set_option maxRecDepth 100000 in
theorem c18_X5_encipher (l : Launch) (g : GD) (h0 : Nat) (h1 : Nat) (x0 : Int32) (x1 : Int32) (fn0 : Nat → Int32) (i_x1 : (0 ≤ (Int32.toInt x1) ∧ (Int32.toInt x1) ≤ 1508)) (sz : Nat) : Met l yX5_encipher wsX5_encipher ({ frames := 1, cells := 0, slots := 0, locals := 21 }) (va_Pc [.ref h0, .int x0] (PW g [(h0, .inr (4, [.ref h1, .int x1])), (h1, .inl (gB g, 1508, .inl fn0))] sz)) (va_Qv (fun (u : (Nat → Int32)) => (u = (enc fn0 x0 (Int.toNat (Int32.toInt x1))).1)) (BW g (va_A [(h0, .inr (4, [.ref h1, .int x1])), (h1, .inl (gB g, 1508, .inl fn0))] sz) (fun u : (Nat → Int32) => [(h0, .inr (4, [.ref h1, .int x1])), (h1, .inl (gB g, 1508, .inl u))])) (va_A [(h0, .inr (4, [.ref h1, .int x1])), (h1, .inl (gB g, 1508, .inl fn0))] sz)) 0 0 (va_A [(h0, .inr (4, [.ref h1, .int x1])), (h1, .inl (gB g, 1508, .inl fn0))] sz) := by
  refine met_v RX5 (by decide) rfl rfl (Nat.le_of_ble_eq_true rfl) [(0, .ref h0), (1, .int x0)] rfl ?_
  intro p e s m args below meth c A Q C hnm Rt
  have hiX5 : ∀ w ∈ wsX50, w ∈ wsX5_encipher := fun w h => List.mem_cons_of_mem _ (List.mem_append_right _ (h))
  refine r_iload_n 0 1 C dX5_encipher_0 rfl ?_
  refine r_istore_n 1 C dX5_encipher_1 [(2, .int x0), (0, .ref h0), (1, .int x0)] (by decide) rfl ?_
  refine r_iconst 2 0 C dX5_encipher_2 (by decide) ?_
  refine r_istore_n 3 C dX5_encipher_3 [(3, .int 0), (2, .int x0), (0, .ref h0), (1, .int x0)] (by decide) rfl ?_
  have lp5 : ∀ (n4 : Nat) (z1 : Int32) (z2 : Int32) (f3 : Nat → Int32), (0 ≤ (Int32.toInt z1) ∧ (Int32.toInt z1) ≤ 1508) → ((Int32.toInt z1) ≤ (Int32.toInt x1)) → ((f3 = (enc fn0 x0 (Int.toNat (Int32.toInt z1))).1 ∧ z2 = (enc fn0 x0 (Int.toNat (Int32.toInt z1))).2)) → Int.toNat (1508 - (Int32.toInt z1)) < n4 → WW p l e ({ frames := 1, cells := 0, slots := 0, locals := 21 } : Room) s m args below meth c A Q g 5 0 0 [(h0, .inr (4, [.ref h1, .int x1])), (h1, .inl (gB g, 1508, .inl f3))] 4 [(3, .int z1), (2, .int z2), (0, .ref h0), (1, .int x0)] [] := by
    intro n4
    induction n4 with
    | zero => intro z1 z2 f3 i8 j9 j10 hm7; exact absurd hm7 (Nat.not_lt_zero _)
    | succ n4 ih6 =>
      intro z1 z2 f3 i8 j9 j10 hm7
      obtain ⟨i8a, i8b⟩ := i8
      have gz2 := fb_rng z2
      refine r_iload_n 4 0 C dX5_encipher_4 rfl ?_
      refine r_aload_n 5 2 C dX5_encipher_5 rfl ?_
      refine r_get 6 C dX5_encipher_6 (k := 1) 0 rfl rfl hiX5 (by decide) rfl (mg 1 rfl) (Or.inl rfl) rfl ?_
      refine r_icmp_ge 9 51 C dX5_encipher_9 (by decide) (fun c11 => ?_) (fun c11 => ?_)
      · skip
        have k12 : (Int32.toInt x1) ≤ (Int32.toInt z1) := (fa_le x1 z1).mp c11
        exact r_vret 51 Rt dX5_encipher_51 f3 (show (f3 = (enc fn0 x0 (Int.toNat (Int32.toInt x1))).1) from (by exact enc_end (show (f3 = (enc fn0 x0 (Int.toNat (Int32.toInt z1))).1 ∧ z2 = (enc fn0 x0 (Int.toNat (Int32.toInt z1))).2) by assumption) (by omega))) [0, 1] (by decide) rfl (Nat.le_of_ble_eq_true rfl) (Nat.le_of_ble_eq_true rfl)
      · skip
        have k13 : ¬ ((Int32.toInt x1) ≤ (Int32.toInt z1)) := fun h_9 => c11 ((fa_le x1 z1).mpr h_9)
        refine r_aload_n 12 2 C dX5_encipher_12 rfl ?_
        refine r_get 13 C dX5_encipher_13 (k := 0) 0 rfl rfl hiX5 (by decide) rfl (mg 2 rfl) (Or.inl rfl) rfl ?_
        refine r_iload_n 16 0 C dX5_encipher_16 rfl ?_
        obtain ⟨z14, ez14⟩ : ∃ z_9, f3 (Int32.toNatClampNeg z1) = z_9 := ⟨_, rfl⟩
        refine r_bald 17 z14 C dX5_encipher_17 1 rfl (vinI (by omega) (by omega)) ez14 ?_
        have gz14 := fb_rng z14
        refine r_sipush 18 255 C dX5_encipher_18 (by decide) ?_
        obtain ⟨z15, ez15⟩ : ∃ z_9, z14 &&& 255 = z_9 := ⟨_, rfl⟩
        have tz15 : 0 ≤ (Int32.toInt z15) ∧ (Int32.toInt z15) ≤ 255 := by rw [← ez15]; exact and_255 z14
        refine r_iand 21 z15 C dX5_encipher_21 ez15 ?_
        refine r_iload_n 22 1 C dX5_encipher_22 rfl ?_
        refine r_bipush 23 8 C dX5_encipher_23 (by decide) ?_
        obtain ⟨z16, ez16⟩ : ∃ z_9, z2 >>> (8 &&& 31) = z_9 := ⟨_, rfl⟩
        have tz16 : (Int32.toInt z16) = (Int32.toInt z2) / 256 := by rw [← ez16]; exact shr_8 z2
        refine r_ishr 25 z16 C dX5_encipher_25 ez16 ?_
        obtain ⟨z17, ez17⟩ : ∃ z_9, z15 ^^^ z16 = z_9 := ⟨_, rfl⟩
        have gz17 := fb_rng z17
        refine r_ixor 26 z17 C dX5_encipher_26 ez17 ?_
        refine r_istore 27 C dX5_encipher_27 [(4, .int z17), (3, .int z1), (2, .int z2), (0, .ref h0), (1, .int x0)] (by decide) rfl ?_
        refine r_aload_n 29 3 C dX5_encipher_29 rfl ?_
        refine r_get 30 C dX5_encipher_30 (k := 0) 0 rfl rfl hiX5 (by decide) rfl (mg 2 rfl) (Or.inl rfl) rfl ?_
        refine r_iload_n 33 1 C dX5_encipher_33 rfl ?_
        refine r_iload 34 0 C dX5_encipher_34 rfl ?_
        obtain ⟨z18, ez18⟩ : ∃ z_9, (Int32.toInt8 z17).toInt32 = z_9 := ⟨_, rfl⟩
        have gz18 := fb_rng z18
        refine r_i2b 36 z18 C dX5_encipher_36 ez18 ?_
        obtain ⟨f19, ef19⟩ : ∃ f_9, upd f3 (Int32.toNatClampNeg z1) (vp_nar .byte z18) = f_9 := ⟨_, rfl⟩
        refine r_bast 37 C dX5_encipher_37 1 rfl (vinI (by omega) (by omega)) f19 ef19 [(h0, .inr (4, [.ref h1, .int x1])), (h1, .inl (gB g, 1508, .inl f19))] rfl ?_
        refine r_iload 38 0 C dX5_encipher_38 rfl ?_
        refine r_iload_n 40 2 C dX5_encipher_40 rfl ?_
        refine r_callSi 41 C dX5_encipher_41 [] [] [(h0, .inr (4, [.ref h1, .int x1])), (h1, .inl (gB g, 1508, .inl f19))] (fun sz => c17_X5_nextKey l g z17 z2  sz) gX5_encipher_X5_nextKey rfl ⟨rfl, rfl⟩ 2 (by decide) ⟨Nat.le_of_ble_eq_true rfl, Nat.le_of_ble_eq_true rfl⟩ [] [0, 1] rfl rfl (by decide) (by decide) (by decide) rfl rfl (Nat.le_of_ble_eq_true rfl) ⟨Nat.le_of_ble_eq_true rfl, Nat.le_of_ble_eq_true rfl⟩ (fun r20 _ w21 => ?_)
        refine r_ws [(h0, .inr (4, [.ref h1, .int x1])), (h1, .inl (gB g, 1508, .inl f19))] rfl ?_
        have p22 : 0 ≤ (Int32.toInt r20) := w21.1
        have p23 : (Int32.toInt r20) ≤ 65535 := w21.2.1
        have p24 : r20 = nk z17 z2 := w21.2.2
        refine r_istore_n 44 C dX5_encipher_44 [(2, .int r20), (4, .int z17), (3, .int z1), (0, .ref h0), (1, .int x0)] (by decide) rfl ?_
        obtain ⟨z25, ez25⟩ : ∃ z_9, z1 + Int32.ofInt 1 = z_9 := ⟨_, rfl⟩
        have tz25 : (Int32.toInt z25) = (Int32.toInt z1) + 1 := by rw [← ez25]; exact fb_addIv (a := 0) (b := 1508) (c := 1) (d := 1) ⟨i8a, i8b⟩ ⟨by decide, by decide⟩ (by decide) (by decide)
        refine r_iinc 45 2 z25 C dX5_encipher_45 rfl ez25 [(3, .int z25), (2, .int r20), (4, .int z17), (0, .ref h0), (1, .int x0)] (by decide) rfl ?_
        refine r_goto 48 4 C dX5_encipher_48 (by decide) ?_
        refine r_lv [(3, .int z25), (2, .int r20), (0, .ref h0), (1, .int x0)] [0, 1, 3, 4] rfl ?_
        exact ih6 z25 r20 f19 ⟨by omega, by omega⟩ (by show (Int32.toInt z25) ≤ (Int32.toInt x1); omega) (enc_step (show (f3 = (enc fn0 x0 (Int.toNat (Int32.toInt z1))).1 ∧ z2 = (enc fn0 x0 (Int.toNat (Int32.toInt z1))).2) by assumption) rfl (by assumption) (by assumption) (by assumption) (by assumption) (by assumption) (by assumption) p24 (by omega)) (by omega)
  exact lp5 _ 0 x0 fn0 (by decide) (by show 0 ≤ (Int32.toInt x1); omega) ⟨rfl, rfl⟩ (Nat.lt_succ_self _)
set_option maxHeartbeats 4000000 in
set_option maxRecDepth 100000 in
theorem c19_X5_size (l : Launch) (g : GD) (h0 : Nat) (h1 : Nat) (x0 : Int32) (i_x0 : (0 ≤ (Int32.toInt x0) ∧ (Int32.toInt x0) ≤ 1508)) (sz : Nat) : Met l yX5_size wsX5_size ({ frames := 0, cells := 0, slots := 0, locals := 0 }) (va_Pc [.ref h0] (PW g [(h0, .inr (4, [.ref h1, .int x0]))] sz)) (va_Qi (fun (r : Int32) (_ : Unit) => r = x0) (BW g (va_A [(h0, .inr (4, [.ref h1, .int x0]))] sz) (fun _ : Unit => [(h0, .inr (4, [.ref h1, .int x0]))])) (va_A [(h0, .inr (4, [.ref h1, .int x0]))] sz)) 0 0 (va_A [(h0, .inr (4, [.ref h1, .int x0]))] sz) := by
  refine met_i RX5 (by decide) rfl rfl (Nat.le_of_ble_eq_true rfl) [(0, .ref h0)] rfl ?_
  intro p e s m args below meth c A Q C hnm Rt
  have hiX5 : ∀ w ∈ wsX50, w ∈ wsX5_size := fun w h => List.mem_cons_of_mem _ (List.mem_append_right _ (h))
  refine r_aload_n 0 0 C dX5_size_0 rfl ?_
  refine r_get 1 C dX5_size_1 (k := 1) 0 rfl rfl hiX5 (by decide) rfl (mg 1 rfl) (Or.inl rfl) rfl ?_
  exact r_iret 4 Rt dX5_size_4 () (show x0 = x0 from (by ((repeat' apply And.intro) <;> first | trivial | rfl | assumption | omega | decide | exact Or.inl rfl | exact Or.inr (Or.inl rfl) | exact Or.inr (Or.inr rfl)))) [0] (by decide) rfl (Nat.le_of_ble_eq_true rfl) (Nat.le_of_ble_eq_true rfl)
set_option maxHeartbeats 4000000 in
set_option maxRecDepth 100000 in
theorem c20_X11_cipher (l : Launch) (g : GD) (h0 : Nat) (h1 : Nat) (h2 : Nat) (h3 : Nat) (h4 : Nat) (x0 : Int32) (x1 : Int32) (h5 : Nat) (h6 : Nat) (h7 : Nat) (h8 : Nat) (h9 : Nat) (h10 : Nat) (h11 : Nat) (vv0 : Value) (x2 : Int32) (x3 : Int32) (fn0 : Nat → Int32) (fn1 : Nat → Int32) (i_x2 : (0 ≤ (Int32.toInt x2) ∧ (Int32.toInt x2) ≤ 1500)) (i_x3 : (0 ≤ (Int32.toInt x3) ∧ (Int32.toInt x3) ≤ 1508)) (sz : Nat) : Met l yX11_cipher wsX11_cipher ({ frames := 2, cells := 0, slots := 0, locals := 45 }) (va_Pc [.ref h0, .int x0, .int x1] (PW g [(h0, .inr (10, [.ref h1, .ref h2, .ref h5, .ref h6, .ref h7, .ref h8, .ref h9, .ref h10, .ref h11, vv0])), (h1, .inr (4, [.ref h3, .int x2])), (h2, .inr (4, [.ref h4, .int x3])), (h3, .inl (gB g, 1500, .inl fn0)), (h4, .inl (gB g, 1508, .inl fn1))] sz)) (va_Qi (fun (r : Int32) (u : (Int32) × (Int32) × (Nat → Int32)) => -1 ≤ (Int32.toInt r) ∧ (Int32.toInt r) ≤ 1508 ∧ 0 ≤ (Int32.toInt (u.1)) ∧ (Int32.toInt (u.1)) ≤ 1500 ∧ 0 ≤ (Int32.toInt (u.2.1)) ∧ (Int32.toInt (u.2.1)) ≤ 1508 ∧ ((0 ≤ (Int32.toInt x0) ∧ (Int32.toInt x0) ≤ 65535 ∧ 0 ≤ (Int32.toInt x1) ∧ (Int32.toInt x1) ≤ 8 ∧ (Int32.toInt (u.2.1)) = (Int32.toInt x2) + (Int32.toInt x1) ∧ (Int32.toInt (u.1)) = 0 ∧ (Int32.toInt r) = (Int32.toInt (u.2.1))) ∨ (((Int32.toInt x0) < 0 ∨ 65535 < (Int32.toInt x0) ∨ (Int32.toInt x1) < 0 ∨ 8 < (Int32.toInt x1)) ∧ (Int32.toInt (u.2.1)) = (Int32.toInt x3) ∧ (Int32.toInt (u.1)) = (Int32.toInt x2) ∧ (Int32.toInt r) = -1)) ∧ HID ((((Int32.toInt x0) < 0 ∨ 65535 < (Int32.toInt x0) ∨ (Int32.toInt x1) < 0 ∨ 8 < (Int32.toInt x1)) ∧ (u.2.2) = fn1) ∨ (¬ ((Int32.toInt x0) < 0 ∨ 65535 < (Int32.toInt x0) ∨ (Int32.toInt x1) < 0 ∨ 8 < (Int32.toInt x1)) ∧ (u.2.2) = (enc (cpy (zer fn1 (Int.toNat (Int32.toInt x1))) (Int.toNat (Int32.toInt x1)) fn0 0 (Int.toNat (Int32.toInt x2))) x0 ((Int.toNat (Int32.toInt x1)) + (Int.toNat (Int32.toInt x2)))).1))) (BW g (va_A [(h0, .inr (10, [.ref h1, .ref h2, .ref h5, .ref h6, .ref h7, .ref h8, .ref h9, .ref h10, .ref h11, vv0])), (h1, .inr (4, [.ref h3, .int x2])), (h2, .inr (4, [.ref h4, .int x3])), (h3, .inl (gB g, 1500, .inl fn0)), (h4, .inl (gB g, 1508, .inl fn1))] sz) (fun u : (Int32) × (Int32) × (Nat → Int32) => [(h0, .inr (10, [.ref h1, .ref h2, .ref h5, .ref h6, .ref h7, .ref h8, .ref h9, .ref h10, .ref h11, vv0])), (h1, .inr (4, [.ref h3, .int u.1])), (h2, .inr (4, [.ref h4, .int u.2.1])), (h3, .inl (gB g, 1500, .inl fn0)), (h4, .inl (gB g, 1508, .inl u.2.2))])) (va_A [(h0, .inr (10, [.ref h1, .ref h2, .ref h5, .ref h6, .ref h7, .ref h8, .ref h9, .ref h10, .ref h11, vv0])), (h1, .inr (4, [.ref h3, .int x2])), (h2, .inr (4, [.ref h4, .int x3])), (h3, .inl (gB g, 1500, .inl fn0)), (h4, .inl (gB g, 1508, .inl fn1))] sz)) 0 0 (va_A [(h0, .inr (10, [.ref h1, .ref h2, .ref h5, .ref h6, .ref h7, .ref h8, .ref h9, .ref h10, .ref h11, vv0])), (h1, .inr (4, [.ref h3, .int x2])), (h2, .inr (4, [.ref h4, .int x3])), (h3, .inl (gB g, 1500, .inl fn0)), (h4, .inl (gB g, 1508, .inl fn1))] sz) := by
  refine met_i RX11 (by decide) rfl rfl (Nat.le_of_ble_eq_true rfl) [(0, .ref h0), (1, .int x0), (2, .int x1)] rfl ?_
  intro p e s m args below meth c A Q C hnm Rt
  have gx0 := fb_rng x0
  have gx1 := fb_rng x1
  have hiX11 : ∀ w ∈ wsX110, w ∈ wsX11_cipher := fun w h => List.mem_cons_of_mem _ (List.mem_append_left _ (List.mem_append_right _ (h)))
  refine r_iload_n 0 1 C dX11_cipher_0 rfl ?_
  refine r_iload_n 1 2 C dX11_cipher_1 rfl ?_
  refine r_callSi 2 C dX11_cipher_2 [] [] [(h0, .inr (10, [.ref h1, .ref h2, .ref h5, .ref h6, .ref h7, .ref h8, .ref h9, .ref h10, .ref h11, vv0])), (h1, .inr (4, [.ref h3, .int x2])), (h2, .inr (4, [.ref h4, .int x3])), (h3, .inl (gB g, 1500, .inl fn0)), (h4, .inl (gB g, 1508, .inl fn1))] (fun sz => c12_X11_isKeyAndNumber l g x0 x1  sz) gX11_cipher_X11_isKeyAndNumber rfl ⟨rfl, rfl⟩ 2 (by decide) ⟨Nat.le_of_ble_eq_true rfl, Nat.le_of_ble_eq_true rfl⟩ [] [0, 1, 2, 3, 4] rfl rfl (by decide) (by decide) (by decide) rfl rfl (Nat.le_of_ble_eq_true rfl) ⟨Nat.le_of_ble_eq_true rfl, Nat.le_of_ble_eq_true rfl⟩ (fun r1 _ w2 => ?_)
  refine r_ws [(h0, .inr (10, [.ref h1, .ref h2, .ref h5, .ref h6, .ref h7, .ref h8, .ref h9, .ref h10, .ref h11, vv0])), (h1, .inr (4, [.ref h3, .int x2])), (h2, .inr (4, [.ref h4, .int x3])), (h3, .inl (gB g, 1500, .inl fn0)), (h4, .inl (gB g, 1508, .inl fn1))] rfl ?_
  have w3 : (((Int32.toInt x0) < 0 ∧ r1 = 0) ∨ (¬ ((Int32.toInt x0) < 0) ∧ 65535 < (Int32.toInt x0) ∧ r1 = 0) ∨ (¬ ((Int32.toInt x0) < 0) ∧ ¬ (65535 < (Int32.toInt x0)) ∧ (Int32.toInt x1) < 0 ∧ r1 = 0) ∨ (¬ ((Int32.toInt x0) < 0) ∧ ¬ (65535 < (Int32.toInt x0)) ∧ ¬ ((Int32.toInt x1) < 0) ∧ 8 < (Int32.toInt x1) ∧ r1 = 0) ∨ (¬ ((Int32.toInt x0) < 0) ∧ ¬ (65535 < (Int32.toInt x0)) ∧ ¬ ((Int32.toInt x1) < 0) ∧ ¬ (8 < (Int32.toInt x1)) ∧ r1 = 1)) := w2
  rcases w3 with ⟨k4, k5⟩ | w3
  · skip
    have k5 := k5.symm
    subst k5
    refine r_if_ne_f 5 10 C dX11_cipher_5 (by decide) (by decide) ?_
    refine r_iconst 8 (-1) C dX11_cipher_8 (by decide) ?_
    exact r_iret 9 Rt dX11_cipher_9 (x2, x3, fn1) (show -1 ≤ (Int32.toInt (-1)) ∧ (Int32.toInt (-1)) ≤ 1508 ∧ 0 ≤ (Int32.toInt x2) ∧ (Int32.toInt x2) ≤ 1500 ∧ 0 ≤ (Int32.toInt x3) ∧ (Int32.toInt x3) ≤ 1508 ∧ ((0 ≤ (Int32.toInt x0) ∧ (Int32.toInt x0) ≤ 65535 ∧ 0 ≤ (Int32.toInt x1) ∧ (Int32.toInt x1) ≤ 8 ∧ (Int32.toInt x3) = (Int32.toInt x2) + (Int32.toInt x1) ∧ (Int32.toInt x2) = 0 ∧ (-1) = (Int32.toInt x3)) ∨ (((Int32.toInt x0) < 0 ∨ 65535 < (Int32.toInt x0) ∨ (Int32.toInt x1) < 0 ∨ 8 < (Int32.toInt x1)) ∧ (Int32.toInt x3) = (Int32.toInt x3) ∧ (Int32.toInt x2) = (Int32.toInt x2) ∧ (-1) = -1)) ∧ HID ((((Int32.toInt x0) < 0 ∨ 65535 < (Int32.toInt x0) ∨ (Int32.toInt x1) < 0 ∨ 8 < (Int32.toInt x1)) ∧ fn1 = fn1) ∨ (¬ ((Int32.toInt x0) < 0 ∨ 65535 < (Int32.toInt x0) ∨ (Int32.toInt x1) < 0 ∨ 8 < (Int32.toInt x1)) ∧ fn1 = (enc (cpy (zer fn1 (Int.toNat (Int32.toInt x1))) (Int.toNat (Int32.toInt x1)) fn0 0 (Int.toNat (Int32.toInt x2))) x0 ((Int.toNat (Int32.toInt x1)) + (Int.toNat (Int32.toInt x2)))).1)) from ⟨(by ((repeat' apply And.intro) <;> first | trivial | rfl | assumption | omega | decide | exact Or.inl rfl | exact Or.inr (Or.inl rfl) | exact Or.inr (Or.inr rfl))), (by ((repeat' apply And.intro) <;> first | trivial | rfl | assumption | omega | decide | exact Or.inl rfl | exact Or.inr (Or.inl rfl) | exact Or.inr (Or.inr rfl))), i_x2.1, i_x2.2, i_x3.1, i_x3.2, (by ((repeat' apply And.intro) <;> first | trivial | rfl | assumption | omega | decide | exact Or.inl rfl | exact Or.inr (Or.inl rfl) | exact Or.inr (Or.inr rfl))), (by exact Or.inl ⟨by omega, rfl⟩)⟩) [0, 1, 2, 3, 4] (by decide) rfl (Nat.le_of_ble_eq_true rfl) (Nat.le_of_ble_eq_true rfl)
  rcases w3 with ⟨k6, k7, k8⟩ | w3
  · skip
    have k8 := k8.symm
    subst k8
    refine r_if_ne_f 5 10 C dX11_cipher_5 (by decide) (by decide) ?_
    refine r_iconst 8 (-1) C dX11_cipher_8 (by decide) ?_
    exact r_iret 9 Rt dX11_cipher_9 (x2, x3, fn1) (show -1 ≤ (Int32.toInt (-1)) ∧ (Int32.toInt (-1)) ≤ 1508 ∧ 0 ≤ (Int32.toInt x2) ∧ (Int32.toInt x2) ≤ 1500 ∧ 0 ≤ (Int32.toInt x3) ∧ (Int32.toInt x3) ≤ 1508 ∧ ((0 ≤ (Int32.toInt x0) ∧ (Int32.toInt x0) ≤ 65535 ∧ 0 ≤ (Int32.toInt x1) ∧ (Int32.toInt x1) ≤ 8 ∧ (Int32.toInt x3) = (Int32.toInt x2) + (Int32.toInt x1) ∧ (Int32.toInt x2) = 0 ∧ (-1) = (Int32.toInt x3)) ∨ (((Int32.toInt x0) < 0 ∨ 65535 < (Int32.toInt x0) ∨ (Int32.toInt x1) < 0 ∨ 8 < (Int32.toInt x1)) ∧ (Int32.toInt x3) = (Int32.toInt x3) ∧ (Int32.toInt x2) = (Int32.toInt x2) ∧ (-1) = -1)) ∧ HID ((((Int32.toInt x0) < 0 ∨ 65535 < (Int32.toInt x0) ∨ (Int32.toInt x1) < 0 ∨ 8 < (Int32.toInt x1)) ∧ fn1 = fn1) ∨ (¬ ((Int32.toInt x0) < 0 ∨ 65535 < (Int32.toInt x0) ∨ (Int32.toInt x1) < 0 ∨ 8 < (Int32.toInt x1)) ∧ fn1 = (enc (cpy (zer fn1 (Int.toNat (Int32.toInt x1))) (Int.toNat (Int32.toInt x1)) fn0 0 (Int.toNat (Int32.toInt x2))) x0 ((Int.toNat (Int32.toInt x1)) + (Int.toNat (Int32.toInt x2)))).1)) from ⟨(by ((repeat' apply And.intro) <;> first | trivial | rfl | assumption | omega | decide | exact Or.inl rfl | exact Or.inr (Or.inl rfl) | exact Or.inr (Or.inr rfl))), (by ((repeat' apply And.intro) <;> first | trivial | rfl | assumption | omega | decide | exact Or.inl rfl | exact Or.inr (Or.inl rfl) | exact Or.inr (Or.inr rfl))), i_x2.1, i_x2.2, i_x3.1, i_x3.2, (by ((repeat' apply And.intro) <;> first | trivial | rfl | assumption | omega | decide | exact Or.inl rfl | exact Or.inr (Or.inl rfl) | exact Or.inr (Or.inr rfl))), (by exact Or.inl ⟨by omega, rfl⟩)⟩) [0, 1, 2, 3, 4] (by decide) rfl (Nat.le_of_ble_eq_true rfl) (Nat.le_of_ble_eq_true rfl)
  rcases w3 with ⟨k9, k10, k11, k12⟩ | w3
  · skip
    have k12 := k12.symm
    subst k12
    refine r_if_ne_f 5 10 C dX11_cipher_5 (by decide) (by decide) ?_
    refine r_iconst 8 (-1) C dX11_cipher_8 (by decide) ?_
    exact r_iret 9 Rt dX11_cipher_9 (x2, x3, fn1) (show -1 ≤ (Int32.toInt (-1)) ∧ (Int32.toInt (-1)) ≤ 1508 ∧ 0 ≤ (Int32.toInt x2) ∧ (Int32.toInt x2) ≤ 1500 ∧ 0 ≤ (Int32.toInt x3) ∧ (Int32.toInt x3) ≤ 1508 ∧ ((0 ≤ (Int32.toInt x0) ∧ (Int32.toInt x0) ≤ 65535 ∧ 0 ≤ (Int32.toInt x1) ∧ (Int32.toInt x1) ≤ 8 ∧ (Int32.toInt x3) = (Int32.toInt x2) + (Int32.toInt x1) ∧ (Int32.toInt x2) = 0 ∧ (-1) = (Int32.toInt x3)) ∨ (((Int32.toInt x0) < 0 ∨ 65535 < (Int32.toInt x0) ∨ (Int32.toInt x1) < 0 ∨ 8 < (Int32.toInt x1)) ∧ (Int32.toInt x3) = (Int32.toInt x3) ∧ (Int32.toInt x2) = (Int32.toInt x2) ∧ (-1) = -1)) ∧ HID ((((Int32.toInt x0) < 0 ∨ 65535 < (Int32.toInt x0) ∨ (Int32.toInt x1) < 0 ∨ 8 < (Int32.toInt x1)) ∧ fn1 = fn1) ∨ (¬ ((Int32.toInt x0) < 0 ∨ 65535 < (Int32.toInt x0) ∨ (Int32.toInt x1) < 0 ∨ 8 < (Int32.toInt x1)) ∧ fn1 = (enc (cpy (zer fn1 (Int.toNat (Int32.toInt x1))) (Int.toNat (Int32.toInt x1)) fn0 0 (Int.toNat (Int32.toInt x2))) x0 ((Int.toNat (Int32.toInt x1)) + (Int.toNat (Int32.toInt x2)))).1)) from ⟨(by ((repeat' apply And.intro) <;> first | trivial | rfl | assumption | omega | decide | exact Or.inl rfl | exact Or.inr (Or.inl rfl) | exact Or.inr (Or.inr rfl))), (by ((repeat' apply And.intro) <;> first | trivial | rfl | assumption | omega | decide | exact Or.inl rfl | exact Or.inr (Or.inl rfl) | exact Or.inr (Or.inr rfl))), i_x2.1, i_x2.2, i_x3.1, i_x3.2, (by ((repeat' apply And.intro) <;> first | trivial | rfl | assumption | omega | decide | exact Or.inl rfl | exact Or.inr (Or.inl rfl) | exact Or.inr (Or.inr rfl))), (by exact Or.inl ⟨by omega, rfl⟩)⟩) [0, 1, 2, 3, 4] (by decide) rfl (Nat.le_of_ble_eq_true rfl) (Nat.le_of_ble_eq_true rfl)
  rcases w3 with ⟨k13, k14, k15, k16, k17⟩ | w3
  · skip
    have k17 := k17.symm
    subst k17
    refine r_if_ne_f 5 10 C dX11_cipher_5 (by decide) (by decide) ?_
    refine r_iconst 8 (-1) C dX11_cipher_8 (by decide) ?_
    exact r_iret 9 Rt dX11_cipher_9 (x2, x3, fn1) (show -1 ≤ (Int32.toInt (-1)) ∧ (Int32.toInt (-1)) ≤ 1508 ∧ 0 ≤ (Int32.toInt x2) ∧ (Int32.toInt x2) ≤ 1500 ∧ 0 ≤ (Int32.toInt x3) ∧ (Int32.toInt x3) ≤ 1508 ∧ ((0 ≤ (Int32.toInt x0) ∧ (Int32.toInt x0) ≤ 65535 ∧ 0 ≤ (Int32.toInt x1) ∧ (Int32.toInt x1) ≤ 8 ∧ (Int32.toInt x3) = (Int32.toInt x2) + (Int32.toInt x1) ∧ (Int32.toInt x2) = 0 ∧ (-1) = (Int32.toInt x3)) ∨ (((Int32.toInt x0) < 0 ∨ 65535 < (Int32.toInt x0) ∨ (Int32.toInt x1) < 0 ∨ 8 < (Int32.toInt x1)) ∧ (Int32.toInt x3) = (Int32.toInt x3) ∧ (Int32.toInt x2) = (Int32.toInt x2) ∧ (-1) = -1)) ∧ HID ((((Int32.toInt x0) < 0 ∨ 65535 < (Int32.toInt x0) ∨ (Int32.toInt x1) < 0 ∨ 8 < (Int32.toInt x1)) ∧ fn1 = fn1) ∨ (¬ ((Int32.toInt x0) < 0 ∨ 65535 < (Int32.toInt x0) ∨ (Int32.toInt x1) < 0 ∨ 8 < (Int32.toInt x1)) ∧ fn1 = (enc (cpy (zer fn1 (Int.toNat (Int32.toInt x1))) (Int.toNat (Int32.toInt x1)) fn0 0 (Int.toNat (Int32.toInt x2))) x0 ((Int.toNat (Int32.toInt x1)) + (Int.toNat (Int32.toInt x2)))).1)) from ⟨(by ((repeat' apply And.intro) <;> first | trivial | rfl | assumption | omega | decide | exact Or.inl rfl | exact Or.inr (Or.inl rfl) | exact Or.inr (Or.inr rfl))), (by ((repeat' apply And.intro) <;> first | trivial | rfl | assumption | omega | decide | exact Or.inl rfl | exact Or.inr (Or.inl rfl) | exact Or.inr (Or.inr rfl))), i_x2.1, i_x2.2, i_x3.1, i_x3.2, (by ((repeat' apply And.intro) <;> first | trivial | rfl | assumption | omega | decide | exact Or.inl rfl | exact Or.inr (Or.inl rfl) | exact Or.inr (Or.inr rfl))), (by exact Or.inl ⟨by omega, rfl⟩)⟩) [0, 1, 2, 3, 4] (by decide) rfl (Nat.le_of_ble_eq_true rfl) (Nat.le_of_ble_eq_true rfl)
  obtain ⟨k18, k19, k20, k21, k22⟩ := w3
  have k22 := k22.symm
  subst k22
  refine r_if_ne_t 5 10 C dX11_cipher_5 (by decide) (by decide) ?_
  refine r_aload_n 10 0 C dX11_cipher_10 rfl ?_
  refine r_get 11 C dX11_cipher_11 (k := 1) 0 rfl rfl hiX11 (by decide) rfl (mg 1 rfl) (Or.inl rfl) rfl ?_
  refine r_iconst 14 0 C dX11_cipher_14 (by decide) ?_
  refine r_callVv 15 C dX11_cipher_15 [] [(h2, .inr (4, [.ref h4, .int x3]))] [(h0, .inr (10, [.ref h1, .ref h2, .ref h5, .ref h6, .ref h7, .ref h8, .ref h9, .ref h10, .ref h11, vv0])), (h1, .inr (4, [.ref h3, .int x2])), (h3, .inl (gB g, 1500, .inl fn0)), (h4, .inl (gB g, 1508, .inl fn1))] (fun sz => c13_X5_cut l g h2 0 h4 x3 i_x3 sz) gX11_cipher_X5_cut rfl ⟨rfl, rfl⟩ 1 (by decide) ⟨Nat.le_of_ble_eq_true rfl, Nat.le_of_ble_eq_true rfl⟩ 2 rfl rfl [2] [0, 1, 3, 4] rfl rfl (by decide) (by decide) (by decide) rfl rfl (Nat.le_of_ble_eq_true rfl) ⟨Nat.le_of_ble_eq_true rfl, Nat.le_of_ble_eq_true rfl⟩ (fun  z23 w24 => ?_)
  refine r_ws [(h0, .inr (10, [.ref h1, .ref h2, .ref h5, .ref h6, .ref h7, .ref h8, .ref h9, .ref h10, .ref h11, vv0])), (h1, .inr (4, [.ref h3, .int x2])), (h3, .inl (gB g, 1500, .inl fn0)), (h4, .inl (gB g, 1508, .inl fn1)), (h2, .inr (4, [.ref h4, .int z23]))] rfl ?_
  have p25 : 0 ≤ (Int32.toInt z23) := w24.2.1
  have p26 : (Int32.toInt z23) ≤ 1508 := w24.2.2
  have w27 : (((0 : Int) < 0 ∧ (Int32.toInt z23) = (Int32.toInt x3)) ∨ (¬ ((0 : Int) < 0) ∧ (Int32.toInt x3) < (0 : Int) ∧ (Int32.toInt z23) = (Int32.toInt x3)) ∨ (¬ ((0 : Int) < 0) ∧ ¬ ((Int32.toInt x3) < (0 : Int)) ∧ (Int32.toInt z23) = (0 : Int))) := w24.1
  rcases w27 with ⟨k28, k29⟩ | w27
  · skip
    exact absurd trivial (by omega)
  rcases w27 with ⟨k30, k31, k32⟩ | w27
  · skip
    exact absurd trivial (by omega)
  obtain ⟨k33, k34, k35⟩ := w27
  refine r_iconst 18 0 C dX11_cipher_18 (by decide) ?_
  refine r_istore_n 19 C dX11_cipher_19 [(3, .int 0), (0, .ref h0), (1, .int x0), (2, .int x1)] (by decide) rfl ?_
  have lp40 : ∀ (n39 : Nat) (z36 : Int32) (f37 : Nat → Int32) (z38 : Int32), (0 ≤ (Int32.toInt z36) ∧ (Int32.toInt z36) ≤ 8) → (0 ≤ (Int32.toInt z38) ∧ (Int32.toInt z38) ≤ 1508) → ((Int32.toInt z38) = (Int32.toInt z36) ∧ (Int32.toInt z36) ≤ (Int32.toInt x1)) → ((f37 = zer fn1 (Int.toNat (Int32.toInt z36)))) → Int.toNat (8 - (Int32.toInt z36)) < n39 → WW p l e ({ frames := 2, cells := 0, slots := 0, locals := 45 } : Room) s m args below meth c A Q g 4 0 0 [(h0, .inr (10, [.ref h1, .ref h2, .ref h5, .ref h6, .ref h7, .ref h8, .ref h9, .ref h10, .ref h11, vv0])), (h1, .inr (4, [.ref h3, .int x2])), (h3, .inl (gB g, 1500, .inl fn0)), (h4, .inl (gB g, 1508, .inl f37)), (h2, .inr (4, [.ref h4, .int z38]))] 20 [(3, .int z36), (0, .ref h0), (1, .int x0), (2, .int x1)] [] := by
    intro n39
    induction n39 with
    | zero => intro z36 f37 z38 i43 i44 j45 j46 hm42; exact absurd hm42 (Nat.not_lt_zero _)
    | succ n39 ih41 =>
      intro z36 f37 z38 i43 i44 j45 j46 hm42
      obtain ⟨i43a, i43b⟩ := i43
      obtain ⟨i44a, i44b⟩ := i44
      refine r_iload_n 20 0 C dX11_cipher_20 rfl ?_
      refine r_iload_n 21 3 C dX11_cipher_21 rfl ?_
      refine r_icmp_ge 22 39 C dX11_cipher_22 (by decide) (fun c47 => ?_) (fun c47 => ?_)
      · skip
        have k48 : (Int32.toInt x1) ≤ (Int32.toInt z36) := (fa_le x1 z36).mp c47
        refine r_aload_n 39 1 C dX11_cipher_39 rfl ?_
        refine r_get 40 C dX11_cipher_40 (k := 1) 0 rfl rfl hiX11 (by decide) rfl (mg 1 rfl) (Or.inl rfl) rfl ?_
        refine r_aload_n 43 1 C dX11_cipher_43 rfl ?_
        refine r_get 44 C dX11_cipher_44 (k := 0) 0 rfl rfl hiX11 (by decide) rfl (mg 2 rfl) (Or.inl rfl) rfl ?_
        refine r_iconst 47 0 C dX11_cipher_47 (by decide) ?_
        refine r_callVv 48 C dX11_cipher_48 [] [(h2, .inr (4, [.ref h4, .int z38])), (h1, .inr (4, [.ref h3, .int x2])), (h4, .inl (gB g, 1508, .inl f37)), (h3, .inl (gB g, 1500, .inl fn0))] [(h0, .inr (10, [.ref h1, .ref h2, .ref h5, .ref h6, .ref h7, .ref h8, .ref h9, .ref h10, .ref h11, vv0]))] (fun sz => c16_X5_addAll l g h2 h1 h4 h3 0 z38 x2 f37 fn0 ⟨i44a, i44b⟩ i_x2 sz) gX11_cipher_X5_addAll rfl ⟨rfl, rfl⟩ 2 (by decide) ⟨Nat.le_of_ble_eq_true rfl, Nat.le_of_ble_eq_true rfl⟩ 4 rfl rfl [4, 1, 3, 2] [0] rfl rfl (by decide) (by decide) (by decide) rfl rfl (Nat.le_of_ble_eq_true rfl) ⟨Nat.le_of_ble_eq_true rfl, Nat.le_of_ble_eq_true rfl⟩ (fun  u52 w51 => ?_)
        obtain ⟨z49, f50⟩ := u52
        refine r_ws [(h0, .inr (10, [.ref h1, .ref h2, .ref h5, .ref h6, .ref h7, .ref h8, .ref h9, .ref h10, .ref h11, vv0])), (h2, .inr (4, [.ref h4, .int z49])), (h1, .inr (4, [.ref h3, .int x2])), (h4, .inl (gB g, 1508, .inl f50)), (h3, .inl (gB g, 1500, .inl fn0))] rfl ?_
        have p53 : 0 ≤ (Int32.toInt z49) := w51.1
        have p54 : (Int32.toInt z49) ≤ 1508 := w51.2.1
        have p55 : (((0 : Int) ≤ 0 ∧ (((Int32.toInt x2) ≤ 0 ∧ (Int32.toInt z49) = (Int32.toInt z38)) ∨ (0 < (Int32.toInt x2) ∧ (Int32.toInt z38) + (Int32.toInt x2) ≤ 1508 ∧ (Int32.toInt z49) = (Int32.toInt z38) + (Int32.toInt x2)) ∨ 1508 < (Int32.toInt z38) + (Int32.toInt x2))) ∨ (0 ≤ (0 : Int) ∧ (((Int32.toInt x2) ≤ (0 : Int) ∧ (Int32.toInt z49) = (Int32.toInt z38)) ∨ ((0 : Int) < (Int32.toInt x2) ∧ (Int32.toInt z38) + (Int32.toInt x2) - (0 : Int) ≤ 1508 ∧ (Int32.toInt z49) = (Int32.toInt z38) + (Int32.toInt x2) - (0 : Int)) ∨ 1508 < (Int32.toInt z38) + (Int32.toInt x2) - (0 : Int)))) := w51.2.2.1
        have p56 : HID (1508 < (Int32.toInt z38) + (Int32.toInt x2) ∨ f50 = cpy f37 (Int.toNat (Int32.toInt z38)) fn0 (Int.toNat (0 : Int)) ((Int.toNat (Int32.toInt x2)) - (Int.toNat (0 : Int)))) := w51.2.2.2
        refine r_aload_n 51 1 C dX11_cipher_51 rfl ?_
        refine r_get 52 C dX11_cipher_52 (k := 1) 0 rfl rfl hiX11 (by decide) rfl (mg 1 rfl) (Or.inl rfl) rfl ?_
        refine r_iload_n 55 2 C dX11_cipher_55 rfl ?_
        refine r_callVv 56 C dX11_cipher_56 [] [(h2, .inr (4, [.ref h4, .int z49])), (h4, .inl (gB g, 1508, .inl f50))] [(h0, .inr (10, [.ref h1, .ref h2, .ref h5, .ref h6, .ref h7, .ref h8, .ref h9, .ref h10, .ref h11, vv0])), (h1, .inr (4, [.ref h3, .int x2])), (h3, .inl (gB g, 1500, .inl fn0))] (fun sz => c18_X5_encipher l g h2 h4 x0 z49 f50 ⟨p53, p54⟩ sz) gX11_cipher_X5_encipher rfl ⟨rfl, rfl⟩ 1 (by decide) ⟨Nat.le_of_ble_eq_true rfl, Nat.le_of_ble_eq_true rfl⟩ 1 rfl rfl [1, 3] [0, 2, 4] rfl rfl (by decide) (by decide) (by decide) rfl rfl (Nat.le_of_ble_eq_true rfl) ⟨Nat.le_of_ble_eq_true rfl, Nat.le_of_ble_eq_true rfl⟩ (fun  f57 w58 => ?_)
        refine r_ws [(h0, .inr (10, [.ref h1, .ref h2, .ref h5, .ref h6, .ref h7, .ref h8, .ref h9, .ref h10, .ref h11, vv0])), (h1, .inr (4, [.ref h3, .int x2])), (h3, .inl (gB g, 1500, .inl fn0)), (h2, .inr (4, [.ref h4, .int z49])), (h4, .inl (gB g, 1508, .inl f57))] rfl ?_
        have p59 : (f57 = (enc f50 x0 (Int.toNat (Int32.toInt z49))).1) := w58
        refine r_aload_n 59 1 C dX11_cipher_59 rfl ?_
        refine r_get 60 C dX11_cipher_60 (k := 0) 0 rfl rfl hiX11 (by decide) rfl (mg 2 rfl) (Or.inl rfl) rfl ?_
        refine r_iconst 63 0 C dX11_cipher_63 (by decide) ?_
        refine r_callVv 64 C dX11_cipher_64 [] [(h1, .inr (4, [.ref h3, .int x2]))] [(h0, .inr (10, [.ref h1, .ref h2, .ref h5, .ref h6, .ref h7, .ref h8, .ref h9, .ref h10, .ref h11, vv0])), (h3, .inl (gB g, 1500, .inl fn0)), (h2, .inr (4, [.ref h4, .int z49])), (h4, .inl (gB g, 1508, .inl f57))] (fun sz => c4_X5_cut l g h1 0 h3 x2 i_x2 sz) gX11_cipher_X5_cut rfl ⟨rfl, rfl⟩ 1 (by decide) ⟨Nat.le_of_ble_eq_true rfl, Nat.le_of_ble_eq_true rfl⟩ 1 rfl rfl [1] [0, 2, 3, 4] rfl rfl (by decide) (by decide) (by decide) rfl rfl (Nat.le_of_ble_eq_true rfl) ⟨Nat.le_of_ble_eq_true rfl, Nat.le_of_ble_eq_true rfl⟩ (fun  z60 w61 => ?_)
        refine r_ws [(h0, .inr (10, [.ref h1, .ref h2, .ref h5, .ref h6, .ref h7, .ref h8, .ref h9, .ref h10, .ref h11, vv0])), (h3, .inl (gB g, 1500, .inl fn0)), (h2, .inr (4, [.ref h4, .int z49])), (h4, .inl (gB g, 1508, .inl f57)), (h1, .inr (4, [.ref h3, .int z60]))] rfl ?_
        have p62 : 0 ≤ (Int32.toInt z60) := w61.2.1
        have p63 : (Int32.toInt z60) ≤ 1500 := w61.2.2
        have w64 : (((0 : Int) < 0 ∧ (Int32.toInt z60) = (Int32.toInt x2)) ∨ (¬ ((0 : Int) < 0) ∧ (Int32.toInt x2) < (0 : Int) ∧ (Int32.toInt z60) = (Int32.toInt x2)) ∨ (¬ ((0 : Int) < 0) ∧ ¬ ((Int32.toInt x2) < (0 : Int)) ∧ (Int32.toInt z60) = (0 : Int))) := w61.1
        rcases w64 with ⟨k65, k66⟩ | w64
        · skip
          exact absurd trivial (by omega)
        rcases w64 with ⟨k67, k68, k69⟩ | w64
        · skip
          exact absurd trivial (by omega)
        obtain ⟨k70, k71, k72⟩ := w64
        refine r_aload_n 67 1 C dX11_cipher_67 rfl ?_
        refine r_get 68 C dX11_cipher_68 (k := 1) 0 rfl rfl hiX11 (by decide) rfl (mg 1 rfl) (Or.inl rfl) rfl ?_
        refine r_callVi 71 C dX11_cipher_71 [] [(h2, .inr (4, [.ref h4, .int z49]))] [(h0, .inr (10, [.ref h1, .ref h2, .ref h5, .ref h6, .ref h7, .ref h8, .ref h9, .ref h10, .ref h11, vv0])), (h3, .inl (gB g, 1500, .inl fn0)), (h4, .inl (gB g, 1508, .inl f57)), (h1, .inr (4, [.ref h3, .int z60]))] (fun sz => c19_X5_size l g h2 h4 z49 ⟨p53, p54⟩ sz) gX11_cipher_X5_size rfl ⟨rfl, rfl⟩ 0 (by decide) ⟨Nat.le_of_ble_eq_true rfl, Nat.le_of_ble_eq_true rfl⟩ 2 rfl rfl [2] [0, 1, 3, 4] rfl rfl (by decide) (by decide) (by decide) rfl rfl (Nat.le_of_ble_eq_true rfl) ⟨Nat.le_of_ble_eq_true rfl, Nat.le_of_ble_eq_true rfl⟩ (fun r73 _ w74 => ?_)
        refine r_ws [(h0, .inr (10, [.ref h1, .ref h2, .ref h5, .ref h6, .ref h7, .ref h8, .ref h9, .ref h10, .ref h11, vv0])), (h3, .inl (gB g, 1500, .inl fn0)), (h4, .inl (gB g, 1508, .inl f57)), (h1, .inr (4, [.ref h3, .int z60])), (h2, .inr (4, [.ref h4, .int z49]))] rfl ?_
        have p75 : z49 = r73 := (w74).symm
        subst p75
        exact r_iret 74 Rt dX11_cipher_74 (z60, z49, f57) (show -1 ≤ (Int32.toInt z49) ∧ (Int32.toInt z49) ≤ 1508 ∧ 0 ≤ (Int32.toInt z60) ∧ (Int32.toInt z60) ≤ 1500 ∧ 0 ≤ (Int32.toInt z49) ∧ (Int32.toInt z49) ≤ 1508 ∧ ((0 ≤ (Int32.toInt x0) ∧ (Int32.toInt x0) ≤ 65535 ∧ 0 ≤ (Int32.toInt x1) ∧ (Int32.toInt x1) ≤ 8 ∧ (Int32.toInt z49) = (Int32.toInt x2) + (Int32.toInt x1) ∧ (Int32.toInt z60) = 0 ∧ (Int32.toInt z49) = (Int32.toInt z49)) ∨ (((Int32.toInt x0) < 0 ∨ 65535 < (Int32.toInt x0) ∨ (Int32.toInt x1) < 0 ∨ 8 < (Int32.toInt x1)) ∧ (Int32.toInt z49) = (Int32.toInt x3) ∧ (Int32.toInt z60) = (Int32.toInt x2) ∧ (Int32.toInt z49) = -1)) ∧ HID ((((Int32.toInt x0) < 0 ∨ 65535 < (Int32.toInt x0) ∨ (Int32.toInt x1) < 0 ∨ 8 < (Int32.toInt x1)) ∧ f57 = fn1) ∨ (¬ ((Int32.toInt x0) < 0 ∨ 65535 < (Int32.toInt x0) ∨ (Int32.toInt x1) < 0 ∨ 8 < (Int32.toInt x1)) ∧ f57 = (enc (cpy (zer fn1 (Int.toNat (Int32.toInt x1))) (Int.toNat (Int32.toInt x1)) fn0 0 (Int.toNat (Int32.toInt x2))) x0 ((Int.toNat (Int32.toInt x1)) + (Int.toNat (Int32.toInt x2)))).1)) from ⟨(iv_wide (c := (-1)) (d := 1508) ⟨p53, p54⟩ (by decide) (by decide)).1, (show _ ∧ _ from ⟨p53, p54⟩).2, (show _ ∧ _ from ⟨p62, p63⟩).1, (show _ ∧ _ from ⟨p62, p63⟩).2, (show _ ∧ _ from ⟨p53, p54⟩).1, (show _ ∧ _ from ⟨p53, p54⟩).2, (by ((repeat' apply And.intro) <;> first | trivial | rfl | assumption | omega | decide | exact Or.inl rfl | exact Or.inr (Or.inl rfl) | exact Or.inr (Or.inr rfl))), (by exact Or.inr ⟨by omega, ciph_pf (by assumption) (p56.resolve_left (by omega)) p59 (by omega) (by omega) (by omega) (by omega) (by omega)⟩)⟩) [0, 3, 4, 1, 2] (by decide) rfl (Nat.le_of_ble_eq_true rfl) (Nat.le_of_ble_eq_true rfl)
      · skip
        have k76 : ¬ ((Int32.toInt x1) ≤ (Int32.toInt z36)) := fun h_9 => c47 ((fa_le x1 z36).mpr h_9)
        refine r_aload_n 25 1 C dX11_cipher_25 rfl ?_
        refine r_get 26 C dX11_cipher_26 (k := 1) 0 rfl rfl hiX11 (by decide) rfl (mg 1 rfl) (Or.inl rfl) rfl ?_
        refine r_iconst 29 0 C dX11_cipher_29 (by decide) ?_
        refine r_callVv 30 C dX11_cipher_30 [] [(h2, .inr (4, [.ref h4, .int z38])), (h4, .inl (gB g, 1508, .inl f37))] [(h0, .inr (10, [.ref h1, .ref h2, .ref h5, .ref h6, .ref h7, .ref h8, .ref h9, .ref h10, .ref h11, vv0])), (h1, .inr (4, [.ref h3, .int x2])), (h3, .inl (gB g, 1500, .inl fn0))] (fun sz => c15_X5_add l g h2 h4 0 z38 f37 ⟨i44a, i44b⟩ sz) gX11_cipher_X5_add rfl ⟨rfl, rfl⟩ 1 (by decide) ⟨Nat.le_of_ble_eq_true rfl, Nat.le_of_ble_eq_true rfl⟩ 4 rfl rfl [4, 3] [0, 1, 2] rfl rfl (by decide) (by decide) (by decide) rfl rfl (Nat.le_of_ble_eq_true rfl) ⟨Nat.le_of_ble_eq_true rfl, Nat.le_of_ble_eq_true rfl⟩ (fun  u80 w79 => ?_)
        obtain ⟨z77, f78⟩ := u80
        refine r_ws [(h0, .inr (10, [.ref h1, .ref h2, .ref h5, .ref h6, .ref h7, .ref h8, .ref h9, .ref h10, .ref h11, vv0])), (h1, .inr (4, [.ref h3, .int x2])), (h3, .inl (gB g, 1500, .inl fn0)), (h2, .inr (4, [.ref h4, .int z77])), (h4, .inl (gB g, 1508, .inl f78))] rfl ?_
        have p81 : 0 ≤ (Int32.toInt z77) := w79.2.1
        have p82 : (Int32.toInt z77) ≤ 1508 := w79.2.2.1
        have p83 : HID (1508 ≤ (Int32.toInt z38) ∨ f78 = upd f37 (Int.toNat (Int32.toInt z38)) (st8 0)) := w79.2.2.2
        have w84 : ((1508 ≤ (Int32.toInt z38) ∧ (Int32.toInt z77) = (Int32.toInt z38)) ∨ (¬ (1508 ≤ (Int32.toInt z38)) ∧ (Int32.toInt z77) = (Int32.toInt z38) + 1)) := w79.1
        rcases w84 with ⟨k85, k86⟩ | w84
        · skip
          obtain ⟨z87, ez87⟩ : ∃ z_9, z36 + Int32.ofInt 1 = z_9 := ⟨_, rfl⟩
          have tz87 : (Int32.toInt z87) = (Int32.toInt z36) + 1 := by rw [← ez87]; exact fb_addIv (a := 0) (b := 8) (c := 1) (d := 1) ⟨i43a, i43b⟩ ⟨by decide, by decide⟩ (by decide) (by decide)
          refine r_iinc 33 0 z87 C dX11_cipher_33 rfl ez87 [(3, .int z87), (0, .ref h0), (1, .int x0), (2, .int x1)] (by decide) rfl ?_
          refine r_goto 36 20 C dX11_cipher_36 (by decide) ?_
          refine r_pick [(h0, .inr (10, [.ref h1, .ref h2, .ref h5, .ref h6, .ref h7, .ref h8, .ref h9, .ref h10, .ref h11, vv0])), (h1, .inr (4, [.ref h3, .int x2])), (h3, .inl (gB g, 1500, .inl fn0)), (h4, .inl (gB g, 1508, .inl f78)), (h2, .inr (4, [.ref h4, .int z77]))] [0, 1, 2, 4, 3] (by decide) rfl ?_
          exact ih41 z87 f78 z77 ⟨by omega, by omega⟩ ⟨p81, p82⟩ (by show (Int32.toInt z77) = (Int32.toInt z87) ∧ (Int32.toInt z87) ≤ (Int32.toInt x1); omega) (zer_step (show (f37 = zer fn1 (Int.toNat (Int32.toInt z36))) by assumption) (by omega) (by omega) (p83.resolve_left (by omega))) (by omega)
        obtain ⟨k88, k89⟩ := w84
        obtain ⟨z90, ez90⟩ : ∃ z_9, z36 + Int32.ofInt 1 = z_9 := ⟨_, rfl⟩
        have tz90 : (Int32.toInt z90) = (Int32.toInt z36) + 1 := by rw [← ez90]; exact fb_addIv (a := 0) (b := 8) (c := 1) (d := 1) ⟨i43a, i43b⟩ ⟨by decide, by decide⟩ (by decide) (by decide)
        refine r_iinc 33 0 z90 C dX11_cipher_33 rfl ez90 [(3, .int z90), (0, .ref h0), (1, .int x0), (2, .int x1)] (by decide) rfl ?_
        refine r_goto 36 20 C dX11_cipher_36 (by decide) ?_
        refine r_pick [(h0, .inr (10, [.ref h1, .ref h2, .ref h5, .ref h6, .ref h7, .ref h8, .ref h9, .ref h10, .ref h11, vv0])), (h1, .inr (4, [.ref h3, .int x2])), (h3, .inl (gB g, 1500, .inl fn0)), (h4, .inl (gB g, 1508, .inl f78)), (h2, .inr (4, [.ref h4, .int z77]))] [0, 1, 2, 4, 3] (by decide) rfl ?_
        exact ih41 z90 f78 z77 ⟨by omega, by omega⟩ ⟨p81, p82⟩ (by show (Int32.toInt z77) = (Int32.toInt z90) ∧ (Int32.toInt z90) ≤ (Int32.toInt x1); omega) (zer_step (show (f37 = zer fn1 (Int.toNat (Int32.toInt z36))) by assumption) (by omega) (by omega) (p83.resolve_left (by omega))) (by omega)
  exact lp40 _ 0 fn1 z23 (by decide) ⟨p25, p26⟩ (by show (Int32.toInt z23) = 0 ∧ 0 ≤ (Int32.toInt x1); omega) rfl (Nat.lt_succ_self _)
set_option maxHeartbeats 4000000 in
set_option maxRecDepth 100000 in
theorem c21_X5_decipher (l : Launch) (g : GD) (h0 : Nat) (h1 : Nat) (x0 : Int32) (x1 : Int32) (x2 : Int32) (x3 : Int32) (fn0 : Nat → Int32) (i_x3 : (0 ≤ (Int32.toInt x3) ∧ (Int32.toInt x3) ≤ 1500)) (sz : Nat) : Met l yX5_decipher wsX5_decipher ({ frames := 1, cells := 0, slots := 0, locals := 21 }) (va_Pc [.ref h0, .int x0, .int x1, .int x2] (PW g [(h0, .inr (4, [.ref h1, .int x3])), (h1, .inl (gB g, 1500, .inl fn0))] sz)) (va_Qv (fun (u : (Nat → Int32)) => HID (¬ ((Int32.toInt x1) = 0) ∨ ¬ ((Int32.toInt x2) = (Int32.toInt x3)) ∨ u = (dec fn0 x0 (Int.toNat (Int32.toInt x3))).1) ∧ KPT fn0 u (Int32.toInt x2) ∧ CND (0 ≤ (Int32.toInt x1) ∧ (Int32.toInt x1) ≤ (Int32.toInt x2) ∧ (Int32.toInt x2) ≤ (Int32.toInt x3)) (u = (decF fn0 x0 (Int.toNat (Int32.toInt x1)) (Int.toNat ((Int32.toInt x2) - (Int32.toInt x1)))).1)) (BW g (va_A [(h0, .inr (4, [.ref h1, .int x3])), (h1, .inl (gB g, 1500, .inl fn0))] sz) (fun u : (Nat → Int32) => [(h0, .inr (4, [.ref h1, .int x3])), (h1, .inl (gB g, 1500, .inl u))])) (va_A [(h0, .inr (4, [.ref h1, .int x3])), (h1, .inl (gB g, 1500, .inl fn0))] sz)) 0 0 (va_A [(h0, .inr (4, [.ref h1, .int x3])), (h1, .inl (gB g, 1500, .inl fn0))] sz) := by
  refine met_v RX5 (by decide) rfl rfl (Nat.le_of_ble_eq_true rfl) [(0, .ref h0), (1, .int x0), (2, .int x1), (3, .int x2)] rfl ?_
  intro p e s m args below meth c A Q C hnm Rt
  have gx1 := fb_rng x1
  have gx2 := fb_rng x2
  have hiX5 : ∀ w ∈ wsX50, w ∈ wsX5_decipher := fun w h => List.mem_cons_of_mem _ (List.mem_append_right _ (h))
  refine r_iload_n 0 1 C dX5_decipher_0 rfl ?_
  refine r_istore 1 C dX5_decipher_1 [(4, .int x0), (0, .ref h0), (1, .int x0), (2, .int x1), (3, .int x2)] (by decide) rfl ?_
  refine r_iload_n 3 3 C dX5_decipher_3 rfl ?_
  refine r_iconst 4 0 C dX5_decipher_4 (by decide) ?_
  obtain ⟨z1, ez1⟩ : ∃ z_9, (if x1 < 0 then 0 else x1) = z_9 := ⟨_, rfl⟩
  have tz1 : ((Int32.toInt x1) < 0 ∧ (Int32.toInt z1) = 0) ∨ (¬ ((Int32.toInt x1) < 0) ∧ (Int32.toInt z1) = (Int32.toInt x1)) := by rw [← ez1]; exact mx_or x1 0 0 x1
  refine r_mmax 5 z1 C dX5_decipher_5 (mg 1 rfl) (mg 2 rfl) (mg 3 rfl) (mg 4 rfl) (Nat.le_of_ble_eq_true rfl) (Nat.le_of_ble_eq_true rfl) (Nat.le_of_ble_eq_true rfl) (Nat.le_of_ble_eq_true rfl) ez1 ?_
  refine r_istore 8 C dX5_decipher_8 [(5, .int z1), (4, .int x0), (0, .ref h0), (1, .int x0), (2, .int x1), (3, .int x2)] (by decide) rfl ?_
  have lp6 : ∀ (n5 : Nat) (z2 : Int32) (z3 : Int32) (f4 : Nat → Int32), (0 ≤ (Int32.toInt z2) ∧ (Int32.toInt z2) ≤ 2147483647) → (¬ ((Int32.toInt x1) = 0) ∨ (Int32.toInt z2) ≤ (Int32.toInt x3)) → (HID (¬ ((Int32.toInt x1) = 0) ∨ (f4 = (dec fn0 x0 (Int.toNat (Int32.toInt z2))).1 ∧ z3 = (dec fn0 x0 (Int.toNat (Int32.toInt z2))).2))) → (KPT fn0 f4 (Int32.toInt x2)) → (((Int32.toInt x1) ≤ (Int32.toInt z2) ∧ (¬ (0 ≤ (Int32.toInt x1) ∧ (Int32.toInt x1) ≤ (Int32.toInt x2)) ∨ (Int32.toInt z2) ≤ (Int32.toInt x2)))) → (HID ((Int32.toInt x1) < 0 ∨ (f4 = (decF fn0 x0 (Int.toNat (Int32.toInt x1)) (Int.toNat ((Int32.toInt z2) - (Int32.toInt x1)))).1 ∧ z3 = (decF fn0 x0 (Int.toNat (Int32.toInt x1)) (Int.toNat ((Int32.toInt z2) - (Int32.toInt x1)))).2))) → Int.toNat (2147483647 - (Int32.toInt z2)) < n5 → WW p l e ({ frames := 1, cells := 0, slots := 0, locals := 21 } : Room) s m args below meth c A Q g 7 0 0 [(h0, .inr (4, [.ref h1, .int x3])), (h1, .inl (gB g, 1500, .inl f4))] 10 [(5, .int z2), (4, .int z3), (0, .ref h0), (1, .int x0), (2, .int x1), (3, .int x2)] [] := by
    intro n5
    induction n5 with
    | zero => intro z2 z3 f4 i9 j10 j11 j12 j13 j14 hm8; exact absurd hm8 (Nat.not_lt_zero _)
    | succ n5 ih7 =>
      intro z2 z3 f4 i9 j10 j11 j12 j13 j14 hm8
      obtain ⟨i9a, i9b⟩ := i9
      have gz3 := fb_rng z3
      refine r_iload 10 0 C dX5_decipher_10 rfl ?_
      refine r_iload_n 12 5 C dX5_decipher_12 rfl ?_
      refine r_icmp_ge 13 69 C dX5_decipher_13 (by decide) (fun c15 => ?_) (fun c15 => ?_)
      · skip
        have k16 : (Int32.toInt x2) ≤ (Int32.toInt z2) := (fa_le x2 z2).mp c15
        exact r_vret 69 Rt dX5_decipher_69 f4 (show HID (¬ ((Int32.toInt x1) = 0) ∨ ¬ ((Int32.toInt x2) = (Int32.toInt x3)) ∨ f4 = (dec fn0 x0 (Int.toNat (Int32.toInt x3))).1) ∧ KPT fn0 f4 (Int32.toInt x2) ∧ CND (0 ≤ (Int32.toInt x1) ∧ (Int32.toInt x1) ≤ (Int32.toInt x2) ∧ (Int32.toInt x2) ≤ (Int32.toInt x3)) (f4 = (decF fn0 x0 (Int.toNat (Int32.toInt x1)) (Int.toNat ((Int32.toInt x2) - (Int32.toInt x1)))).1) from ⟨(by by_cases h_8 : (Int32.toInt x1) = 0 ∧ (Int32.toInt x2) = (Int32.toInt x3); exact Or.inr (Or.inr (dec_end ((show HID (¬ ((Int32.toInt x1) = 0) ∨ (f4 = (dec fn0 x0 (Int.toNat (Int32.toInt z2))).1 ∧ z3 = (dec fn0 x0 (Int.toNat (Int32.toInt z2))).2)) by assumption).resolve_left (by omega)) (by omega))); first | exact Or.inl (by omega) | exact Or.inr (Or.inl (by omega)) | (by_cases h_7 : (Int32.toInt x1) = 0; exact Or.inr (Or.inl (by omega)); exact Or.inl h_7)), (by exact (show KPT fn0 f4 (Int32.toInt x2) by assumption)), (by exact fun h_9 => decF_end ((show HID ((Int32.toInt x1) < 0 ∨ (f4 = (decF fn0 x0 (Int.toNat (Int32.toInt x1)) (Int.toNat ((Int32.toInt z2) - (Int32.toInt x1)))).1 ∧ z3 = (decF fn0 x0 (Int.toNat (Int32.toInt x1)) (Int.toNat ((Int32.toInt z2) - (Int32.toInt x1)))).2)) by assumption).resolve_left (by omega)) (by omega))⟩) [0, 1] (by decide) rfl (Nat.le_of_ble_eq_true rfl) (Nat.le_of_ble_eq_true rfl)
      · skip
        have k17 : ¬ ((Int32.toInt x2) ≤ (Int32.toInt z2)) := fun h_9 => c15 ((fa_le x2 z2).mpr h_9)
        refine r_iload 16 0 C dX5_decipher_16 rfl ?_
        refine r_aload_n 18 2 C dX5_decipher_18 rfl ?_
        refine r_get 19 C dX5_decipher_19 (k := 1) 0 rfl rfl hiX5 (by decide) rfl (mg 5 rfl) (Or.inl rfl) rfl ?_
        refine r_icmp_ge 22 69 C dX5_decipher_22 (by decide) (fun c18 => ?_) (fun c18 => ?_)
        · skip
          have k19 : (Int32.toInt x3) ≤ (Int32.toInt z2) := (fa_le x3 z2).mp c18
          exact r_vret 69 Rt dX5_decipher_69 f4 (show HID (¬ ((Int32.toInt x1) = 0) ∨ ¬ ((Int32.toInt x2) = (Int32.toInt x3)) ∨ f4 = (dec fn0 x0 (Int.toNat (Int32.toInt x3))).1) ∧ KPT fn0 f4 (Int32.toInt x2) ∧ CND (0 ≤ (Int32.toInt x1) ∧ (Int32.toInt x1) ≤ (Int32.toInt x2) ∧ (Int32.toInt x2) ≤ (Int32.toInt x3)) (f4 = (decF fn0 x0 (Int.toNat (Int32.toInt x1)) (Int.toNat ((Int32.toInt x2) - (Int32.toInt x1)))).1) from ⟨(by by_cases h_8 : (Int32.toInt x1) = 0 ∧ (Int32.toInt x2) = (Int32.toInt x3); exact Or.inr (Or.inr (dec_end ((show HID (¬ ((Int32.toInt x1) = 0) ∨ (f4 = (dec fn0 x0 (Int.toNat (Int32.toInt z2))).1 ∧ z3 = (dec fn0 x0 (Int.toNat (Int32.toInt z2))).2)) by assumption).resolve_left (by omega)) (by omega))); first | exact Or.inl (by omega) | exact Or.inr (Or.inl (by omega)) | (by_cases h_7 : (Int32.toInt x1) = 0; exact Or.inr (Or.inl (by omega)); exact Or.inl h_7)), (by exact (show KPT fn0 f4 (Int32.toInt x2) by assumption)), (by exact fun h_9 => decF_end ((show HID ((Int32.toInt x1) < 0 ∨ (f4 = (decF fn0 x0 (Int.toNat (Int32.toInt x1)) (Int.toNat ((Int32.toInt z2) - (Int32.toInt x1)))).1 ∧ z3 = (decF fn0 x0 (Int.toNat (Int32.toInt x1)) (Int.toNat ((Int32.toInt z2) - (Int32.toInt x1)))).2)) by assumption).resolve_left (by omega)) (by omega))⟩) [0, 1] (by decide) rfl (Nat.le_of_ble_eq_true rfl) (Nat.le_of_ble_eq_true rfl)
        · skip
          have k20 : ¬ ((Int32.toInt x3) ≤ (Int32.toInt z2)) := fun h_9 => c18 ((fa_le x3 z2).mpr h_9)
          refine r_aload_n 25 2 C dX5_decipher_25 rfl ?_
          refine r_get 26 C dX5_decipher_26 (k := 0) 0 rfl rfl hiX5 (by decide) rfl (mg 6 rfl) (Or.inl rfl) rfl ?_
          refine r_iload 29 0 C dX5_decipher_29 rfl ?_
          obtain ⟨z21, ez21⟩ : ∃ z_9, f4 (Int32.toNatClampNeg z2) = z_9 := ⟨_, rfl⟩
          refine r_bald 31 z21 C dX5_decipher_31 1 rfl (vinI (by omega) (by omega)) ez21 ?_
          have gz21 := fb_rng z21
          refine r_sipush 32 255 C dX5_decipher_32 (by decide) ?_
          obtain ⟨z22, ez22⟩ : ∃ z_9, z21 &&& 255 = z_9 := ⟨_, rfl⟩
          have tz22 : 0 ≤ (Int32.toInt z22) ∧ (Int32.toInt z22) ≤ 255 := by rw [← ez22]; exact and_255 z21
          refine r_iand 35 z22 C dX5_decipher_35 ez22 ?_
          refine r_istore 36 C dX5_decipher_36 [(6, .int z22), (5, .int z2), (4, .int z3), (0, .ref h0), (1, .int x0), (2, .int x1), (3, .int x2)] (by decide) rfl ?_
          refine r_aload_n 38 3 C dX5_decipher_38 rfl ?_
          refine r_get 39 C dX5_decipher_39 (k := 0) 0 rfl rfl hiX5 (by decide) rfl (mg 6 rfl) (Or.inl rfl) rfl ?_
          refine r_iload 42 1 C dX5_decipher_42 rfl ?_
          refine r_iload 44 0 C dX5_decipher_44 rfl ?_
          refine r_iload 46 2 C dX5_decipher_46 rfl ?_
          refine r_bipush 48 8 C dX5_decipher_48 (by decide) ?_
          obtain ⟨z23, ez23⟩ : ∃ z_9, z3 >>> (8 &&& 31) = z_9 := ⟨_, rfl⟩
          have tz23 : (Int32.toInt z23) = (Int32.toInt z3) / 256 := by rw [← ez23]; exact shr_8 z3
          refine r_ishr 50 z23 C dX5_decipher_50 ez23 ?_
          obtain ⟨z24, ez24⟩ : ∃ z_9, z22 ^^^ z23 = z_9 := ⟨_, rfl⟩
          have gz24 := fb_rng z24
          refine r_ixor 51 z24 C dX5_decipher_51 ez24 ?_
          obtain ⟨z25, ez25⟩ : ∃ z_9, (Int32.toInt8 z24).toInt32 = z_9 := ⟨_, rfl⟩
          have gz25 := fb_rng z25
          refine r_i2b 52 z25 C dX5_decipher_52 ez25 ?_
          obtain ⟨f26, ef26⟩ : ∃ f_9, upd f4 (Int32.toNatClampNeg z2) (vp_nar .byte z25) = f_9 := ⟨_, rfl⟩
          refine r_bast 53 C dX5_decipher_53 1 rfl (vinI (by omega) (by omega)) f26 ef26 [(h0, .inr (4, [.ref h1, .int x3])), (h1, .inl (gB g, 1500, .inl f26))] rfl ?_
          refine r_iload 54 0 C dX5_decipher_54 rfl ?_
          refine r_iload 56 2 C dX5_decipher_56 rfl ?_
          refine r_callSi 58 C dX5_decipher_58 [] [] [(h0, .inr (4, [.ref h1, .int x3])), (h1, .inl (gB g, 1500, .inl f26))] (fun sz => c17_X5_nextKey l g z22 z3  sz) gX5_decipher_X5_nextKey rfl ⟨rfl, rfl⟩ 2 (by decide) ⟨Nat.le_of_ble_eq_true rfl, Nat.le_of_ble_eq_true rfl⟩ [] [0, 1] rfl rfl (by decide) (by decide) (by decide) rfl rfl (Nat.le_of_ble_eq_true rfl) ⟨Nat.le_of_ble_eq_true rfl, Nat.le_of_ble_eq_true rfl⟩ (fun r27 _ w28 => ?_)
          refine r_ws [(h0, .inr (4, [.ref h1, .int x3])), (h1, .inl (gB g, 1500, .inl f26))] rfl ?_
          have p29 : 0 ≤ (Int32.toInt r27) := w28.1
          have p30 : (Int32.toInt r27) ≤ 65535 := w28.2.1
          have p31 : r27 = nk z22 z3 := w28.2.2
          refine r_istore 61 C dX5_decipher_61 [(4, .int r27), (6, .int z22), (5, .int z2), (0, .ref h0), (1, .int x0), (2, .int x1), (3, .int x2)] (by decide) rfl ?_
          obtain ⟨z32, ez32⟩ : ∃ z_9, z2 + Int32.ofInt 1 = z_9 := ⟨_, rfl⟩
          have tz32 : (Int32.toInt z32) = (Int32.toInt z2) + 1 := by rw [← ez32]; exact fb_addI (by show -2147483648 ≤ (Int32.toInt z2) + 1; omega) (by show (Int32.toInt z2) + 1 < 2147483648; omega)
          refine r_iinc 63 2 z32 C dX5_decipher_63 rfl ez32 [(5, .int z32), (4, .int r27), (6, .int z22), (0, .ref h0), (1, .int x0), (2, .int x1), (3, .int x2)] (by decide) rfl ?_
          refine r_goto 66 10 C dX5_decipher_66 (by decide) ?_
          refine r_lv [(5, .int z32), (4, .int r27), (0, .ref h0), (1, .int x0), (2, .int x1), (3, .int x2)] [0, 1, 3, 4, 5, 6] rfl ?_
          exact ih7 z32 r27 f26 ⟨by omega, by omega⟩ (by show ¬ ((Int32.toInt x1) = 0) ∨ (Int32.toInt z32) ≤ (Int32.toInt x3); omega) ((show HID (¬ ((Int32.toInt x1) = 0) ∨ (f4 = (dec fn0 x0 (Int.toNat (Int32.toInt z2))).1 ∧ z3 = (dec fn0 x0 (Int.toNat (Int32.toInt z2))).2)) by assumption).imp id (fun h_9 => dec_step h_9 rfl (by assumption) (by assumption) (by assumption) (by assumption) (by assumption) (by assumption) p31 (by omega))) (kpt_step (show KPT fn0 f4 (Int32.toInt x2) by assumption) ef26 (by omega) (by omega)) (by show ((Int32.toInt x1) ≤ (Int32.toInt z32) ∧ (¬ (0 ≤ (Int32.toInt x1) ∧ (Int32.toInt x1) ≤ (Int32.toInt x2)) ∨ (Int32.toInt z32) ≤ (Int32.toInt x2))); omega) (by by_cases h_8 : (Int32.toInt x1) < 0; exact Or.inl h_8; exact Or.inr (decF_step (i := z2) ((show HID ((Int32.toInt x1) < 0 ∨ (f4 = (decF fn0 x0 (Int.toNat (Int32.toInt x1)) (Int.toNat ((Int32.toInt z2) - (Int32.toInt x1)))).1 ∧ z3 = (decF fn0 x0 (Int.toNat (Int32.toInt x1)) (Int.toNat ((Int32.toInt z2) - (Int32.toInt x1)))).2)) by assumption).resolve_left h_8) (by omega) (by assumption) (by assumption) (by assumption) (by assumption) (by assumption) (by assumption) p31 (by omega))) (by omega)
  exact lp6 _ z1 x0 fn0 ⟨by omega, by omega⟩ (by show ¬ ((Int32.toInt x1) = 0) ∨ (Int32.toInt z1) ≤ (Int32.toInt x3); omega) (by by_cases h_9 : (Int32.toInt x1) = 0; exact Or.inr (dec_0 (by omega)); exact Or.inl h_9) kpt_0 (by show ((Int32.toInt x1) ≤ (Int32.toInt z1) ∧ (¬ (0 ≤ (Int32.toInt x1) ∧ (Int32.toInt x1) ≤ (Int32.toInt x2)) ∨ (Int32.toInt z1) ≤ (Int32.toInt x2))); omega) (by by_cases h_9 : (Int32.toInt x1) < 0; exact Or.inl h_9; exact Or.inr (decF_0 (by omega))) (Nat.lt_succ_self _)
set_option maxHeartbeats 4000000 in
set_option maxRecDepth 100000 in
theorem c22_X11_plain (l : Launch) (g : GD) (h0 : Nat) (h1 : Nat) (h2 : Nat) (h3 : Nat) (h4 : Nat) (x0 : Int32) (x1 : Int32) (h5 : Nat) (h6 : Nat) (h7 : Nat) (h8 : Nat) (h9 : Nat) (h10 : Nat) (h11 : Nat) (vv0 : Value) (x2 : Int32) (x3 : Int32) (fn0 : Nat → Int32) (fn1 : Nat → Int32) (i_x2 : (0 ≤ (Int32.toInt x2) ∧ (Int32.toInt x2) ≤ 1500)) (i_x3 : (0 ≤ (Int32.toInt x3) ∧ (Int32.toInt x3) ≤ 1508)) (sz : Nat) : Met l yX11_plain wsX11_plain ({ frames := 2, cells := 0, slots := 0, locals := 47 }) (va_Pc [.ref h0, .int x0, .int x1] (PW g [(h0, .inr (10, [.ref h1, .ref h2, .ref h5, .ref h6, .ref h7, .ref h8, .ref h9, .ref h10, .ref h11, vv0])), (h1, .inr (4, [.ref h3, .int x2])), (h2, .inr (4, [.ref h4, .int x3])), (h3, .inl (gB g, 1500, .inl fn0)), (h4, .inl (gB g, 1508, .inl fn1))] sz)) (va_Qi (fun (r : Int32) (u : (Int32) × (Int32) × (Nat → Int32) × (Nat → Int32)) => -1 ≤ (Int32.toInt r) ∧ (Int32.toInt r) ≤ 1508 ∧ 0 ≤ (Int32.toInt (u.1)) ∧ (Int32.toInt (u.1)) ≤ 1500 ∧ 0 ≤ (Int32.toInt (u.2.1)) ∧ (Int32.toInt (u.2.1)) ≤ 1508 ∧ ((0 ≤ (Int32.toInt x0) ∧ (Int32.toInt x0) ≤ 65535 ∧ 0 ≤ (Int32.toInt x1) ∧ (Int32.toInt x1) ≤ 8 ∧ (((Int32.toInt x2) ≤ (Int32.toInt x1) ∧ (Int32.toInt (u.2.1)) = 0) ∨ ((Int32.toInt x1) < (Int32.toInt x2) ∧ (Int32.toInt (u.2.1)) = (Int32.toInt x2) - (Int32.toInt x1))) ∧ (Int32.toInt (u.1)) = 0 ∧ (Int32.toInt r) = (Int32.toInt (u.2.1))) ∨ (((Int32.toInt x0) < 0 ∨ 65535 < (Int32.toInt x0) ∨ (Int32.toInt x1) < 0 ∨ 8 < (Int32.toInt x1)) ∧ (Int32.toInt (u.2.1)) = (Int32.toInt x3) ∧ (Int32.toInt (u.1)) = (Int32.toInt x2) ∧ (Int32.toInt r) = -1)) ∧ HID ((((Int32.toInt x0) < 0 ∨ 65535 < (Int32.toInt x0) ∨ (Int32.toInt x1) < 0 ∨ 8 < (Int32.toInt x1)) ∧ (u.2.2.1) = fn0 ∧ (u.2.2.2) = fn1) ∨ (¬ ((Int32.toInt x0) < 0 ∨ 65535 < (Int32.toInt x0) ∨ (Int32.toInt x1) < 0 ∨ 8 < (Int32.toInt x1)) ∧ (u.2.2.2) = cpy fn1 0 (dec fn0 x0 (Int.toNat (Int32.toInt x2))).1 (Int.toNat (Int32.toInt x1)) ((Int.toNat (Int32.toInt x2)) - (Int.toNat (Int32.toInt x1)))))) (BW g (va_A [(h0, .inr (10, [.ref h1, .ref h2, .ref h5, .ref h6, .ref h7, .ref h8, .ref h9, .ref h10, .ref h11, vv0])), (h1, .inr (4, [.ref h3, .int x2])), (h2, .inr (4, [.ref h4, .int x3])), (h3, .inl (gB g, 1500, .inl fn0)), (h4, .inl (gB g, 1508, .inl fn1))] sz) (fun u : (Int32) × (Int32) × (Nat → Int32) × (Nat → Int32) => [(h0, .inr (10, [.ref h1, .ref h2, .ref h5, .ref h6, .ref h7, .ref h8, .ref h9, .ref h10, .ref h11, vv0])), (h1, .inr (4, [.ref h3, .int u.1])), (h2, .inr (4, [.ref h4, .int u.2.1])), (h3, .inl (gB g, 1500, .inl u.2.2.1)), (h4, .inl (gB g, 1508, .inl u.2.2.2))])) (va_A [(h0, .inr (10, [.ref h1, .ref h2, .ref h5, .ref h6, .ref h7, .ref h8, .ref h9, .ref h10, .ref h11, vv0])), (h1, .inr (4, [.ref h3, .int x2])), (h2, .inr (4, [.ref h4, .int x3])), (h3, .inl (gB g, 1500, .inl fn0)), (h4, .inl (gB g, 1508, .inl fn1))] sz)) 0 0 (va_A [(h0, .inr (10, [.ref h1, .ref h2, .ref h5, .ref h6, .ref h7, .ref h8, .ref h9, .ref h10, .ref h11, vv0])), (h1, .inr (4, [.ref h3, .int x2])), (h2, .inr (4, [.ref h4, .int x3])), (h3, .inl (gB g, 1500, .inl fn0)), (h4, .inl (gB g, 1508, .inl fn1))] sz) := by
  refine met_i RX11 (by decide) rfl rfl (Nat.le_of_ble_eq_true rfl) [(0, .ref h0), (1, .int x0), (2, .int x1)] rfl ?_
  intro p e s m args below meth c A Q C hnm Rt
  have gx0 := fb_rng x0
  have gx1 := fb_rng x1
  have hiX11 : ∀ w ∈ wsX110, w ∈ wsX11_plain := fun w h => List.mem_cons_of_mem _ (List.mem_append_left _ (List.mem_append_right _ (h)))
  refine r_iload_n 0 1 C dX11_plain_0 rfl ?_
  refine r_iload_n 1 2 C dX11_plain_1 rfl ?_
  refine r_callSi 2 C dX11_plain_2 [] [] [(h0, .inr (10, [.ref h1, .ref h2, .ref h5, .ref h6, .ref h7, .ref h8, .ref h9, .ref h10, .ref h11, vv0])), (h1, .inr (4, [.ref h3, .int x2])), (h2, .inr (4, [.ref h4, .int x3])), (h3, .inl (gB g, 1500, .inl fn0)), (h4, .inl (gB g, 1508, .inl fn1))] (fun sz => c12_X11_isKeyAndNumber l g x0 x1  sz) gX11_plain_X11_isKeyAndNumber rfl ⟨rfl, rfl⟩ 2 (by decide) ⟨Nat.le_of_ble_eq_true rfl, Nat.le_of_ble_eq_true rfl⟩ [] [0, 1, 2, 3, 4] rfl rfl (by decide) (by decide) (by decide) rfl rfl (Nat.le_of_ble_eq_true rfl) ⟨Nat.le_of_ble_eq_true rfl, Nat.le_of_ble_eq_true rfl⟩ (fun r1 _ w2 => ?_)
  refine r_ws [(h0, .inr (10, [.ref h1, .ref h2, .ref h5, .ref h6, .ref h7, .ref h8, .ref h9, .ref h10, .ref h11, vv0])), (h1, .inr (4, [.ref h3, .int x2])), (h2, .inr (4, [.ref h4, .int x3])), (h3, .inl (gB g, 1500, .inl fn0)), (h4, .inl (gB g, 1508, .inl fn1))] rfl ?_
  have w3 : (((Int32.toInt x0) < 0 ∧ r1 = 0) ∨ (¬ ((Int32.toInt x0) < 0) ∧ 65535 < (Int32.toInt x0) ∧ r1 = 0) ∨ (¬ ((Int32.toInt x0) < 0) ∧ ¬ (65535 < (Int32.toInt x0)) ∧ (Int32.toInt x1) < 0 ∧ r1 = 0) ∨ (¬ ((Int32.toInt x0) < 0) ∧ ¬ (65535 < (Int32.toInt x0)) ∧ ¬ ((Int32.toInt x1) < 0) ∧ 8 < (Int32.toInt x1) ∧ r1 = 0) ∨ (¬ ((Int32.toInt x0) < 0) ∧ ¬ (65535 < (Int32.toInt x0)) ∧ ¬ ((Int32.toInt x1) < 0) ∧ ¬ (8 < (Int32.toInt x1)) ∧ r1 = 1)) := w2
  rcases w3 with ⟨k4, k5⟩ | w3
  · skip
    have k5 := k5.symm
    subst k5
    refine r_if_ne_f 5 10 C dX11_plain_5 (by decide) (by decide) ?_
    refine r_iconst 8 (-1) C dX11_plain_8 (by decide) ?_
    exact r_iret 9 Rt dX11_plain_9 (x2, x3, fn0, fn1) (show -1 ≤ (Int32.toInt (-1)) ∧ (Int32.toInt (-1)) ≤ 1508 ∧ 0 ≤ (Int32.toInt x2) ∧ (Int32.toInt x2) ≤ 1500 ∧ 0 ≤ (Int32.toInt x3) ∧ (Int32.toInt x3) ≤ 1508 ∧ ((0 ≤ (Int32.toInt x0) ∧ (Int32.toInt x0) ≤ 65535 ∧ 0 ≤ (Int32.toInt x1) ∧ (Int32.toInt x1) ≤ 8 ∧ (((Int32.toInt x2) ≤ (Int32.toInt x1) ∧ (Int32.toInt x3) = 0) ∨ ((Int32.toInt x1) < (Int32.toInt x2) ∧ (Int32.toInt x3) = (Int32.toInt x2) - (Int32.toInt x1))) ∧ (Int32.toInt x2) = 0 ∧ (-1) = (Int32.toInt x3)) ∨ (((Int32.toInt x0) < 0 ∨ 65535 < (Int32.toInt x0) ∨ (Int32.toInt x1) < 0 ∨ 8 < (Int32.toInt x1)) ∧ (Int32.toInt x3) = (Int32.toInt x3) ∧ (Int32.toInt x2) = (Int32.toInt x2) ∧ (-1) = -1)) ∧ HID ((((Int32.toInt x0) < 0 ∨ 65535 < (Int32.toInt x0) ∨ (Int32.toInt x1) < 0 ∨ 8 < (Int32.toInt x1)) ∧ fn0 = fn0 ∧ fn1 = fn1) ∨ (¬ ((Int32.toInt x0) < 0 ∨ 65535 < (Int32.toInt x0) ∨ (Int32.toInt x1) < 0 ∨ 8 < (Int32.toInt x1)) ∧ fn1 = cpy fn1 0 (dec fn0 x0 (Int.toNat (Int32.toInt x2))).1 (Int.toNat (Int32.toInt x1)) ((Int.toNat (Int32.toInt x2)) - (Int.toNat (Int32.toInt x1))))) from ⟨(by ((repeat' apply And.intro) <;> first | trivial | rfl | assumption | omega | decide | exact Or.inl rfl | exact Or.inr (Or.inl rfl) | exact Or.inr (Or.inr rfl))), (by ((repeat' apply And.intro) <;> first | trivial | rfl | assumption | omega | decide | exact Or.inl rfl | exact Or.inr (Or.inl rfl) | exact Or.inr (Or.inr rfl))), i_x2.1, i_x2.2, i_x3.1, i_x3.2, (by ((repeat' apply And.intro) <;> first | trivial | rfl | assumption | omega | decide | exact Or.inl rfl | exact Or.inr (Or.inl rfl) | exact Or.inr (Or.inr rfl))), (by exact Or.inl ⟨by omega, rfl, rfl⟩)⟩) [0, 1, 2, 3, 4] (by decide) rfl (Nat.le_of_ble_eq_true rfl) (Nat.le_of_ble_eq_true rfl)
  rcases w3 with ⟨k6, k7, k8⟩ | w3
  · skip
    have k8 := k8.symm
    subst k8
    refine r_if_ne_f 5 10 C dX11_plain_5 (by decide) (by decide) ?_
    refine r_iconst 8 (-1) C dX11_plain_8 (by decide) ?_
    exact r_iret 9 Rt dX11_plain_9 (x2, x3, fn0, fn1) (show -1 ≤ (Int32.toInt (-1)) ∧ (Int32.toInt (-1)) ≤ 1508 ∧ 0 ≤ (Int32.toInt x2) ∧ (Int32.toInt x2) ≤ 1500 ∧ 0 ≤ (Int32.toInt x3) ∧ (Int32.toInt x3) ≤ 1508 ∧ ((0 ≤ (Int32.toInt x0) ∧ (Int32.toInt x0) ≤ 65535 ∧ 0 ≤ (Int32.toInt x1) ∧ (Int32.toInt x1) ≤ 8 ∧ (((Int32.toInt x2) ≤ (Int32.toInt x1) ∧ (Int32.toInt x3) = 0) ∨ ((Int32.toInt x1) < (Int32.toInt x2) ∧ (Int32.toInt x3) = (Int32.toInt x2) - (Int32.toInt x1))) ∧ (Int32.toInt x2) = 0 ∧ (-1) = (Int32.toInt x3)) ∨ (((Int32.toInt x0) < 0 ∨ 65535 < (Int32.toInt x0) ∨ (Int32.toInt x1) < 0 ∨ 8 < (Int32.toInt x1)) ∧ (Int32.toInt x3) = (Int32.toInt x3) ∧ (Int32.toInt x2) = (Int32.toInt x2) ∧ (-1) = -1)) ∧ HID ((((Int32.toInt x0) < 0 ∨ 65535 < (Int32.toInt x0) ∨ (Int32.toInt x1) < 0 ∨ 8 < (Int32.toInt x1)) ∧ fn0 = fn0 ∧ fn1 = fn1) ∨ (¬ ((Int32.toInt x0) < 0 ∨ 65535 < (Int32.toInt x0) ∨ (Int32.toInt x1) < 0 ∨ 8 < (Int32.toInt x1)) ∧ fn1 = cpy fn1 0 (dec fn0 x0 (Int.toNat (Int32.toInt x2))).1 (Int.toNat (Int32.toInt x1)) ((Int.toNat (Int32.toInt x2)) - (Int.toNat (Int32.toInt x1))))) from ⟨(by ((repeat' apply And.intro) <;> first | trivial | rfl | assumption | omega | decide | exact Or.inl rfl | exact Or.inr (Or.inl rfl) | exact Or.inr (Or.inr rfl))), (by ((repeat' apply And.intro) <;> first | trivial | rfl | assumption | omega | decide | exact Or.inl rfl | exact Or.inr (Or.inl rfl) | exact Or.inr (Or.inr rfl))), i_x2.1, i_x2.2, i_x3.1, i_x3.2, (by ((repeat' apply And.intro) <;> first | trivial | rfl | assumption | omega | decide | exact Or.inl rfl | exact Or.inr (Or.inl rfl) | exact Or.inr (Or.inr rfl))), (by exact Or.inl ⟨by omega, rfl, rfl⟩)⟩) [0, 1, 2, 3, 4] (by decide) rfl (Nat.le_of_ble_eq_true rfl) (Nat.le_of_ble_eq_true rfl)
  rcases w3 with ⟨k9, k10, k11, k12⟩ | w3
  · skip
    have k12 := k12.symm
    subst k12
    refine r_if_ne_f 5 10 C dX11_plain_5 (by decide) (by decide) ?_
    refine r_iconst 8 (-1) C dX11_plain_8 (by decide) ?_
    exact r_iret 9 Rt dX11_plain_9 (x2, x3, fn0, fn1) (show -1 ≤ (Int32.toInt (-1)) ∧ (Int32.toInt (-1)) ≤ 1508 ∧ 0 ≤ (Int32.toInt x2) ∧ (Int32.toInt x2) ≤ 1500 ∧ 0 ≤ (Int32.toInt x3) ∧ (Int32.toInt x3) ≤ 1508 ∧ ((0 ≤ (Int32.toInt x0) ∧ (Int32.toInt x0) ≤ 65535 ∧ 0 ≤ (Int32.toInt x1) ∧ (Int32.toInt x1) ≤ 8 ∧ (((Int32.toInt x2) ≤ (Int32.toInt x1) ∧ (Int32.toInt x3) = 0) ∨ ((Int32.toInt x1) < (Int32.toInt x2) ∧ (Int32.toInt x3) = (Int32.toInt x2) - (Int32.toInt x1))) ∧ (Int32.toInt x2) = 0 ∧ (-1) = (Int32.toInt x3)) ∨ (((Int32.toInt x0) < 0 ∨ 65535 < (Int32.toInt x0) ∨ (Int32.toInt x1) < 0 ∨ 8 < (Int32.toInt x1)) ∧ (Int32.toInt x3) = (Int32.toInt x3) ∧ (Int32.toInt x2) = (Int32.toInt x2) ∧ (-1) = -1)) ∧ HID ((((Int32.toInt x0) < 0 ∨ 65535 < (Int32.toInt x0) ∨ (Int32.toInt x1) < 0 ∨ 8 < (Int32.toInt x1)) ∧ fn0 = fn0 ∧ fn1 = fn1) ∨ (¬ ((Int32.toInt x0) < 0 ∨ 65535 < (Int32.toInt x0) ∨ (Int32.toInt x1) < 0 ∨ 8 < (Int32.toInt x1)) ∧ fn1 = cpy fn1 0 (dec fn0 x0 (Int.toNat (Int32.toInt x2))).1 (Int.toNat (Int32.toInt x1)) ((Int.toNat (Int32.toInt x2)) - (Int.toNat (Int32.toInt x1))))) from ⟨(by ((repeat' apply And.intro) <;> first | trivial | rfl | assumption | omega | decide | exact Or.inl rfl | exact Or.inr (Or.inl rfl) | exact Or.inr (Or.inr rfl))), (by ((repeat' apply And.intro) <;> first | trivial | rfl | assumption | omega | decide | exact Or.inl rfl | exact Or.inr (Or.inl rfl) | exact Or.inr (Or.inr rfl))), i_x2.1, i_x2.2, i_x3.1, i_x3.2, (by ((repeat' apply And.intro) <;> first | trivial | rfl | assumption | omega | decide | exact Or.inl rfl | exact Or.inr (Or.inl rfl) | exact Or.inr (Or.inr rfl))), (by exact Or.inl ⟨by omega, rfl, rfl⟩)⟩) [0, 1, 2, 3, 4] (by decide) rfl (Nat.le_of_ble_eq_true rfl) (Nat.le_of_ble_eq_true rfl)
  rcases w3 with ⟨k13, k14, k15, k16, k17⟩ | w3
  · skip
    have k17 := k17.symm
    subst k17
    refine r_if_ne_f 5 10 C dX11_plain_5 (by decide) (by decide) ?_
    refine r_iconst 8 (-1) C dX11_plain_8 (by decide) ?_
    exact r_iret 9 Rt dX11_plain_9 (x2, x3, fn0, fn1) (show -1 ≤ (Int32.toInt (-1)) ∧ (Int32.toInt (-1)) ≤ 1508 ∧ 0 ≤ (Int32.toInt x2) ∧ (Int32.toInt x2) ≤ 1500 ∧ 0 ≤ (Int32.toInt x3) ∧ (Int32.toInt x3) ≤ 1508 ∧ ((0 ≤ (Int32.toInt x0) ∧ (Int32.toInt x0) ≤ 65535 ∧ 0 ≤ (Int32.toInt x1) ∧ (Int32.toInt x1) ≤ 8 ∧ (((Int32.toInt x2) ≤ (Int32.toInt x1) ∧ (Int32.toInt x3) = 0) ∨ ((Int32.toInt x1) < (Int32.toInt x2) ∧ (Int32.toInt x3) = (Int32.toInt x2) - (Int32.toInt x1))) ∧ (Int32.toInt x2) = 0 ∧ (-1) = (Int32.toInt x3)) ∨ (((Int32.toInt x0) < 0 ∨ 65535 < (Int32.toInt x0) ∨ (Int32.toInt x1) < 0 ∨ 8 < (Int32.toInt x1)) ∧ (Int32.toInt x3) = (Int32.toInt x3) ∧ (Int32.toInt x2) = (Int32.toInt x2) ∧ (-1) = -1)) ∧ HID ((((Int32.toInt x0) < 0 ∨ 65535 < (Int32.toInt x0) ∨ (Int32.toInt x1) < 0 ∨ 8 < (Int32.toInt x1)) ∧ fn0 = fn0 ∧ fn1 = fn1) ∨ (¬ ((Int32.toInt x0) < 0 ∨ 65535 < (Int32.toInt x0) ∨ (Int32.toInt x1) < 0 ∨ 8 < (Int32.toInt x1)) ∧ fn1 = cpy fn1 0 (dec fn0 x0 (Int.toNat (Int32.toInt x2))).1 (Int.toNat (Int32.toInt x1)) ((Int.toNat (Int32.toInt x2)) - (Int.toNat (Int32.toInt x1))))) from ⟨(by ((repeat' apply And.intro) <;> first | trivial | rfl | assumption | omega | decide | exact Or.inl rfl | exact Or.inr (Or.inl rfl) | exact Or.inr (Or.inr rfl))), (by ((repeat' apply And.intro) <;> first | trivial | rfl | assumption | omega | decide | exact Or.inl rfl | exact Or.inr (Or.inl rfl) | exact Or.inr (Or.inr rfl))), i_x2.1, i_x2.2, i_x3.1, i_x3.2, (by ((repeat' apply And.intro) <;> first | trivial | rfl | assumption | omega | decide | exact Or.inl rfl | exact Or.inr (Or.inl rfl) | exact Or.inr (Or.inr rfl))), (by exact Or.inl ⟨by omega, rfl, rfl⟩)⟩) [0, 1, 2, 3, 4] (by decide) rfl (Nat.le_of_ble_eq_true rfl) (Nat.le_of_ble_eq_true rfl)
  obtain ⟨k18, k19, k20, k21, k22⟩ := w3
  have k22 := k22.symm
  subst k22
  refine r_if_ne_t 5 10 C dX11_plain_5 (by decide) (by decide) ?_
  refine r_aload_n 10 0 C dX11_plain_10 rfl ?_
  refine r_get 11 C dX11_plain_11 (k := 0) 0 rfl rfl hiX11 (by decide) rfl (mg 1 rfl) (Or.inl rfl) rfl ?_
  refine r_iload_n 14 1 C dX11_plain_14 rfl ?_
  refine r_iconst 15 0 C dX11_plain_15 (by decide) ?_
  refine r_aload_n 16 0 C dX11_plain_16 rfl ?_
  refine r_get 17 C dX11_plain_17 (k := 0) 0 rfl rfl hiX11 (by decide) rfl (mg 1 rfl) (Or.inl rfl) rfl ?_
  refine r_callVi 20 C dX11_plain_20 [.int 0, .int x0, .ref h1] [(h1, .inr (4, [.ref h3, .int x2]))] [(h0, .inr (10, [.ref h1, .ref h2, .ref h5, .ref h6, .ref h7, .ref h8, .ref h9, .ref h10, .ref h11, vv0])), (h2, .inr (4, [.ref h4, .int x3])), (h3, .inl (gB g, 1500, .inl fn0)), (h4, .inl (gB g, 1508, .inl fn1))] (fun sz => c0_X5_size l g h1 h3 x2 i_x2 sz) gX11_plain_X5_size rfl ⟨rfl, rfl⟩ 0 (by decide) ⟨Nat.le_of_ble_eq_true rfl, Nat.le_of_ble_eq_true rfl⟩ 1 rfl rfl [1] [0, 2, 3, 4] rfl rfl (by decide) (by decide) (by decide) rfl rfl (Nat.le_of_ble_eq_true rfl) ⟨Nat.le_of_ble_eq_true rfl, Nat.le_of_ble_eq_true rfl⟩ (fun r23 _ w24 => ?_)
  refine r_ws [(h0, .inr (10, [.ref h1, .ref h2, .ref h5, .ref h6, .ref h7, .ref h8, .ref h9, .ref h10, .ref h11, vv0])), (h2, .inr (4, [.ref h4, .int x3])), (h3, .inl (gB g, 1500, .inl fn0)), (h4, .inl (gB g, 1508, .inl fn1)), (h1, .inr (4, [.ref h3, .int x2]))] rfl ?_
  have p25 : x2 = r23 := (w24).symm
  subst p25
  refine r_callVv 23 C dX11_plain_23 [] [(h1, .inr (4, [.ref h3, .int x2])), (h3, .inl (gB g, 1500, .inl fn0))] [(h0, .inr (10, [.ref h1, .ref h2, .ref h5, .ref h6, .ref h7, .ref h8, .ref h9, .ref h10, .ref h11, vv0])), (h2, .inr (4, [.ref h4, .int x3])), (h4, .inl (gB g, 1508, .inl fn1))] (fun sz => c21_X5_decipher l g h1 h3 x0 0 x2 x2 fn0 i_x2 sz) gX11_plain_X5_decipher rfl ⟨rfl, rfl⟩ 3 (by decide) ⟨Nat.le_of_ble_eq_true rfl, Nat.le_of_ble_eq_true rfl⟩ 4 rfl rfl [4, 2] [0, 1, 3] rfl rfl (by decide) (by decide) (by decide) rfl rfl (Nat.le_of_ble_eq_true rfl) ⟨Nat.le_of_ble_eq_true rfl, Nat.le_of_ble_eq_true rfl⟩ (fun  f26 w27 => ?_)
  refine r_ws [(h0, .inr (10, [.ref h1, .ref h2, .ref h5, .ref h6, .ref h7, .ref h8, .ref h9, .ref h10, .ref h11, vv0])), (h2, .inr (4, [.ref h4, .int x3])), (h4, .inl (gB g, 1508, .inl fn1)), (h1, .inr (4, [.ref h3, .int x2])), (h3, .inl (gB g, 1500, .inl f26))] rfl ?_
  have p28 : HID (¬ ((0 : Int) = 0) ∨ ¬ ((Int32.toInt x2) = (Int32.toInt x2)) ∨ f26 = (dec fn0 x0 (Int.toNat (Int32.toInt x2))).1) := w27.1
  have p29 : KPT fn0 f26 (Int32.toInt x2) := w27.2.1
  have p30 : CND (0 ≤ (0 : Int) ∧ (0 : Int) ≤ (Int32.toInt x2) ∧ (Int32.toInt x2) ≤ (Int32.toInt x2)) (f26 = (decF fn0 x0 (Int.toNat (0 : Int)) (Int.toNat ((Int32.toInt x2) - (0 : Int)))).1) := w27.2.2
  refine r_aload_n 26 0 C dX11_plain_26 rfl ?_
  refine r_get 27 C dX11_plain_27 (k := 1) 0 rfl rfl hiX11 (by decide) rfl (mg 2 rfl) (Or.inl rfl) rfl ?_
  refine r_iconst 30 0 C dX11_plain_30 (by decide) ?_
  refine r_callVv 31 C dX11_plain_31 [] [(h2, .inr (4, [.ref h4, .int x3]))] [(h0, .inr (10, [.ref h1, .ref h2, .ref h5, .ref h6, .ref h7, .ref h8, .ref h9, .ref h10, .ref h11, vv0])), (h4, .inl (gB g, 1508, .inl fn1)), (h1, .inr (4, [.ref h3, .int x2])), (h3, .inl (gB g, 1500, .inl f26))] (fun sz => c13_X5_cut l g h2 0 h4 x3 i_x3 sz) gX11_plain_X5_cut rfl ⟨rfl, rfl⟩ 1 (by decide) ⟨Nat.le_of_ble_eq_true rfl, Nat.le_of_ble_eq_true rfl⟩ 1 rfl rfl [1] [0, 2, 3, 4] rfl rfl (by decide) (by decide) (by decide) rfl rfl (Nat.le_of_ble_eq_true rfl) ⟨Nat.le_of_ble_eq_true rfl, Nat.le_of_ble_eq_true rfl⟩ (fun  z31 w32 => ?_)
  refine r_ws [(h0, .inr (10, [.ref h1, .ref h2, .ref h5, .ref h6, .ref h7, .ref h8, .ref h9, .ref h10, .ref h11, vv0])), (h4, .inl (gB g, 1508, .inl fn1)), (h1, .inr (4, [.ref h3, .int x2])), (h3, .inl (gB g, 1500, .inl f26)), (h2, .inr (4, [.ref h4, .int z31]))] rfl ?_
  have p33 : 0 ≤ (Int32.toInt z31) := w32.2.1
  have p34 : (Int32.toInt z31) ≤ 1508 := w32.2.2
  have w35 : (((0 : Int) < 0 ∧ (Int32.toInt z31) = (Int32.toInt x3)) ∨ (¬ ((0 : Int) < 0) ∧ (Int32.toInt x3) < (0 : Int) ∧ (Int32.toInt z31) = (Int32.toInt x3)) ∨ (¬ ((0 : Int) < 0) ∧ ¬ ((Int32.toInt x3) < (0 : Int)) ∧ (Int32.toInt z31) = (0 : Int))) := w32.1
  rcases w35 with ⟨k36, k37⟩ | w35
  · skip
    exact absurd trivial (by omega)
  rcases w35 with ⟨k38, k39, k40⟩ | w35
  · skip
    exact absurd trivial (by omega)
  obtain ⟨k41, k42, k43⟩ := w35
  refine r_aload_n 34 0 C dX11_plain_34 rfl ?_
  refine r_get 35 C dX11_plain_35 (k := 1) 0 rfl rfl hiX11 (by decide) rfl (mg 2 rfl) (Or.inl rfl) rfl ?_
  refine r_aload_n 38 0 C dX11_plain_38 rfl ?_
  refine r_get 39 C dX11_plain_39 (k := 0) 0 rfl rfl hiX11 (by decide) rfl (mg 1 rfl) (Or.inl rfl) rfl ?_
  refine r_iload_n 42 2 C dX11_plain_42 rfl ?_
  refine r_callVv 43 C dX11_plain_43 [] [(h2, .inr (4, [.ref h4, .int z31])), (h1, .inr (4, [.ref h3, .int x2])), (h4, .inl (gB g, 1508, .inl fn1)), (h3, .inl (gB g, 1500, .inl f26))] [(h0, .inr (10, [.ref h1, .ref h2, .ref h5, .ref h6, .ref h7, .ref h8, .ref h9, .ref h10, .ref h11, vv0]))] (fun sz => c16_X5_addAll l g h2 h1 h4 h3 x1 z31 x2 fn1 f26 ⟨p33, p34⟩ i_x2 sz) gX11_plain_X5_addAll rfl ⟨rfl, rfl⟩ 2 (by decide) ⟨Nat.le_of_ble_eq_true rfl, Nat.le_of_ble_eq_true rfl⟩ 4 rfl rfl [4, 2, 1, 3] [0] rfl rfl (by decide) (by decide) (by decide) rfl rfl (Nat.le_of_ble_eq_true rfl) ⟨Nat.le_of_ble_eq_true rfl, Nat.le_of_ble_eq_true rfl⟩ (fun  u47 w46 => ?_)
  obtain ⟨z44, f45⟩ := u47
  refine r_ws [(h0, .inr (10, [.ref h1, .ref h2, .ref h5, .ref h6, .ref h7, .ref h8, .ref h9, .ref h10, .ref h11, vv0])), (h2, .inr (4, [.ref h4, .int z44])), (h1, .inr (4, [.ref h3, .int x2])), (h4, .inl (gB g, 1508, .inl f45)), (h3, .inl (gB g, 1500, .inl f26))] rfl ?_
  have p48 : 0 ≤ (Int32.toInt z44) := w46.1
  have p49 : (Int32.toInt z44) ≤ 1508 := w46.2.1
  have p50 : (((Int32.toInt x1) ≤ 0 ∧ (((Int32.toInt x2) ≤ 0 ∧ (Int32.toInt z44) = (Int32.toInt z31)) ∨ (0 < (Int32.toInt x2) ∧ (Int32.toInt z31) + (Int32.toInt x2) ≤ 1508 ∧ (Int32.toInt z44) = (Int32.toInt z31) + (Int32.toInt x2)) ∨ 1508 < (Int32.toInt z31) + (Int32.toInt x2))) ∨ (0 ≤ (Int32.toInt x1) ∧ (((Int32.toInt x2) ≤ (Int32.toInt x1) ∧ (Int32.toInt z44) = (Int32.toInt z31)) ∨ ((Int32.toInt x1) < (Int32.toInt x2) ∧ (Int32.toInt z31) + (Int32.toInt x2) - (Int32.toInt x1) ≤ 1508 ∧ (Int32.toInt z44) = (Int32.toInt z31) + (Int32.toInt x2) - (Int32.toInt x1)) ∨ 1508 < (Int32.toInt z31) + (Int32.toInt x2) - (Int32.toInt x1)))) := w46.2.2.1
  have p51 : HID (1508 < (Int32.toInt z31) + (Int32.toInt x2) ∨ f45 = cpy fn1 (Int.toNat (Int32.toInt z31)) f26 (Int.toNat (Int32.toInt x1)) ((Int.toNat (Int32.toInt x2)) - (Int.toNat (Int32.toInt x1)))) := w46.2.2.2
  refine r_aload_n 46 0 C dX11_plain_46 rfl ?_
  refine r_get 47 C dX11_plain_47 (k := 0) 0 rfl rfl hiX11 (by decide) rfl (mg 1 rfl) (Or.inl rfl) rfl ?_
  refine r_iconst 50 0 C dX11_plain_50 (by decide) ?_
  refine r_callVv 51 C dX11_plain_51 [] [(h1, .inr (4, [.ref h3, .int x2]))] [(h0, .inr (10, [.ref h1, .ref h2, .ref h5, .ref h6, .ref h7, .ref h8, .ref h9, .ref h10, .ref h11, vv0])), (h2, .inr (4, [.ref h4, .int z44])), (h4, .inl (gB g, 1508, .inl f45)), (h3, .inl (gB g, 1500, .inl f26))] (fun sz => c4_X5_cut l g h1 0 h3 x2 i_x2 sz) gX11_plain_X5_cut rfl ⟨rfl, rfl⟩ 1 (by decide) ⟨Nat.le_of_ble_eq_true rfl, Nat.le_of_ble_eq_true rfl⟩ 2 rfl rfl [2] [0, 1, 3, 4] rfl rfl (by decide) (by decide) (by decide) rfl rfl (Nat.le_of_ble_eq_true rfl) ⟨Nat.le_of_ble_eq_true rfl, Nat.le_of_ble_eq_true rfl⟩ (fun  z52 w53 => ?_)
  refine r_ws [(h0, .inr (10, [.ref h1, .ref h2, .ref h5, .ref h6, .ref h7, .ref h8, .ref h9, .ref h10, .ref h11, vv0])), (h2, .inr (4, [.ref h4, .int z44])), (h4, .inl (gB g, 1508, .inl f45)), (h3, .inl (gB g, 1500, .inl f26)), (h1, .inr (4, [.ref h3, .int z52]))] rfl ?_
  have p54 : 0 ≤ (Int32.toInt z52) := w53.2.1
  have p55 : (Int32.toInt z52) ≤ 1500 := w53.2.2
  have w56 : (((0 : Int) < 0 ∧ (Int32.toInt z52) = (Int32.toInt x2)) ∨ (¬ ((0 : Int) < 0) ∧ (Int32.toInt x2) < (0 : Int) ∧ (Int32.toInt z52) = (Int32.toInt x2)) ∨ (¬ ((0 : Int) < 0) ∧ ¬ ((Int32.toInt x2) < (0 : Int)) ∧ (Int32.toInt z52) = (0 : Int))) := w53.1
  rcases w56 with ⟨k57, k58⟩ | w56
  · skip
    exact absurd trivial (by omega)
  rcases w56 with ⟨k59, k60, k61⟩ | w56
  · skip
    exact absurd trivial (by omega)
  obtain ⟨k62, k63, k64⟩ := w56
  refine r_aload_n 54 0 C dX11_plain_54 rfl ?_
  refine r_get 55 C dX11_plain_55 (k := 1) 0 rfl rfl hiX11 (by decide) rfl (mg 2 rfl) (Or.inl rfl) rfl ?_
  refine r_callVi 58 C dX11_plain_58 [] [(h2, .inr (4, [.ref h4, .int z44]))] [(h0, .inr (10, [.ref h1, .ref h2, .ref h5, .ref h6, .ref h7, .ref h8, .ref h9, .ref h10, .ref h11, vv0])), (h4, .inl (gB g, 1508, .inl f45)), (h3, .inl (gB g, 1500, .inl f26)), (h1, .inr (4, [.ref h3, .int z52]))] (fun sz => c19_X5_size l g h2 h4 z44 ⟨p48, p49⟩ sz) gX11_plain_X5_size rfl ⟨rfl, rfl⟩ 0 (by decide) ⟨Nat.le_of_ble_eq_true rfl, Nat.le_of_ble_eq_true rfl⟩ 1 rfl rfl [1] [0, 2, 3, 4] rfl rfl (by decide) (by decide) (by decide) rfl rfl (Nat.le_of_ble_eq_true rfl) ⟨Nat.le_of_ble_eq_true rfl, Nat.le_of_ble_eq_true rfl⟩ (fun r65 _ w66 => ?_)
  refine r_ws [(h0, .inr (10, [.ref h1, .ref h2, .ref h5, .ref h6, .ref h7, .ref h8, .ref h9, .ref h10, .ref h11, vv0])), (h4, .inl (gB g, 1508, .inl f45)), (h3, .inl (gB g, 1500, .inl f26)), (h1, .inr (4, [.ref h3, .int z52])), (h2, .inr (4, [.ref h4, .int z44]))] rfl ?_
  have p67 : z44 = r65 := (w66).symm
  subst p67
  exact r_iret 61 Rt dX11_plain_61 (z52, z44, f26, f45) (show -1 ≤ (Int32.toInt z44) ∧ (Int32.toInt z44) ≤ 1508 ∧ 0 ≤ (Int32.toInt z52) ∧ (Int32.toInt z52) ≤ 1500 ∧ 0 ≤ (Int32.toInt z44) ∧ (Int32.toInt z44) ≤ 1508 ∧ ((0 ≤ (Int32.toInt x0) ∧ (Int32.toInt x0) ≤ 65535 ∧ 0 ≤ (Int32.toInt x1) ∧ (Int32.toInt x1) ≤ 8 ∧ (((Int32.toInt x2) ≤ (Int32.toInt x1) ∧ (Int32.toInt z44) = 0) ∨ ((Int32.toInt x1) < (Int32.toInt x2) ∧ (Int32.toInt z44) = (Int32.toInt x2) - (Int32.toInt x1))) ∧ (Int32.toInt z52) = 0 ∧ (Int32.toInt z44) = (Int32.toInt z44)) ∨ (((Int32.toInt x0) < 0 ∨ 65535 < (Int32.toInt x0) ∨ (Int32.toInt x1) < 0 ∨ 8 < (Int32.toInt x1)) ∧ (Int32.toInt z44) = (Int32.toInt x3) ∧ (Int32.toInt z52) = (Int32.toInt x2) ∧ (Int32.toInt z44) = -1)) ∧ HID ((((Int32.toInt x0) < 0 ∨ 65535 < (Int32.toInt x0) ∨ (Int32.toInt x1) < 0 ∨ 8 < (Int32.toInt x1)) ∧ f26 = fn0 ∧ f45 = fn1) ∨ (¬ ((Int32.toInt x0) < 0 ∨ 65535 < (Int32.toInt x0) ∨ (Int32.toInt x1) < 0 ∨ 8 < (Int32.toInt x1)) ∧ f45 = cpy fn1 0 (dec fn0 x0 (Int.toNat (Int32.toInt x2))).1 (Int.toNat (Int32.toInt x1)) ((Int.toNat (Int32.toInt x2)) - (Int.toNat (Int32.toInt x1))))) from ⟨(iv_wide (c := (-1)) (d := 1508) ⟨p48, p49⟩ (by decide) (by decide)).1, (show _ ∧ _ from ⟨p48, p49⟩).2, (show _ ∧ _ from ⟨p54, p55⟩).1, (show _ ∧ _ from ⟨p54, p55⟩).2, (show _ ∧ _ from ⟨p48, p49⟩).1, (show _ ∧ _ from ⟨p48, p49⟩).2, (by ((repeat' apply And.intro) <;> first | trivial | rfl | assumption | omega | decide | exact Or.inl rfl | exact Or.inr (Or.inl rfl) | exact Or.inr (Or.inr rfl))), (by exact Or.inr ⟨by omega, plain_pf ((p28.resolve_left (by omega)).resolve_left (by omega)) (p51.resolve_left (by omega)) (by omega) (by omega) (by omega) (by omega)⟩)⟩) [0, 3, 4, 2, 1] (by decide) rfl (Nat.le_of_ble_eq_true rfl) (Nat.le_of_ble_eq_true rfl)
set_option maxHeartbeats 4000000 in
set_option maxRecDepth 100000 in
theorem c23_X5_get (l : Launch) (g : GD) (h0 : Nat) (h1 : Nat) (y0 : Int64) (x0 : Int32) (fn0 : Nat → Int32) (i_x0 : (0 ≤ (Int32.toInt x0) ∧ (Int32.toInt x0) ≤ 1508)) (sz : Nat) : Met l yX5_get wsX5_get ({ frames := 0, cells := 0, slots := 0, locals := 0 }) (va_Pc [.ref h0, .long y0] (PW g [(h0, .inr (4, [.ref h1, .int x0])), (h1, .inl (gB g, 1508, .inl fn0))] sz)) (va_Qi (fun (r : Int32) (_ : Unit) => -1 ≤ (Int32.toInt r) ∧ (Int32.toInt r) ≤ 255 ∧ HID ((0 ≤ (Int64.toInt y0) ∧ (Int64.toInt y0) < (Int32.toInt x0) ∧ r = (fn0 (Int.toNat (Int64.toInt y0)) &&& 255)) ∨ (((Int64.toInt y0) < 0 ∨ (Int32.toInt x0) ≤ (Int64.toInt y0)) ∧ r = -1)) ∧ (Int32.toInt r) = GB fn0 (Int32.toInt x0) (Int64.toInt y0)) (BW g (va_A [(h0, .inr (4, [.ref h1, .int x0])), (h1, .inl (gB g, 1508, .inl fn0))] sz) (fun _ : Unit => [(h0, .inr (4, [.ref h1, .int x0])), (h1, .inl (gB g, 1508, .inl fn0))])) (va_A [(h0, .inr (4, [.ref h1, .int x0])), (h1, .inl (gB g, 1508, .inl fn0))] sz)) 0 0 (va_A [(h0, .inr (4, [.ref h1, .int x0])), (h1, .inl (gB g, 1508, .inl fn0))] sz) := by
  refine met_i RX5 (by decide) rfl rfl (Nat.le_of_ble_eq_true rfl) [(0, .ref h0), (1, .long y0)] rfl ?_
  intro p e s m args below meth c A Q C hnm Rt
  have gy0 := fb_rngL y0
  have hiX5 : ∀ w ∈ wsX50, w ∈ wsX5_get := fun w h => List.mem_cons_of_mem _ (List.mem_append_right _ (h))
  refine r_lload_n 0 1 C dX5_get_0 rfl ?_
  refine r_lconst 1 0 C dX5_get_1 (by decide) ?_
  obtain ⟨z1, ez1⟩ : ∃ z_9, lg_cmp y0 0 = z_9 := ⟨_, rfl⟩
  have l1z1 : (Int32.toInt z1) < 0 ↔ (Int64.toInt y0) < 0 := by rw [← ez1]; exact lgI1 y0 0
  have l2z1 : 0 < (Int32.toInt z1) ↔ 0 < (Int64.toInt y0) := by rw [← ez1]; exact lgI2 y0 0
  refine r_lcmp 2 z1 C dX5_get_2 ez1 ?_
  refine r_if_lt 3 30 C dX5_get_3 (by decide) (fun c2 => ?_) (fun c2 => ?_)
  · skip
    have k3 : (Int32.toInt z1) < 0 := (fa_lt z1 0).mp c2
    refine r_iconst 30 (-1) C dX5_get_30 (by decide) ?_
    exact r_iret 31 Rt dX5_get_31 () (show -1 ≤ (Int32.toInt (-1)) ∧ (Int32.toInt (-1)) ≤ 255 ∧ HID ((0 ≤ (Int64.toInt y0) ∧ (Int64.toInt y0) < (Int32.toInt x0) ∧ (-1) = (fn0 (Int.toNat (Int64.toInt y0)) &&& 255)) ∨ (((Int64.toInt y0) < 0 ∨ (Int32.toInt x0) ≤ (Int64.toInt y0)) ∧ (-1) = -1)) ∧ (-1) = GB fn0 (Int32.toInt x0) (Int64.toInt y0) from ⟨(by ((repeat' apply And.intro) <;> first | trivial | rfl | assumption | omega | decide | exact Or.inl rfl | exact Or.inr (Or.inl rfl) | exact Or.inr (Or.inr rfl))), (by ((repeat' apply And.intro) <;> first | trivial | rfl | assumption | omega | decide | exact Or.inl rfl | exact Or.inr (Or.inl rfl) | exact Or.inr (Or.inr rfl))), (by first | exact Or.inr ⟨by omega, rfl⟩ | exact Or.inl ⟨by omega, by omega, get_pf (by assumption) (by assumption) (by omega)⟩), (by first | exact (gb_out (by omega)).symm | exact gb_ret (by assumption) (by assumption) (by omega) (by omega) (by omega))⟩) [0, 1] (by decide) rfl (Nat.le_of_ble_eq_true rfl) (Nat.le_of_ble_eq_true rfl)
  · skip
    have k4 : ¬ ((Int32.toInt z1) < 0) := fun h_9 => c2 ((fa_lt z1 0).mpr h_9)
    refine r_lload_n 6 1 C dX5_get_6 rfl ?_
    refine r_aload_n 7 0 C dX5_get_7 rfl ?_
    refine r_get 8 C dX5_get_8 (k := 1) 0 rfl rfl hiX5 (by decide) rfl (mg 1 rfl) (Or.inl rfl) rfl ?_
    obtain ⟨z5, ez5⟩ : ∃ z_9, Int32.toInt64 x0 = z_9 := ⟨_, rfl⟩
    have tz5 : (Int64.toInt z5) = (Int32.toInt x0) := by rw [← ez5]; exact Int32.toInt_toInt64 _
    refine r_i2l 11 z5 C dX5_get_11 ez5 ?_
    obtain ⟨z6, ez6⟩ : ∃ z_9, lg_cmp y0 z5 = z_9 := ⟨_, rfl⟩
    have l1z6 : (Int32.toInt z6) < 0 ↔ (Int64.toInt y0) < (Int64.toInt z5) := by rw [← ez6]; exact lgI1 y0 z5
    have l2z6 : 0 < (Int32.toInt z6) ↔ (Int64.toInt z5) < (Int64.toInt y0) := by rw [← ez6]; exact lgI2 y0 z5
    refine r_lcmp 12 z6 C dX5_get_12 ez6 ?_
    refine r_if_ge 13 30 C dX5_get_13 (by decide) (fun c7 => ?_) (fun c7 => ?_)
    · skip
      have k8 : 0 ≤ (Int32.toInt z6) := (fa_le 0 z6).mp c7
      refine r_iconst 30 (-1) C dX5_get_30 (by decide) ?_
      exact r_iret 31 Rt dX5_get_31 () (show -1 ≤ (Int32.toInt (-1)) ∧ (Int32.toInt (-1)) ≤ 255 ∧ HID ((0 ≤ (Int64.toInt y0) ∧ (Int64.toInt y0) < (Int32.toInt x0) ∧ (-1) = (fn0 (Int.toNat (Int64.toInt y0)) &&& 255)) ∨ (((Int64.toInt y0) < 0 ∨ (Int32.toInt x0) ≤ (Int64.toInt y0)) ∧ (-1) = -1)) ∧ (-1) = GB fn0 (Int32.toInt x0) (Int64.toInt y0) from ⟨(by ((repeat' apply And.intro) <;> first | trivial | rfl | assumption | omega | decide | exact Or.inl rfl | exact Or.inr (Or.inl rfl) | exact Or.inr (Or.inr rfl))), (by ((repeat' apply And.intro) <;> first | trivial | rfl | assumption | omega | decide | exact Or.inl rfl | exact Or.inr (Or.inl rfl) | exact Or.inr (Or.inr rfl))), (by first | exact Or.inr ⟨by omega, rfl⟩ | exact Or.inl ⟨by omega, by omega, get_pf (by assumption) (by assumption) (by omega)⟩), (by first | exact (gb_out (by omega)).symm | exact gb_ret (by assumption) (by assumption) (by omega) (by omega) (by omega))⟩) [0, 1] (by decide) rfl (Nat.le_of_ble_eq_true rfl) (Nat.le_of_ble_eq_true rfl)
    · skip
      have k9 : ¬ (0 ≤ (Int32.toInt z6)) := fun h_9 => c7 ((fa_le 0 z6).mpr h_9)
      refine r_aload_n 16 0 C dX5_get_16 rfl ?_
      refine r_get 17 C dX5_get_17 (k := 0) 0 rfl rfl hiX5 (by decide) rfl (mg 2 rfl) (Or.inl rfl) rfl ?_
      refine r_lload_n 20 1 C dX5_get_20 rfl ?_
      obtain ⟨z10, ez10⟩ : ∃ z_9, Int64.toInt32 y0 = z_9 := ⟨_, rfl⟩
      have tz10 : (Int32.toInt z10) = (Int64.toInt y0) := by rw [← ez10]; exact l2i_in (by omega) (by omega)
      refine r_l2i 21 z10 C dX5_get_21 ez10 ?_
      obtain ⟨z11, ez11⟩ : ∃ z_9, fn0 (Int32.toNatClampNeg z10) = z_9 := ⟨_, rfl⟩
      refine r_bald 22 z11 C dX5_get_22 1 rfl (vinI (by omega) (by omega)) ez11 ?_
      have gz11 := fb_rng z11
      refine r_sipush 23 255 C dX5_get_23 (by decide) ?_
      obtain ⟨z12, ez12⟩ : ∃ z_9, z11 &&& 255 = z_9 := ⟨_, rfl⟩
      have tz12 : 0 ≤ (Int32.toInt z12) ∧ (Int32.toInt z12) ≤ 255 := by rw [← ez12]; exact and_255 z11
      refine r_iand 26 z12 C dX5_get_26 ez12 ?_
      refine r_goto 27 31 C dX5_get_27 (by decide) ?_
      exact r_iret 31 Rt dX5_get_31 () (show -1 ≤ (Int32.toInt z12) ∧ (Int32.toInt z12) ≤ 255 ∧ HID ((0 ≤ (Int64.toInt y0) ∧ (Int64.toInt y0) < (Int32.toInt x0) ∧ z12 = (fn0 (Int.toNat (Int64.toInt y0)) &&& 255)) ∨ (((Int64.toInt y0) < 0 ∨ (Int32.toInt x0) ≤ (Int64.toInt y0)) ∧ z12 = -1)) ∧ (Int32.toInt z12) = GB fn0 (Int32.toInt x0) (Int64.toInt y0) from ⟨(iv_wide (c := (-1)) (d := 255) tz12 (by decide) (by decide)).1, (iv_wide (c := (-1)) (d := 255) tz12 (by decide) (by decide)).2, (by first | exact Or.inr ⟨by omega, rfl⟩ | exact Or.inl ⟨by omega, by omega, get_pf (by assumption) (by assumption) (by omega)⟩), (by first | exact (gb_out (by omega)).symm | exact gb_ret (by assumption) (by assumption) (by omega) (by omega) (by omega))⟩) [0, 1] (by decide) rfl (Nat.le_of_ble_eq_true rfl) (Nat.le_of_ble_eq_true rfl)
set_option maxHeartbeats 4000000 in
set_option maxRecDepth 100000 in
theorem c24_X11_octet (l : Launch) (g : GD) (h0 : Nat) (h1 : Nat) (h2 : Nat) (x0 : Int32) (h3 : Nat) (h4 : Nat) (h5 : Nat) (h6 : Nat) (h7 : Nat) (h8 : Nat) (h9 : Nat) (h10 : Nat) (vv0 : Value) (x1 : Int32) (fn0 : Nat → Int32) (i_x1 : (0 ≤ (Int32.toInt x1) ∧ (Int32.toInt x1) ≤ 1508)) (sz : Nat) : Met l yX11_octet wsX11_octet ({ frames := 1, cells := 0, slots := 0, locals := 22 }) (va_Pc [.ref h0, .int x0] (PW g [(h0, .inr (10, [.ref h3, .ref h1, .ref h4, .ref h5, .ref h6, .ref h7, .ref h8, .ref h9, .ref h10, vv0])), (h1, .inr (4, [.ref h2, .int x1])), (h2, .inl (gB g, 1508, .inl fn0))] sz)) (va_Qi (fun (r : Int32) (_ : Unit) => -1 ≤ (Int32.toInt r) ∧ (Int32.toInt r) ≤ 255 ∧ HID ((0 ≤ (Int32.toInt x0) ∧ (Int32.toInt x0) < (Int32.toInt x1) ∧ r = (fn0 (Int.toNat (Int32.toInt x0)) &&& 255)) ∨ (((Int32.toInt x0) < 0 ∨ (Int32.toInt x1) ≤ (Int32.toInt x0)) ∧ r = -1))) (BW g (va_A [(h0, .inr (10, [.ref h3, .ref h1, .ref h4, .ref h5, .ref h6, .ref h7, .ref h8, .ref h9, .ref h10, vv0])), (h1, .inr (4, [.ref h2, .int x1])), (h2, .inl (gB g, 1508, .inl fn0))] sz) (fun _ : Unit => [(h0, .inr (10, [.ref h3, .ref h1, .ref h4, .ref h5, .ref h6, .ref h7, .ref h8, .ref h9, .ref h10, vv0])), (h1, .inr (4, [.ref h2, .int x1])), (h2, .inl (gB g, 1508, .inl fn0))])) (va_A [(h0, .inr (10, [.ref h3, .ref h1, .ref h4, .ref h5, .ref h6, .ref h7, .ref h8, .ref h9, .ref h10, vv0])), (h1, .inr (4, [.ref h2, .int x1])), (h2, .inl (gB g, 1508, .inl fn0))] sz)) 0 0 (va_A [(h0, .inr (10, [.ref h3, .ref h1, .ref h4, .ref h5, .ref h6, .ref h7, .ref h8, .ref h9, .ref h10, vv0])), (h1, .inr (4, [.ref h2, .int x1])), (h2, .inl (gB g, 1508, .inl fn0))] sz) := by
  refine met_i RX11 (by decide) rfl rfl (Nat.le_of_ble_eq_true rfl) [(0, .ref h0), (1, .int x0)] rfl ?_
  intro p e s m args below meth c A Q C hnm Rt
  have gx0 := fb_rng x0
  have hiX11 : ∀ w ∈ wsX110, w ∈ wsX11_octet := fun w h => List.mem_cons_of_mem _ (List.mem_append_left _ (List.mem_append_right _ (h)))
  refine r_aload_n 0 0 C dX11_octet_0 rfl ?_
  refine r_get 1 C dX11_octet_1 (k := 1) 0 rfl rfl hiX11 (by decide) rfl (mg 1 rfl) (Or.inl rfl) rfl ?_
  refine r_iload_n 4 1 C dX11_octet_4 rfl ?_
  obtain ⟨z1, ez1⟩ : ∃ z_9, Int32.toInt64 x0 = z_9 := ⟨_, rfl⟩
  have tz1 : (Int64.toInt z1) = (Int32.toInt x0) := by rw [← ez1]; exact Int32.toInt_toInt64 _
  refine r_i2l 5 z1 C dX11_octet_5 ez1 ?_
  refine r_callVi 6 C dX11_octet_6 [] [(h1, .inr (4, [.ref h2, .int x1])), (h2, .inl (gB g, 1508, .inl fn0))] [(h0, .inr (10, [.ref h3, .ref h1, .ref h4, .ref h5, .ref h6, .ref h7, .ref h8, .ref h9, .ref h10, vv0]))] (fun sz => c23_X5_get l g h1 h2 z1 x1 fn0 i_x1 sz) gX11_octet_X5_get rfl ⟨rfl, rfl⟩ 1 (by decide) ⟨Nat.le_of_ble_eq_true rfl, Nat.le_of_ble_eq_true rfl⟩ 1 rfl rfl [1, 2] [0] rfl rfl (by decide) (by decide) (by decide) rfl rfl (Nat.le_of_ble_eq_true rfl) ⟨Nat.le_of_ble_eq_true rfl, Nat.le_of_ble_eq_true rfl⟩ (fun r2 _ w3 => ?_)
  refine r_ws [(h0, .inr (10, [.ref h3, .ref h1, .ref h4, .ref h5, .ref h6, .ref h7, .ref h8, .ref h9, .ref h10, vv0])), (h1, .inr (4, [.ref h2, .int x1])), (h2, .inl (gB g, 1508, .inl fn0))] rfl ?_
  have p4 : -1 ≤ (Int32.toInt r2) := w3.1
  have p5 : (Int32.toInt r2) ≤ 255 := w3.2.1
  have p6 : HID ((0 ≤ (Int64.toInt z1) ∧ (Int64.toInt z1) < (Int32.toInt x1) ∧ r2 = (fn0 (Int.toNat (Int64.toInt z1)) &&& 255)) ∨ (((Int64.toInt z1) < 0 ∨ (Int32.toInt x1) ≤ (Int64.toInt z1)) ∧ r2 = -1)) := w3.2.2.1
  have p7 : (Int32.toInt r2) = GB fn0 (Int32.toInt x1) (Int64.toInt z1) := w3.2.2.2
  exact r_iret 9 Rt dX11_octet_9 () (show -1 ≤ (Int32.toInt r2) ∧ (Int32.toInt r2) ≤ 255 ∧ HID ((0 ≤ (Int32.toInt x0) ∧ (Int32.toInt x0) < (Int32.toInt x1) ∧ r2 = (fn0 (Int.toNat (Int32.toInt x0)) &&& 255)) ∨ (((Int32.toInt x0) < 0 ∨ (Int32.toInt x1) ≤ (Int32.toInt x0)) ∧ r2 = -1)) from ⟨(show _ ∧ _ from ⟨p4, p5⟩).1, (show _ ∧ _ from ⟨p4, p5⟩).2, (by exact oct_pf p6 (by omega))⟩) [0, 1, 2] (by decide) rfl (Nat.le_of_ble_eq_true rfl) (Nat.le_of_ble_eq_true rfl)
set_option maxHeartbeats 4000000 in
set_option maxRecDepth 100000 in
theorem c25_X5_addAll (l : Launch) (g : GD) (h0 : Nat) (h1 : Nat) (h2 : Nat) (h3 : Nat) (x0 : Int32) (x1 : Int32) (x2 : Int32) (fn0 : Nat → Int32) (fn1 : Nat → Int32) (i_x1 : (0 ≤ (Int32.toInt x1) ∧ (Int32.toInt x1) ≤ 1500)) (i_x2 : (0 ≤ (Int32.toInt x2) ∧ (Int32.toInt x2) ≤ 1508)) (sz : Nat) : Met l yX5_addAll wsX5_addAll ({ frames := 1, cells := 0, slots := 0, locals := 22 }) (va_Pc [.ref h0, .ref h1, .int x0] (PW g [(h0, .inr (4, [.ref h2, .int x1])), (h1, .inr (4, [.ref h3, .int x2])), (h2, .inl (gB g, 1500, .inl fn0)), (h3, .inl (gB g, 1508, .inl fn1))] sz)) (va_Qv (fun (u : (Int32) × (Nat → Int32)) => 0 ≤ (Int32.toInt (u.1)) ∧ (Int32.toInt (u.1)) ≤ 1500 ∧ (((Int32.toInt x0) ≤ 0 ∧ (((Int32.toInt x2) ≤ 0 ∧ (Int32.toInt (u.1)) = (Int32.toInt x1)) ∨ (0 < (Int32.toInt x2) ∧ (Int32.toInt x1) + (Int32.toInt x2) ≤ 1500 ∧ (Int32.toInt (u.1)) = (Int32.toInt x1) + (Int32.toInt x2)) ∨ 1500 < (Int32.toInt x1) + (Int32.toInt x2))) ∨ (0 ≤ (Int32.toInt x0) ∧ (((Int32.toInt x2) ≤ (Int32.toInt x0) ∧ (Int32.toInt (u.1)) = (Int32.toInt x1)) ∨ ((Int32.toInt x0) < (Int32.toInt x2) ∧ (Int32.toInt x1) + (Int32.toInt x2) - (Int32.toInt x0) ≤ 1500 ∧ (Int32.toInt (u.1)) = (Int32.toInt x1) + (Int32.toInt x2) - (Int32.toInt x0)) ∨ 1500 < (Int32.toInt x1) + (Int32.toInt x2) - (Int32.toInt x0)))) ∧ HID (1500 < (Int32.toInt x1) + (Int32.toInt x2) ∨ (u.2) = cpy fn0 (Int.toNat (Int32.toInt x1)) fn1 (Int.toNat (Int32.toInt x0)) ((Int.toNat (Int32.toInt x2)) - (Int.toNat (Int32.toInt x0))))) (BW g (va_A [(h0, .inr (4, [.ref h2, .int x1])), (h1, .inr (4, [.ref h3, .int x2])), (h2, .inl (gB g, 1500, .inl fn0)), (h3, .inl (gB g, 1508, .inl fn1))] sz) (fun u : (Int32) × (Nat → Int32) => [(h0, .inr (4, [.ref h2, .int u.1])), (h1, .inr (4, [.ref h3, .int x2])), (h2, .inl (gB g, 1500, .inl u.2)), (h3, .inl (gB g, 1508, .inl fn1))])) (va_A [(h0, .inr (4, [.ref h2, .int x1])), (h1, .inr (4, [.ref h3, .int x2])), (h2, .inl (gB g, 1500, .inl fn0)), (h3, .inl (gB g, 1508, .inl fn1))] sz)) 0 0 (va_A [(h0, .inr (4, [.ref h2, .int x1])), (h1, .inr (4, [.ref h3, .int x2])), (h2, .inl (gB g, 1500, .inl fn0)), (h3, .inl (gB g, 1508, .inl fn1))] sz) := by
  refine met_v RX5 (by decide) rfl rfl (Nat.le_of_ble_eq_true rfl) [(0, .ref h0), (1, .ref h1), (2, .int x0)] rfl ?_
  intro p e s m args below meth c A Q C hnm Rt
  have gx0 := fb_rng x0
  have hiX5 : ∀ w ∈ wsX50, w ∈ wsX5_addAll := fun w h => List.mem_cons_of_mem _ (List.mem_append_right _ (h))
  refine r_iload_n 0 2 C dX5_addAll_0 rfl ?_
  refine r_iconst 1 0 C dX5_addAll_1 (by decide) ?_
  obtain ⟨z1, ez1⟩ : ∃ z_9, (if x0 < 0 then 0 else x0) = z_9 := ⟨_, rfl⟩
  have tz1 : ((Int32.toInt x0) < 0 ∧ (Int32.toInt z1) = 0) ∨ (¬ ((Int32.toInt x0) < 0) ∧ (Int32.toInt z1) = (Int32.toInt x0)) := by rw [← ez1]; exact mx_or x0 0 0 x0
  refine r_mmax 2 z1 C dX5_addAll_2 (mg 1 rfl) (mg 2 rfl) (mg 3 rfl) (mg 4 rfl) (Nat.le_of_ble_eq_true rfl) (Nat.le_of_ble_eq_true rfl) (Nat.le_of_ble_eq_true rfl) (Nat.le_of_ble_eq_true rfl) ez1 ?_
  refine r_istore_n 5 C dX5_addAll_5 [(3, .int z1), (0, .ref h0), (1, .ref h1), (2, .int x0)] (by decide) rfl ?_
  have lp6 : ∀ (n5 : Nat) (z2 : Int32) (z3 : Int32) (f4 : Nat → Int32), (0 ≤ (Int32.toInt z2) ∧ (Int32.toInt z2) ≤ 2147483647) → (0 ≤ (Int32.toInt z3) ∧ (Int32.toInt z3) ≤ 1500) → (((Int32.toInt x0) ≤ 0 ∧ ((Int32.toInt z3) = (Int32.toInt x1) + (Int32.toInt z2) ∨ ((Int32.toInt z3) = 1500 ∧ 1500 ≤ (Int32.toInt x1) + (Int32.toInt z2))) ∧ ((Int32.toInt z2) ≤ (Int32.toInt x2) ∨ (Int32.toInt z2) = 0)) ∨ (0 ≤ (Int32.toInt x0) ∧ ((Int32.toInt z3) = (Int32.toInt x1) + (Int32.toInt z2) - (Int32.toInt x0) ∨ ((Int32.toInt z3) = 1500 ∧ 1500 ≤ (Int32.toInt x1) + (Int32.toInt z2) - (Int32.toInt x0))) ∧ (Int32.toInt x0) ≤ (Int32.toInt z2) ∧ ((Int32.toInt z2) ≤ (Int32.toInt x2) ∨ (Int32.toInt z2) = (Int32.toInt x0)))) → (HID (1500 < (Int32.toInt x1) + (Int32.toInt x2) ∨ f4 = cpy fn0 (Int.toNat (Int32.toInt x1)) fn1 (Int.toNat (Int32.toInt x0)) ((Int.toNat (Int32.toInt z2)) - (Int.toNat (Int32.toInt x0))))) → Int.toNat (2147483647 - (Int32.toInt z2)) < n5 → WW p l e ({ frames := 1, cells := 0, slots := 0, locals := 22 } : Room) s m args below meth c A Q g 4 0 0 [(h0, .inr (4, [.ref h2, .int z3])), (h1, .inr (4, [.ref h3, .int x2])), (h2, .inl (gB g, 1500, .inl f4)), (h3, .inl (gB g, 1508, .inl fn1))] 6 [(3, .int z2), (0, .ref h0), (1, .ref h1), (2, .int x0)] [] := by
    intro n5
    induction n5 with
    | zero => intro z2 z3 f4 i9 i10 j11 j12 hm8; exact absurd hm8 (Nat.not_lt_zero _)
    | succ n5 ih7 =>
      intro z2 z3 f4 i9 i10 j11 j12 hm8
      obtain ⟨i9a, i9b⟩ := i9
      obtain ⟨i10a, i10b⟩ := i10
      refine r_iload_n 6 0 C dX5_addAll_6 rfl ?_
      refine r_aload_n 7 2 C dX5_addAll_7 rfl ?_
      refine r_get 8 C dX5_addAll_8 (k := 1) 1 rfl rfl hiX5 (by decide) rfl (mg 5 rfl) (Or.inl rfl) rfl ?_
      refine r_icmp_ge 11 30 C dX5_addAll_11 (by decide) (fun c13 => ?_) (fun c13 => ?_)
      · skip
        have k14 : (Int32.toInt x2) ≤ (Int32.toInt z2) := (fa_le x2 z2).mp c13
        exact r_vret 30 Rt dX5_addAll_30 (z3, f4) (show 0 ≤ (Int32.toInt z3) ∧ (Int32.toInt z3) ≤ 1500 ∧ (((Int32.toInt x0) ≤ 0 ∧ (((Int32.toInt x2) ≤ 0 ∧ (Int32.toInt z3) = (Int32.toInt x1)) ∨ (0 < (Int32.toInt x2) ∧ (Int32.toInt x1) + (Int32.toInt x2) ≤ 1500 ∧ (Int32.toInt z3) = (Int32.toInt x1) + (Int32.toInt x2)) ∨ 1500 < (Int32.toInt x1) + (Int32.toInt x2))) ∨ (0 ≤ (Int32.toInt x0) ∧ (((Int32.toInt x2) ≤ (Int32.toInt x0) ∧ (Int32.toInt z3) = (Int32.toInt x1)) ∨ ((Int32.toInt x0) < (Int32.toInt x2) ∧ (Int32.toInt x1) + (Int32.toInt x2) - (Int32.toInt x0) ≤ 1500 ∧ (Int32.toInt z3) = (Int32.toInt x1) + (Int32.toInt x2) - (Int32.toInt x0)) ∨ 1500 < (Int32.toInt x1) + (Int32.toInt x2) - (Int32.toInt x0)))) ∧ HID (1500 < (Int32.toInt x1) + (Int32.toInt x2) ∨ f4 = cpy fn0 (Int.toNat (Int32.toInt x1)) fn1 (Int.toNat (Int32.toInt x0)) ((Int.toNat (Int32.toInt x2)) - (Int.toNat (Int32.toInt x0)))) from ⟨(show _ ∧ _ from ⟨i10a, i10b⟩).1, (show _ ∧ _ from ⟨i10a, i10b⟩).2, (by ((repeat' apply And.intro) <;> first | trivial | rfl | assumption | omega | decide | exact Or.inl rfl | exact Or.inr (Or.inl rfl) | exact Or.inr (Or.inr rfl))), (by first | exact Or.inl (by omega) | exact (show HID (1500 < (Int32.toInt x1) + (Int32.toInt x2) ∨ f4 = cpy fn0 (Int.toNat (Int32.toInt x1)) fn1 (Int.toNat (Int32.toInt x0)) ((Int.toNat (Int32.toInt z2)) - (Int.toNat (Int32.toInt x0)))) by assumption).imp id (fun h_9 => cpy_k h_9 (by omega)))⟩) [0, 1, 2, 3] (by decide) rfl (Nat.le_of_ble_eq_true rfl) (Nat.le_of_ble_eq_true rfl)
      · skip
        have k15 : ¬ ((Int32.toInt x2) ≤ (Int32.toInt z2)) := fun h_9 => c13 ((fa_le x2 z2).mpr h_9)
        refine r_aload_n 14 1 C dX5_addAll_14 rfl ?_
        refine r_aload_n 15 2 C dX5_addAll_15 rfl ?_
        refine r_iload_n 16 0 C dX5_addAll_16 rfl ?_
        obtain ⟨z16, ez16⟩ : ∃ z_9, Int32.toInt64 z2 = z_9 := ⟨_, rfl⟩
        have tz16 : (Int64.toInt z16) = (Int32.toInt z2) := by rw [← ez16]; exact Int32.toInt_toInt64 _
        refine r_i2l 17 z16 C dX5_addAll_17 ez16 ?_
        refine r_callVi 18 C dX5_addAll_18 [.ref h0] [(h1, .inr (4, [.ref h3, .int x2])), (h3, .inl (gB g, 1508, .inl fn1))] [(h0, .inr (4, [.ref h2, .int z3])), (h2, .inl (gB g, 1500, .inl f4))] (fun sz => c23_X5_get l g h1 h3 z16 x2 fn1 i_x2 sz) gX5_addAll_X5_get rfl ⟨rfl, rfl⟩ 1 (by decide) ⟨Nat.le_of_ble_eq_true rfl, Nat.le_of_ble_eq_true rfl⟩ 1 rfl rfl [1, 3] [0, 2] rfl rfl (by decide) (by decide) (by decide) rfl rfl (Nat.le_of_ble_eq_true rfl) ⟨Nat.le_of_ble_eq_true rfl, Nat.le_of_ble_eq_true rfl⟩ (fun r17 _ w18 => ?_)
        refine r_ws [(h0, .inr (4, [.ref h2, .int z3])), (h2, .inl (gB g, 1500, .inl f4)), (h1, .inr (4, [.ref h3, .int x2])), (h3, .inl (gB g, 1508, .inl fn1))] rfl ?_
        have p19 : -1 ≤ (Int32.toInt r17) := w18.1
        have p20 : (Int32.toInt r17) ≤ 255 := w18.2.1
        have p21 : HID ((0 ≤ (Int64.toInt z16) ∧ (Int64.toInt z16) < (Int32.toInt x2) ∧ r17 = (fn1 (Int.toNat (Int64.toInt z16)) &&& 255)) ∨ (((Int64.toInt z16) < 0 ∨ (Int32.toInt x2) ≤ (Int64.toInt z16)) ∧ r17 = -1)) := w18.2.2.1
        have p22 : (Int32.toInt r17) = GB fn1 (Int32.toInt x2) (Int64.toInt z16) := w18.2.2.2
        refine r_callVv 21 C dX5_addAll_21 [] [(h0, .inr (4, [.ref h2, .int z3])), (h2, .inl (gB g, 1500, .inl f4))] [(h1, .inr (4, [.ref h3, .int x2])), (h3, .inl (gB g, 1508, .inl fn1))] (fun sz => c1_X5_add l g h0 h2 r17 z3 f4 ⟨i10a, i10b⟩ sz) gX5_addAll_X5_add rfl ⟨rfl, rfl⟩ 1 (by decide) ⟨Nat.le_of_ble_eq_true rfl, Nat.le_of_ble_eq_true rfl⟩ 0 rfl rfl [0, 1] [2, 3] rfl rfl (by decide) (by decide) (by decide) rfl rfl (Nat.le_of_ble_eq_true rfl) ⟨Nat.le_of_ble_eq_true rfl, Nat.le_of_ble_eq_true rfl⟩ (fun  u26 w25 => ?_)
        obtain ⟨z23, f24⟩ := u26
        refine r_ws [(h1, .inr (4, [.ref h3, .int x2])), (h3, .inl (gB g, 1508, .inl fn1)), (h0, .inr (4, [.ref h2, .int z23])), (h2, .inl (gB g, 1500, .inl f24))] rfl ?_
        have p27 : 0 ≤ (Int32.toInt z23) := w25.2.1
        have p28 : (Int32.toInt z23) ≤ 1500 := w25.2.2.1
        have p29 : HID (1500 ≤ (Int32.toInt z3) ∨ f24 = upd f4 (Int.toNat (Int32.toInt z3)) (st8 r17)) := w25.2.2.2
        have w30 : ((1500 ≤ (Int32.toInt z3) ∧ (Int32.toInt z23) = (Int32.toInt z3)) ∨ (¬ (1500 ≤ (Int32.toInt z3)) ∧ (Int32.toInt z23) = (Int32.toInt z3) + 1)) := w25.1
        rcases w30 with ⟨k31, k32⟩ | w30
        · skip
          obtain ⟨z33, ez33⟩ : ∃ z_9, z2 + Int32.ofInt 1 = z_9 := ⟨_, rfl⟩
          have tz33 : (Int32.toInt z33) = (Int32.toInt z2) + 1 := by rw [← ez33]; exact fb_addI (by show -2147483648 ≤ (Int32.toInt z2) + 1; omega) (by show (Int32.toInt z2) + 1 < 2147483648; omega)
          refine r_iinc 24 0 z33 C dX5_addAll_24 rfl ez33 [(3, .int z33), (0, .ref h0), (1, .ref h1), (2, .int x0)] (by decide) rfl ?_
          refine r_goto 27 6 C dX5_addAll_27 (by decide) ?_
          refine r_pick [(h0, .inr (4, [.ref h2, .int z23])), (h1, .inr (4, [.ref h3, .int x2])), (h2, .inl (gB g, 1500, .inl f24)), (h3, .inl (gB g, 1508, .inl fn1))] [2, 0, 3, 1] (by decide) rfl ?_
          exact ih7 z33 z23 f24 ⟨by omega, by omega⟩ ⟨p27, p28⟩ (by show ((Int32.toInt x0) ≤ 0 ∧ ((Int32.toInt z23) = (Int32.toInt x1) + (Int32.toInt z33) ∨ ((Int32.toInt z23) = 1500 ∧ 1500 ≤ (Int32.toInt x1) + (Int32.toInt z33))) ∧ ((Int32.toInt z33) ≤ (Int32.toInt x2) ∨ (Int32.toInt z33) = 0)) ∨ (0 ≤ (Int32.toInt x0) ∧ ((Int32.toInt z23) = (Int32.toInt x1) + (Int32.toInt z33) - (Int32.toInt x0) ∨ ((Int32.toInt z23) = 1500 ∧ 1500 ≤ (Int32.toInt x1) + (Int32.toInt z33) - (Int32.toInt x0))) ∧ (Int32.toInt x0) ≤ (Int32.toInt z33) ∧ ((Int32.toInt z33) ≤ (Int32.toInt x2) ∨ (Int32.toInt z33) = (Int32.toInt x0))); omega) (by first | exact Or.inl (by omega) | exact (show HID (1500 < (Int32.toInt x1) + (Int32.toInt x2) ∨ f4 = cpy fn0 (Int.toNat (Int32.toInt x1)) fn1 (Int.toNat (Int32.toInt x0)) ((Int.toNat (Int32.toInt z2)) - (Int.toNat (Int32.toInt x0)))) by assumption).imp id (fun h_9 => cpy_step h_9 (by omega) (by omega) (by omega) ((p21.resolve_right (by omega)).2.2) (p29.resolve_left (by omega)))) (by omega)
        obtain ⟨k34, k35⟩ := w30
        obtain ⟨z36, ez36⟩ : ∃ z_9, z2 + Int32.ofInt 1 = z_9 := ⟨_, rfl⟩
        have tz36 : (Int32.toInt z36) = (Int32.toInt z2) + 1 := by rw [← ez36]; exact fb_addI (by show -2147483648 ≤ (Int32.toInt z2) + 1; omega) (by show (Int32.toInt z2) + 1 < 2147483648; omega)
        refine r_iinc 24 0 z36 C dX5_addAll_24 rfl ez36 [(3, .int z36), (0, .ref h0), (1, .ref h1), (2, .int x0)] (by decide) rfl ?_
        refine r_goto 27 6 C dX5_addAll_27 (by decide) ?_
        refine r_pick [(h0, .inr (4, [.ref h2, .int z23])), (h1, .inr (4, [.ref h3, .int x2])), (h2, .inl (gB g, 1500, .inl f24)), (h3, .inl (gB g, 1508, .inl fn1))] [2, 0, 3, 1] (by decide) rfl ?_
        exact ih7 z36 z23 f24 ⟨by omega, by omega⟩ ⟨p27, p28⟩ (by show ((Int32.toInt x0) ≤ 0 ∧ ((Int32.toInt z23) = (Int32.toInt x1) + (Int32.toInt z36) ∨ ((Int32.toInt z23) = 1500 ∧ 1500 ≤ (Int32.toInt x1) + (Int32.toInt z36))) ∧ ((Int32.toInt z36) ≤ (Int32.toInt x2) ∨ (Int32.toInt z36) = 0)) ∨ (0 ≤ (Int32.toInt x0) ∧ ((Int32.toInt z23) = (Int32.toInt x1) + (Int32.toInt z36) - (Int32.toInt x0) ∨ ((Int32.toInt z23) = 1500 ∧ 1500 ≤ (Int32.toInt x1) + (Int32.toInt z36) - (Int32.toInt x0))) ∧ (Int32.toInt x0) ≤ (Int32.toInt z36) ∧ ((Int32.toInt z36) ≤ (Int32.toInt x2) ∨ (Int32.toInt z36) = (Int32.toInt x0))); omega) (by first | exact Or.inl (by omega) | exact (show HID (1500 < (Int32.toInt x1) + (Int32.toInt x2) ∨ f4 = cpy fn0 (Int.toNat (Int32.toInt x1)) fn1 (Int.toNat (Int32.toInt x0)) ((Int.toNat (Int32.toInt z2)) - (Int.toNat (Int32.toInt x0)))) by assumption).imp id (fun h_9 => cpy_step h_9 (by omega) (by omega) (by omega) ((p21.resolve_right (by omega)).2.2) (p29.resolve_left (by omega)))) (by omega)
  exact lp6 _ z1 x1 fn0 ⟨by omega, by omega⟩ i_x1 (by show ((Int32.toInt x0) ≤ 0 ∧ ((Int32.toInt x1) = (Int32.toInt x1) + (Int32.toInt z1) ∨ ((Int32.toInt x1) = 1500 ∧ 1500 ≤ (Int32.toInt x1) + (Int32.toInt z1))) ∧ ((Int32.toInt z1) ≤ (Int32.toInt x2) ∨ (Int32.toInt z1) = 0)) ∨ (0 ≤ (Int32.toInt x0) ∧ ((Int32.toInt x1) = (Int32.toInt x1) + (Int32.toInt z1) - (Int32.toInt x0) ∨ ((Int32.toInt x1) = 1500 ∧ 1500 ≤ (Int32.toInt x1) + (Int32.toInt z1) - (Int32.toInt x0))) ∧ (Int32.toInt x0) ≤ (Int32.toInt z1) ∧ ((Int32.toInt z1) ≤ (Int32.toInt x2) ∨ (Int32.toInt z1) = (Int32.toInt x0))); omega) (Or.inr (cpy_0 (by omega))) (Nat.lt_succ_self _)
set_option maxHeartbeats 4000000 in
set_option maxRecDepth 100000 in
theorem c26_X11_back (l : Launch) (g : GD) (h0 : Nat) (h1 : Nat) (h2 : Nat) (h3 : Nat) (h4 : Nat) (h5 : Nat) (h6 : Nat) (h7 : Nat) (h8 : Nat) (h9 : Nat) (h10 : Nat) (h11 : Nat) (vv0 : Value) (x0 : Int32) (x1 : Int32) (fn0 : Nat → Int32) (fn1 : Nat → Int32) (i_x0 : (0 ≤ (Int32.toInt x0) ∧ (Int32.toInt x0) ≤ 1500)) (i_x1 : (0 ≤ (Int32.toInt x1) ∧ (Int32.toInt x1) ≤ 1508)) (sz : Nat) : Met l yX11_back wsX11_back ({ frames := 2, cells := 0, slots := 0, locals := 45 }) (va_Pc [.ref h0] (PW g [(h0, .inr (10, [.ref h1, .ref h2, .ref h5, .ref h6, .ref h7, .ref h8, .ref h9, .ref h10, .ref h11, vv0])), (h1, .inr (4, [.ref h3, .int x0])), (h2, .inr (4, [.ref h4, .int x1])), (h3, .inl (gB g, 1500, .inl fn0)), (h4, .inl (gB g, 1508, .inl fn1))] sz)) (va_Qi (fun (r : Int32) (u : (Int32) × (Int32) × (Nat → Int32)) => -1 ≤ (Int32.toInt r) ∧ (Int32.toInt r) ≤ 1500 ∧ 0 ≤ (Int32.toInt (u.1)) ∧ (Int32.toInt (u.1)) ≤ 1500 ∧ 0 ≤ (Int32.toInt (u.2.1)) ∧ (Int32.toInt (u.2.1)) ≤ 1508 ∧ (((Int32.toInt x0) + (Int32.toInt x1) ≤ 1500 ∧ (Int32.toInt (u.1)) = (Int32.toInt x0) + (Int32.toInt x1) ∧ (Int32.toInt (u.2.1)) = 0 ∧ (Int32.toInt r) = (Int32.toInt (u.1))) ∨ (1500 < (Int32.toInt x0) + (Int32.toInt x1) ∧ (Int32.toInt (u.1)) = (Int32.toInt x0) ∧ (Int32.toInt (u.2.1)) = (Int32.toInt x1) ∧ (Int32.toInt r) = -1)) ∧ HID ((1500 < (Int32.toInt x0) + (Int32.toInt x1) ∧ (u.2.2) = fn0) ∨ ((Int32.toInt x0) + (Int32.toInt x1) ≤ 1500 ∧ (u.2.2) = cpy fn0 (Int.toNat (Int32.toInt x0)) fn1 0 (Int.toNat (Int32.toInt x1))))) (BW g (va_A [(h0, .inr (10, [.ref h1, .ref h2, .ref h5, .ref h6, .ref h7, .ref h8, .ref h9, .ref h10, .ref h11, vv0])), (h1, .inr (4, [.ref h3, .int x0])), (h2, .inr (4, [.ref h4, .int x1])), (h3, .inl (gB g, 1500, .inl fn0)), (h4, .inl (gB g, 1508, .inl fn1))] sz) (fun u : (Int32) × (Int32) × (Nat → Int32) => [(h0, .inr (10, [.ref h1, .ref h2, .ref h5, .ref h6, .ref h7, .ref h8, .ref h9, .ref h10, .ref h11, vv0])), (h1, .inr (4, [.ref h3, .int u.1])), (h2, .inr (4, [.ref h4, .int u.2.1])), (h3, .inl (gB g, 1500, .inl u.2.2)), (h4, .inl (gB g, 1508, .inl fn1))])) (va_A [(h0, .inr (10, [.ref h1, .ref h2, .ref h5, .ref h6, .ref h7, .ref h8, .ref h9, .ref h10, .ref h11, vv0])), (h1, .inr (4, [.ref h3, .int x0])), (h2, .inr (4, [.ref h4, .int x1])), (h3, .inl (gB g, 1500, .inl fn0)), (h4, .inl (gB g, 1508, .inl fn1))] sz)) 0 0 (va_A [(h0, .inr (10, [.ref h1, .ref h2, .ref h5, .ref h6, .ref h7, .ref h8, .ref h9, .ref h10, .ref h11, vv0])), (h1, .inr (4, [.ref h3, .int x0])), (h2, .inr (4, [.ref h4, .int x1])), (h3, .inl (gB g, 1500, .inl fn0)), (h4, .inl (gB g, 1508, .inl fn1))] sz) := by
  refine met_i RX11 (by decide) rfl rfl (Nat.le_of_ble_eq_true rfl) [(0, .ref h0)] rfl ?_
  intro p e s m args below meth c A Q C hnm Rt
  have hiX11 : ∀ w ∈ wsX110, w ∈ wsX11_back := fun w h => List.mem_cons_of_mem _ (List.mem_append_left _ (List.mem_append_right _ (h)))
  refine r_aload_n 0 0 C dX11_back_0 rfl ?_
  refine r_get 1 C dX11_back_1 (k := 0) 0 rfl rfl hiX11 (by decide) rfl (mg 1 rfl) (Or.inl rfl) rfl ?_
  refine r_callVi 4 C dX11_back_4 [] [(h1, .inr (4, [.ref h3, .int x0]))] [(h0, .inr (10, [.ref h1, .ref h2, .ref h5, .ref h6, .ref h7, .ref h8, .ref h9, .ref h10, .ref h11, vv0])), (h2, .inr (4, [.ref h4, .int x1])), (h3, .inl (gB g, 1500, .inl fn0)), (h4, .inl (gB g, 1508, .inl fn1))] (fun sz => c0_X5_size l g h1 h3 x0 i_x0 sz) gX11_back_X5_size rfl ⟨rfl, rfl⟩ 0 (by decide) ⟨Nat.le_of_ble_eq_true rfl, Nat.le_of_ble_eq_true rfl⟩ 1 rfl rfl [1] [0, 2, 3, 4] rfl rfl (by decide) (by decide) (by decide) rfl rfl (Nat.le_of_ble_eq_true rfl) ⟨Nat.le_of_ble_eq_true rfl, Nat.le_of_ble_eq_true rfl⟩ (fun r1 _ w2 => ?_)
  refine r_ws [(h0, .inr (10, [.ref h1, .ref h2, .ref h5, .ref h6, .ref h7, .ref h8, .ref h9, .ref h10, .ref h11, vv0])), (h2, .inr (4, [.ref h4, .int x1])), (h3, .inl (gB g, 1500, .inl fn0)), (h4, .inl (gB g, 1508, .inl fn1)), (h1, .inr (4, [.ref h3, .int x0]))] rfl ?_
  have p3 : x0 = r1 := (w2).symm
  subst p3
  refine r_aload_n 7 0 C dX11_back_7 rfl ?_
  refine r_get 8 C dX11_back_8 (k := 1) 0 rfl rfl hiX11 (by decide) rfl (mg 2 rfl) (Or.inl rfl) rfl ?_
  refine r_callVi 11 C dX11_back_11 [.int x0] [(h2, .inr (4, [.ref h4, .int x1]))] [(h0, .inr (10, [.ref h1, .ref h2, .ref h5, .ref h6, .ref h7, .ref h8, .ref h9, .ref h10, .ref h11, vv0])), (h3, .inl (gB g, 1500, .inl fn0)), (h4, .inl (gB g, 1508, .inl fn1)), (h1, .inr (4, [.ref h3, .int x0]))] (fun sz => c19_X5_size l g h2 h4 x1 i_x1 sz) gX11_back_X5_size rfl ⟨rfl, rfl⟩ 0 (by decide) ⟨Nat.le_of_ble_eq_true rfl, Nat.le_of_ble_eq_true rfl⟩ 1 rfl rfl [1] [0, 2, 3, 4] rfl rfl (by decide) (by decide) (by decide) rfl rfl (Nat.le_of_ble_eq_true rfl) ⟨Nat.le_of_ble_eq_true rfl, Nat.le_of_ble_eq_true rfl⟩ (fun r4 _ w5 => ?_)
  refine r_ws [(h0, .inr (10, [.ref h1, .ref h2, .ref h5, .ref h6, .ref h7, .ref h8, .ref h9, .ref h10, .ref h11, vv0])), (h3, .inl (gB g, 1500, .inl fn0)), (h4, .inl (gB g, 1508, .inl fn1)), (h1, .inr (4, [.ref h3, .int x0])), (h2, .inr (4, [.ref h4, .int x1]))] rfl ?_
  have p6 : x1 = r4 := (w5).symm
  subst p6
  obtain ⟨z7, ez7⟩ : ∃ z_9, x0 + x1 = z_9 := ⟨_, rfl⟩
  have tz7 : (Int32.toInt z7) = (Int32.toInt x0) + (Int32.toInt x1) := by rw [← ez7]; exact fb_addIv (a := 0) (b := 1500) (c := 0) (d := 1508) i_x0 i_x1 (by decide) (by decide)
  refine r_iadd 14 z7 C dX11_back_14 ez7 ?_
  refine r_sipush 15 1500 C dX11_back_15 (by decide) ?_
  refine r_icmp_le 18 23 C dX11_back_18 (by decide) (fun c8 => ?_) (fun c8 => ?_)
  · skip
    have k9 : (Int32.toInt z7) ≤ 1500 := (fa_le z7 1500).mp c8
    refine r_aload_n 23 0 C dX11_back_23 rfl ?_
    refine r_get 24 C dX11_back_24 (k := 0) 0 rfl rfl hiX11 (by decide) rfl (mg 1 rfl) (Or.inl rfl) rfl ?_
    refine r_aload_n 27 0 C dX11_back_27 rfl ?_
    refine r_get 28 C dX11_back_28 (k := 1) 0 rfl rfl hiX11 (by decide) rfl (mg 2 rfl) (Or.inl rfl) rfl ?_
    refine r_iconst 31 0 C dX11_back_31 (by decide) ?_
    refine r_callVv 32 C dX11_back_32 [] [(h1, .inr (4, [.ref h3, .int x0])), (h2, .inr (4, [.ref h4, .int x1])), (h3, .inl (gB g, 1500, .inl fn0)), (h4, .inl (gB g, 1508, .inl fn1))] [(h0, .inr (10, [.ref h1, .ref h2, .ref h5, .ref h6, .ref h7, .ref h8, .ref h9, .ref h10, .ref h11, vv0]))] (fun sz => c25_X5_addAll l g h1 h2 h3 h4 0 x0 x1 fn0 fn1 i_x0 i_x1 sz) gX11_back_X5_addAll rfl ⟨rfl, rfl⟩ 2 (by decide) ⟨Nat.le_of_ble_eq_true rfl, Nat.le_of_ble_eq_true rfl⟩ 3 rfl rfl [3, 4, 1, 2] [0] rfl rfl (by decide) (by decide) (by decide) rfl rfl (Nat.le_of_ble_eq_true rfl) ⟨Nat.le_of_ble_eq_true rfl, Nat.le_of_ble_eq_true rfl⟩ (fun  u13 w12 => ?_)
    obtain ⟨z10, f11⟩ := u13
    refine r_ws [(h0, .inr (10, [.ref h1, .ref h2, .ref h5, .ref h6, .ref h7, .ref h8, .ref h9, .ref h10, .ref h11, vv0])), (h1, .inr (4, [.ref h3, .int z10])), (h2, .inr (4, [.ref h4, .int x1])), (h3, .inl (gB g, 1500, .inl f11)), (h4, .inl (gB g, 1508, .inl fn1))] rfl ?_
    have p14 : 0 ≤ (Int32.toInt z10) := w12.1
    have p15 : (Int32.toInt z10) ≤ 1500 := w12.2.1
    have p16 : (((0 : Int) ≤ 0 ∧ (((Int32.toInt x1) ≤ 0 ∧ (Int32.toInt z10) = (Int32.toInt x0)) ∨ (0 < (Int32.toInt x1) ∧ (Int32.toInt x0) + (Int32.toInt x1) ≤ 1500 ∧ (Int32.toInt z10) = (Int32.toInt x0) + (Int32.toInt x1)) ∨ 1500 < (Int32.toInt x0) + (Int32.toInt x1))) ∨ (0 ≤ (0 : Int) ∧ (((Int32.toInt x1) ≤ (0 : Int) ∧ (Int32.toInt z10) = (Int32.toInt x0)) ∨ ((0 : Int) < (Int32.toInt x1) ∧ (Int32.toInt x0) + (Int32.toInt x1) - (0 : Int) ≤ 1500 ∧ (Int32.toInt z10) = (Int32.toInt x0) + (Int32.toInt x1) - (0 : Int)) ∨ 1500 < (Int32.toInt x0) + (Int32.toInt x1) - (0 : Int)))) := w12.2.2.1
    have p17 : HID (1500 < (Int32.toInt x0) + (Int32.toInt x1) ∨ f11 = cpy fn0 (Int.toNat (Int32.toInt x0)) fn1 (Int.toNat (0 : Int)) ((Int.toNat (Int32.toInt x1)) - (Int.toNat (0 : Int)))) := w12.2.2.2
    refine r_aload_n 35 0 C dX11_back_35 rfl ?_
    refine r_get 36 C dX11_back_36 (k := 1) 0 rfl rfl hiX11 (by decide) rfl (mg 2 rfl) (Or.inl rfl) rfl ?_
    refine r_iconst 39 0 C dX11_back_39 (by decide) ?_
    refine r_callVv 40 C dX11_back_40 [] [(h2, .inr (4, [.ref h4, .int x1]))] [(h0, .inr (10, [.ref h1, .ref h2, .ref h5, .ref h6, .ref h7, .ref h8, .ref h9, .ref h10, .ref h11, vv0])), (h1, .inr (4, [.ref h3, .int z10])), (h3, .inl (gB g, 1500, .inl f11)), (h4, .inl (gB g, 1508, .inl fn1))] (fun sz => c13_X5_cut l g h2 0 h4 x1 i_x1 sz) gX11_back_X5_cut rfl ⟨rfl, rfl⟩ 1 (by decide) ⟨Nat.le_of_ble_eq_true rfl, Nat.le_of_ble_eq_true rfl⟩ 2 rfl rfl [2] [0, 1, 3, 4] rfl rfl (by decide) (by decide) (by decide) rfl rfl (Nat.le_of_ble_eq_true rfl) ⟨Nat.le_of_ble_eq_true rfl, Nat.le_of_ble_eq_true rfl⟩ (fun  z18 w19 => ?_)
    refine r_ws [(h0, .inr (10, [.ref h1, .ref h2, .ref h5, .ref h6, .ref h7, .ref h8, .ref h9, .ref h10, .ref h11, vv0])), (h1, .inr (4, [.ref h3, .int z10])), (h3, .inl (gB g, 1500, .inl f11)), (h4, .inl (gB g, 1508, .inl fn1)), (h2, .inr (4, [.ref h4, .int z18]))] rfl ?_
    have p20 : 0 ≤ (Int32.toInt z18) := w19.2.1
    have p21 : (Int32.toInt z18) ≤ 1508 := w19.2.2
    have w22 : (((0 : Int) < 0 ∧ (Int32.toInt z18) = (Int32.toInt x1)) ∨ (¬ ((0 : Int) < 0) ∧ (Int32.toInt x1) < (0 : Int) ∧ (Int32.toInt z18) = (Int32.toInt x1)) ∨ (¬ ((0 : Int) < 0) ∧ ¬ ((Int32.toInt x1) < (0 : Int)) ∧ (Int32.toInt z18) = (0 : Int))) := w19.1
    rcases w22 with ⟨k23, k24⟩ | w22
    · skip
      exact absurd trivial (by omega)
    rcases w22 with ⟨k25, k26, k27⟩ | w22
    · skip
      exact absurd trivial (by omega)
    obtain ⟨k28, k29, k30⟩ := w22
    refine r_aload_n 43 0 C dX11_back_43 rfl ?_
    refine r_get 44 C dX11_back_44 (k := 0) 0 rfl rfl hiX11 (by decide) rfl (mg 1 rfl) (Or.inl rfl) rfl ?_
    refine r_callVi 47 C dX11_back_47 [] [(h1, .inr (4, [.ref h3, .int z10]))] [(h0, .inr (10, [.ref h1, .ref h2, .ref h5, .ref h6, .ref h7, .ref h8, .ref h9, .ref h10, .ref h11, vv0])), (h3, .inl (gB g, 1500, .inl f11)), (h4, .inl (gB g, 1508, .inl fn1)), (h2, .inr (4, [.ref h4, .int z18]))] (fun sz => c0_X5_size l g h1 h3 z10 ⟨p14, p15⟩ sz) gX11_back_X5_size rfl ⟨rfl, rfl⟩ 0 (by decide) ⟨Nat.le_of_ble_eq_true rfl, Nat.le_of_ble_eq_true rfl⟩ 1 rfl rfl [1] [0, 2, 3, 4] rfl rfl (by decide) (by decide) (by decide) rfl rfl (Nat.le_of_ble_eq_true rfl) ⟨Nat.le_of_ble_eq_true rfl, Nat.le_of_ble_eq_true rfl⟩ (fun r31 _ w32 => ?_)
    refine r_ws [(h0, .inr (10, [.ref h1, .ref h2, .ref h5, .ref h6, .ref h7, .ref h8, .ref h9, .ref h10, .ref h11, vv0])), (h3, .inl (gB g, 1500, .inl f11)), (h4, .inl (gB g, 1508, .inl fn1)), (h2, .inr (4, [.ref h4, .int z18])), (h1, .inr (4, [.ref h3, .int z10]))] rfl ?_
    have p33 : z10 = r31 := (w32).symm
    subst p33
    exact r_iret 50 Rt dX11_back_50 (z10, z18, f11) (show -1 ≤ (Int32.toInt z10) ∧ (Int32.toInt z10) ≤ 1500 ∧ 0 ≤ (Int32.toInt z10) ∧ (Int32.toInt z10) ≤ 1500 ∧ 0 ≤ (Int32.toInt z18) ∧ (Int32.toInt z18) ≤ 1508 ∧ (((Int32.toInt x0) + (Int32.toInt x1) ≤ 1500 ∧ (Int32.toInt z10) = (Int32.toInt x0) + (Int32.toInt x1) ∧ (Int32.toInt z18) = 0 ∧ (Int32.toInt z10) = (Int32.toInt z10)) ∨ (1500 < (Int32.toInt x0) + (Int32.toInt x1) ∧ (Int32.toInt z10) = (Int32.toInt x0) ∧ (Int32.toInt z18) = (Int32.toInt x1) ∧ (Int32.toInt z10) = -1)) ∧ HID ((1500 < (Int32.toInt x0) + (Int32.toInt x1) ∧ f11 = fn0) ∨ ((Int32.toInt x0) + (Int32.toInt x1) ≤ 1500 ∧ f11 = cpy fn0 (Int.toNat (Int32.toInt x0)) fn1 0 (Int.toNat (Int32.toInt x1)))) from ⟨(iv_wide (c := (-1)) (d := 1500) ⟨p14, p15⟩ (by decide) (by decide)).1, (show _ ∧ _ from ⟨p14, p15⟩).2, (show _ ∧ _ from ⟨p14, p15⟩).1, (show _ ∧ _ from ⟨p14, p15⟩).2, (show _ ∧ _ from ⟨p20, p21⟩).1, (show _ ∧ _ from ⟨p20, p21⟩).2, (by ((repeat' apply And.intro) <;> first | trivial | rfl | assumption | omega | decide | exact Or.inl rfl | exact Or.inr (Or.inl rfl) | exact Or.inr (Or.inr rfl))), (by exact Or.inr ⟨by omega, cpy_a (p17.resolve_left (by omega)) (by omega) (by omega)⟩)⟩) [0, 4, 3, 1, 2] (by decide) rfl (Nat.le_of_ble_eq_true rfl) (Nat.le_of_ble_eq_true rfl)
  · skip
    have k34 : ¬ ((Int32.toInt z7) ≤ 1500) := fun h_9 => c8 ((fa_le z7 1500).mpr h_9)
    refine r_iconst 21 (-1) C dX11_back_21 (by decide) ?_
    exact r_iret 22 Rt dX11_back_22 (x0, x1, fn0) (show -1 ≤ (Int32.toInt (-1)) ∧ (Int32.toInt (-1)) ≤ 1500 ∧ 0 ≤ (Int32.toInt x0) ∧ (Int32.toInt x0) ≤ 1500 ∧ 0 ≤ (Int32.toInt x1) ∧ (Int32.toInt x1) ≤ 1508 ∧ (((Int32.toInt x0) + (Int32.toInt x1) ≤ 1500 ∧ (Int32.toInt x0) = (Int32.toInt x0) + (Int32.toInt x1) ∧ (Int32.toInt x1) = 0 ∧ (-1) = (Int32.toInt x0)) ∨ (1500 < (Int32.toInt x0) + (Int32.toInt x1) ∧ (Int32.toInt x0) = (Int32.toInt x0) ∧ (Int32.toInt x1) = (Int32.toInt x1) ∧ (-1) = -1)) ∧ HID ((1500 < (Int32.toInt x0) + (Int32.toInt x1) ∧ fn0 = fn0) ∨ ((Int32.toInt x0) + (Int32.toInt x1) ≤ 1500 ∧ fn0 = cpy fn0 (Int.toNat (Int32.toInt x0)) fn1 0 (Int.toNat (Int32.toInt x1)))) from ⟨(by ((repeat' apply And.intro) <;> first | trivial | rfl | assumption | omega | decide | exact Or.inl rfl | exact Or.inr (Or.inl rfl) | exact Or.inr (Or.inr rfl))), (by ((repeat' apply And.intro) <;> first | trivial | rfl | assumption | omega | decide | exact Or.inl rfl | exact Or.inr (Or.inl rfl) | exact Or.inr (Or.inr rfl))), i_x0.1, i_x0.2, i_x1.1, i_x1.2, (by ((repeat' apply And.intro) <;> first | trivial | rfl | assumption | omega | decide | exact Or.inl rfl | exact Or.inr (Or.inl rfl) | exact Or.inr (Or.inr rfl))), (by exact Or.inl ⟨by omega, rfl⟩)⟩) [0, 3, 4, 1, 2] (by decide) rfl (Nat.le_of_ble_eq_true rfl) (Nat.le_of_ble_eq_true rfl)
set_option maxHeartbeats 4000000 in
set_option maxRecDepth 100000 in
theorem c27_X11_count (l : Launch) (g : GD) (h0 : Nat) (h1 : Nat) (h2 : Nat) (x0 : Int32) (h3 : Nat) (h4 : Nat) (h5 : Nat) (h6 : Nat) (h7 : Nat) (h8 : Nat) (h9 : Nat) (vv0 : Value) (h10 : Nat) (x1 : Int32) (h11 : Nat) (x2 : Int32) (i_x1 : (0 ≤ (Int32.toInt x1) ∧ (Int32.toInt x1) ≤ 1500)) (i_x2 : (0 ≤ (Int32.toInt x2) ∧ (Int32.toInt x2) ≤ 1508)) (sz : Nat) : Met l yX11_count wsX11_count ({ frames := 1, cells := 0, slots := 0, locals := 20 }) (va_Pc [.ref h0, .int x0] (PW g [(h0, .inr (10, [.ref h1, .ref h2, .ref h3, .ref h4, .ref h5, .ref h6, .ref h7, .ref h8, .ref h9, vv0])), (h1, .inr (4, [.ref h10, .int x1])), (h2, .inr (4, [.ref h11, .int x2]))] sz)) (va_Qi (fun (r : Int32) (_ : Unit) => -1 ≤ (Int32.toInt r) ∧ (Int32.toInt r) ≤ 1508 ∧ (((Int32.toInt x0) = 0 ∧ (Int32.toInt r) = (Int32.toInt x1)) ∨ ((Int32.toInt x0) = 1 ∧ (Int32.toInt r) = (Int32.toInt x2)) ∨ (¬ ((Int32.toInt x0) = 0) ∧ ¬ ((Int32.toInt x0) = 1) ∧ (Int32.toInt r) = -1))) (BW g (va_A [(h0, .inr (10, [.ref h1, .ref h2, .ref h3, .ref h4, .ref h5, .ref h6, .ref h7, .ref h8, .ref h9, vv0])), (h1, .inr (4, [.ref h10, .int x1])), (h2, .inr (4, [.ref h11, .int x2]))] sz) (fun _ : Unit => [(h0, .inr (10, [.ref h1, .ref h2, .ref h3, .ref h4, .ref h5, .ref h6, .ref h7, .ref h8, .ref h9, vv0])), (h1, .inr (4, [.ref h10, .int x1])), (h2, .inr (4, [.ref h11, .int x2]))])) (va_A [(h0, .inr (10, [.ref h1, .ref h2, .ref h3, .ref h4, .ref h5, .ref h6, .ref h7, .ref h8, .ref h9, vv0])), (h1, .inr (4, [.ref h10, .int x1])), (h2, .inr (4, [.ref h11, .int x2]))] sz)) 0 0 (va_A [(h0, .inr (10, [.ref h1, .ref h2, .ref h3, .ref h4, .ref h5, .ref h6, .ref h7, .ref h8, .ref h9, vv0])), (h1, .inr (4, [.ref h10, .int x1])), (h2, .inr (4, [.ref h11, .int x2]))] sz) := by
  refine met_i RX11 (by decide) rfl rfl (Nat.le_of_ble_eq_true rfl) [(0, .ref h0), (1, .int x0)] rfl ?_
  intro p e s m args below meth c A Q C hnm Rt
  have gx0 := fb_rng x0
  have hiX11 : ∀ w ∈ wsX110, w ∈ wsX11_count := fun w h => List.mem_cons_of_mem _ (List.mem_append_left _ (List.mem_append_right _ (h)))
  refine r_iload_n 0 1 C dX11_count_0 rfl ?_
  by_cases c1 : x0 = 0
  · skip
    have k2 : (Int32.toInt x0) = 0 := (fa_eq x0 0).mp c1
    refine r_lookup 1 28 (off := 27) C dX11_count_1 (by decide) (by rw [c1]; decide) (by decide) ?_
    refine r_aload_n 28 0 C dX11_count_28 rfl ?_
    refine r_get 29 C dX11_count_29 (k := 0) 0 rfl rfl hiX11 (by decide) rfl (mg 1 rfl) (Or.inl rfl) rfl ?_
    refine r_callVi 32 C dX11_count_32 [] [(h1, .inr (4, [.ref h10, .int x1]))] [(h0, .inr (10, [.ref h1, .ref h2, .ref h3, .ref h4, .ref h5, .ref h6, .ref h7, .ref h8, .ref h9, vv0])), (h2, .inr (4, [.ref h11, .int x2]))] (fun sz => c0_X5_size l g h1 h10 x1 i_x1 sz) gX11_count_X5_size rfl ⟨rfl, rfl⟩ 0 (by decide) ⟨Nat.le_of_ble_eq_true rfl, Nat.le_of_ble_eq_true rfl⟩ 1 rfl rfl [1] [0, 2] rfl rfl (by decide) (by decide) (by decide) rfl rfl (Nat.le_of_ble_eq_true rfl) ⟨Nat.le_of_ble_eq_true rfl, Nat.le_of_ble_eq_true rfl⟩ (fun r3 _ w4 => ?_)
    refine r_ws [(h0, .inr (10, [.ref h1, .ref h2, .ref h3, .ref h4, .ref h5, .ref h6, .ref h7, .ref h8, .ref h9, vv0])), (h2, .inr (4, [.ref h11, .int x2])), (h1, .inr (4, [.ref h10, .int x1]))] rfl ?_
    have p5 : x1 = r3 := (w4).symm
    subst p5
    exact r_iret 35 Rt dX11_count_35 () (show -1 ≤ (Int32.toInt x1) ∧ (Int32.toInt x1) ≤ 1508 ∧ (((Int32.toInt x0) = 0 ∧ (Int32.toInt x1) = (Int32.toInt x1)) ∨ ((Int32.toInt x0) = 1 ∧ (Int32.toInt x1) = (Int32.toInt x2)) ∨ (¬ ((Int32.toInt x0) = 0) ∧ ¬ ((Int32.toInt x0) = 1) ∧ (Int32.toInt x1) = -1)) from ⟨(iv_wide (c := (-1)) (d := 1508) i_x1 (by decide) (by decide)).1, (iv_wide (c := (-1)) (d := 1508) i_x1 (by decide) (by decide)).2, (by ((repeat' apply And.intro) <;> first | trivial | rfl | assumption | omega | decide | exact Or.inl rfl | exact Or.inr (Or.inl rfl) | exact Or.inr (Or.inr rfl)))⟩) [0, 2, 1] (by decide) rfl (Nat.le_of_ble_eq_true rfl) (Nat.le_of_ble_eq_true rfl)
  · skip
    have k6 : ¬ ((Int32.toInt x0) = 0) := fun h_9 => c1 ((fa_eq x0 0).mpr h_9)
    by_cases c7 : x0 = 1
    · skip
      have k8 : (Int32.toInt x0) = 1 := (fa_eq x0 1).mp c7
      refine r_lookup 1 36 (off := 35) C dX11_count_1 (by decide) (by rw [c7]; decide) (by decide) ?_
      refine r_aload_n 36 0 C dX11_count_36 rfl ?_
      refine r_get 37 C dX11_count_37 (k := 1) 0 rfl rfl hiX11 (by decide) rfl (mg 2 rfl) (Or.inl rfl) rfl ?_
      refine r_callVi 40 C dX11_count_40 [] [(h2, .inr (4, [.ref h11, .int x2]))] [(h0, .inr (10, [.ref h1, .ref h2, .ref h3, .ref h4, .ref h5, .ref h6, .ref h7, .ref h8, .ref h9, vv0])), (h1, .inr (4, [.ref h10, .int x1]))] (fun sz => c19_X5_size l g h2 h11 x2 i_x2 sz) gX11_count_X5_size rfl ⟨rfl, rfl⟩ 0 (by decide) ⟨Nat.le_of_ble_eq_true rfl, Nat.le_of_ble_eq_true rfl⟩ 2 rfl rfl [2] [0, 1] rfl rfl (by decide) (by decide) (by decide) rfl rfl (Nat.le_of_ble_eq_true rfl) ⟨Nat.le_of_ble_eq_true rfl, Nat.le_of_ble_eq_true rfl⟩ (fun r9 _ w10 => ?_)
      refine r_ws [(h0, .inr (10, [.ref h1, .ref h2, .ref h3, .ref h4, .ref h5, .ref h6, .ref h7, .ref h8, .ref h9, vv0])), (h1, .inr (4, [.ref h10, .int x1])), (h2, .inr (4, [.ref h11, .int x2]))] rfl ?_
      have p11 : x2 = r9 := (w10).symm
      subst p11
      exact r_iret 43 Rt dX11_count_43 () (show -1 ≤ (Int32.toInt x2) ∧ (Int32.toInt x2) ≤ 1508 ∧ (((Int32.toInt x0) = 0 ∧ (Int32.toInt x2) = (Int32.toInt x1)) ∨ ((Int32.toInt x0) = 1 ∧ (Int32.toInt x2) = (Int32.toInt x2)) ∨ (¬ ((Int32.toInt x0) = 0) ∧ ¬ ((Int32.toInt x0) = 1) ∧ (Int32.toInt x2) = -1)) from ⟨(iv_wide (c := (-1)) (d := 1508) i_x2 (by decide) (by decide)).1, (iv_wide (c := (-1)) (d := 1508) i_x2 (by decide) (by decide)).2, (by ((repeat' apply And.intro) <;> first | trivial | rfl | assumption | omega | decide | exact Or.inl rfl | exact Or.inr (Or.inl rfl) | exact Or.inr (Or.inr rfl)))⟩) [0, 1, 2] (by decide) rfl (Nat.le_of_ble_eq_true rfl) (Nat.le_of_ble_eq_true rfl)
    · skip
      have k12 : ¬ ((Int32.toInt x0) = 1) := fun h_9 => c7 ((fa_eq x0 1).mpr h_9)
      refine r_lookup 1 44 (off := 43) C dX11_count_1 (by decide) ((lv_osw c1 rfl).trans ((lv_osw c7 rfl).trans rfl)) (by decide) ?_
      refine r_iconst 44 (-1) C dX11_count_44 (by decide) ?_
      exact r_iret 45 Rt dX11_count_45 () (show -1 ≤ (Int32.toInt (-1)) ∧ (Int32.toInt (-1)) ≤ 1508 ∧ (((Int32.toInt x0) = 0 ∧ (-1) = (Int32.toInt x1)) ∨ ((Int32.toInt x0) = 1 ∧ (-1) = (Int32.toInt x2)) ∨ (¬ ((Int32.toInt x0) = 0) ∧ ¬ ((Int32.toInt x0) = 1) ∧ (-1) = -1)) from ⟨(by ((repeat' apply And.intro) <;> first | trivial | rfl | assumption | omega | decide | exact Or.inl rfl | exact Or.inr (Or.inl rfl) | exact Or.inr (Or.inr rfl))), (by ((repeat' apply And.intro) <;> first | trivial | rfl | assumption | omega | decide | exact Or.inl rfl | exact Or.inr (Or.inl rfl) | exact Or.inr (Or.inr rfl))), (by ((repeat' apply And.intro) <;> first | trivial | rfl | assumption | omega | decide | exact Or.inl rfl | exact Or.inr (Or.inl rfl) | exact Or.inr (Or.inr rfl)))⟩) [0, 1, 2] (by decide) rfl (Nat.le_of_ble_eq_true rfl) (Nat.le_of_ble_eq_true rfl)
set_option maxHeartbeats 4000000 in
set_option maxRecDepth 100000 in
theorem c28_X3_shelfOf (l : Launch) (g : GD) (h0 : Nat) (x0 : Int32) (h1 : Nat) (h2 : Nat) (h3 : Nat) (h4 : Nat) (x1 : Int32) (x2 : Int32) (x3 : Int32) (sz : Nat) : Met l yX3_shelfOf wsX3_shelfOf ({ frames := 0, cells := 0, slots := 0, locals := 0 }) (va_Pc [.ref h0, .int x0] (PW g [(h0, .inr (3, [.ref h1, .ref h2, .ref h3, .ref h4, .int x1, .int x2, .int x3]))] sz)) (va_Qq (fun (r : Option Nat) (_ : Unit) => (((Int32.toInt x0) = 0 ∧ r = (some h2)) ∨ (¬ ((Int32.toInt x0) = 0) ∧ (Int32.toInt x0) = 1 ∧ r = (some h3)) ∨ (¬ ((Int32.toInt x0) = 0) ∧ ¬ ((Int32.toInt x0) = 1) ∧ (Int32.toInt x0) = 2 ∧ r = (some h4)) ∨ (¬ ((Int32.toInt x0) = 0) ∧ ¬ ((Int32.toInt x0) = 1) ∧ ¬ ((Int32.toInt x0) = 2) ∧ r = none))) (BW g (va_A [(h0, .inr (3, [.ref h1, .ref h2, .ref h3, .ref h4, .int x1, .int x2, .int x3]))] sz) (fun _ : Unit => [(h0, .inr (3, [.ref h1, .ref h2, .ref h3, .ref h4, .int x1, .int x2, .int x3]))])) (va_A [(h0, .inr (3, [.ref h1, .ref h2, .ref h3, .ref h4, .int x1, .int x2, .int x3]))] sz)) 0 0 (va_A [(h0, .inr (3, [.ref h1, .ref h2, .ref h3, .ref h4, .int x1, .int x2, .int x3]))] sz) := by
  refine met_q RX3 (by decide) rfl rfl (Nat.le_of_ble_eq_true rfl) [(0, .ref h0), (1, .int x0)] rfl ?_
  intro p e s m args below meth c A Q C hnm Rt
  have gx0 := fb_rng x0
  have hiX3 : ∀ w ∈ wsX30, w ∈ wsX3_shelfOf := fun w h => List.mem_cons_of_mem _ (List.mem_append_right _ (h))
  refine r_iload_n 0 1 C dX3_shelfOf_0 rfl ?_
  by_cases c1 : x0 = 0
  · skip
    have k2 : (Int32.toInt x0) = 0 := (fa_eq x0 0).mp c1
    refine r_tableIn 1 28 0 C dX3_shelfOf_1 c1 (by decide) (by decide) rfl (by decide) ?_
    refine r_aload_n 28 0 C dX3_shelfOf_28 rfl ?_
    refine r_get 29 C dX3_shelfOf_29 (k := 1) 0 rfl rfl hiX3 (by decide) rfl (mg 1 rfl) (Or.inl rfl) rfl ?_
    exact r_qret 32 (some h2) Rt dX3_shelfOf_32 () (show (((Int32.toInt x0) = 0 ∧ (some h2) = (some h2)) ∨ (¬ ((Int32.toInt x0) = 0) ∧ (Int32.toInt x0) = 1 ∧ (some h2) = (some h3)) ∨ (¬ ((Int32.toInt x0) = 0) ∧ ¬ ((Int32.toInt x0) = 1) ∧ (Int32.toInt x0) = 2 ∧ (some h2) = (some h4)) ∨ (¬ ((Int32.toInt x0) = 0) ∧ ¬ ((Int32.toInt x0) = 1) ∧ ¬ ((Int32.toInt x0) = 2) ∧ (some h2) = none)) from by refine Or.inl ?_ <;> ((repeat' apply And.intro) <;> first | trivial | rfl | assumption | omega | decide | exact Or.inl rfl | exact Or.inr (Or.inl rfl) | exact Or.inr (Or.inr rfl))) [0] (by decide) rfl (Nat.le_of_ble_eq_true rfl) (Nat.le_of_ble_eq_true rfl)
  · skip
    have k3 : ¬ ((Int32.toInt x0) = 0) := fun h_9 => c1 ((fa_eq x0 0).mpr h_9)
    by_cases c4 : x0 = 1
    · skip
      have k5 : (Int32.toInt x0) = 1 := (fa_eq x0 1).mp c4
      refine r_tableIn 1 33 1 C dX3_shelfOf_1 c4 (by decide) (by decide) rfl (by decide) ?_
      refine r_aload_n 33 0 C dX3_shelfOf_33 rfl ?_
      refine r_get 34 C dX3_shelfOf_34 (k := 2) 0 rfl rfl hiX3 (by decide) rfl (mg 2 rfl) (Or.inl rfl) rfl ?_
      exact r_qret 37 (some h3) Rt dX3_shelfOf_37 () (show (((Int32.toInt x0) = 0 ∧ (some h3) = (some h2)) ∨ (¬ ((Int32.toInt x0) = 0) ∧ (Int32.toInt x0) = 1 ∧ (some h3) = (some h3)) ∨ (¬ ((Int32.toInt x0) = 0) ∧ ¬ ((Int32.toInt x0) = 1) ∧ (Int32.toInt x0) = 2 ∧ (some h3) = (some h4)) ∨ (¬ ((Int32.toInt x0) = 0) ∧ ¬ ((Int32.toInt x0) = 1) ∧ ¬ ((Int32.toInt x0) = 2) ∧ (some h3) = none)) from by refine Or.inr (Or.inl ?_) <;> ((repeat' apply And.intro) <;> first | trivial | rfl | assumption | omega | decide | exact Or.inl rfl | exact Or.inr (Or.inl rfl) | exact Or.inr (Or.inr rfl))) [0] (by decide) rfl (Nat.le_of_ble_eq_true rfl) (Nat.le_of_ble_eq_true rfl)
    · skip
      have k6 : ¬ ((Int32.toInt x0) = 1) := fun h_9 => c4 ((fa_eq x0 1).mpr h_9)
      by_cases c7 : x0 = 2
      · skip
        have k8 : (Int32.toInt x0) = 2 := (fa_eq x0 2).mp c7
        refine r_tableIn 1 38 2 C dX3_shelfOf_1 c7 (by decide) (by decide) rfl (by decide) ?_
        refine r_aload_n 38 0 C dX3_shelfOf_38 rfl ?_
        refine r_get 39 C dX3_shelfOf_39 (k := 3) 0 rfl rfl hiX3 (by decide) rfl (mg 3 rfl) (Or.inl rfl) rfl ?_
        exact r_qret 42 (some h4) Rt dX3_shelfOf_42 () (show (((Int32.toInt x0) = 0 ∧ (some h4) = (some h2)) ∨ (¬ ((Int32.toInt x0) = 0) ∧ (Int32.toInt x0) = 1 ∧ (some h4) = (some h3)) ∨ (¬ ((Int32.toInt x0) = 0) ∧ ¬ ((Int32.toInt x0) = 1) ∧ (Int32.toInt x0) = 2 ∧ (some h4) = (some h4)) ∨ (¬ ((Int32.toInt x0) = 0) ∧ ¬ ((Int32.toInt x0) = 1) ∧ ¬ ((Int32.toInt x0) = 2) ∧ (some h4) = none)) from by refine Or.inr (Or.inr (Or.inl ?_)) <;> ((repeat' apply And.intro) <;> first | trivial | rfl | assumption | omega | decide | exact Or.inl rfl | exact Or.inr (Or.inl rfl) | exact Or.inr (Or.inr rfl))) [0] (by decide) rfl (Nat.le_of_ble_eq_true rfl) (Nat.le_of_ble_eq_true rfl)
      · skip
        have k9 : ¬ ((Int32.toInt x0) = 2) := fun h_9 => c7 ((fa_eq x0 2).mpr h_9)
        refine r_tableOut 1 43 C dX3_shelfOf_1 (by omega) (by decide) ?_
        refine r_null 43 C dX3_shelfOf_43 ?_
        exact r_qret 44 none Rt dX3_shelfOf_44 () (show (((Int32.toInt x0) = 0 ∧ none = (some h2)) ∨ (¬ ((Int32.toInt x0) = 0) ∧ (Int32.toInt x0) = 1 ∧ none = (some h3)) ∨ (¬ ((Int32.toInt x0) = 0) ∧ ¬ ((Int32.toInt x0) = 1) ∧ (Int32.toInt x0) = 2 ∧ none = (some h4)) ∨ (¬ ((Int32.toInt x0) = 0) ∧ ¬ ((Int32.toInt x0) = 1) ∧ ¬ ((Int32.toInt x0) = 2) ∧ none = none)) from by refine Or.inr (Or.inr (Or.inr (?_))) <;> ((repeat' apply And.intro) <;> first | trivial | rfl | assumption | omega | decide | exact Or.inl rfl | exact Or.inr (Or.inl rfl) | exact Or.inr (Or.inr rfl))) [0] (by decide) rfl (Nat.le_of_ble_eq_true rfl) (Nat.le_of_ble_eq_true rfl)
set_option maxHeartbeats 4000000 in
set_option maxRecDepth 100000 in
theorem c29_X8_has (l : Launch) (g : GD) (h0 : Nat) (h1 : Nat) (y0 : Int64) (h2 : Nat) (h3 : Nat) (x0 : Int32) (x1 : Int32) (x2 : Int32) (fn0 : Nat → Int32) (sz : Nat) : Met l yX8_has wsX8_has ({ frames := 0, cells := 0, slots := 0, locals := 0 }) (va_Pc [.ref h0, .long y0] (PW g [(h0, .inr (7, [.ref h2, .ref h1, .ref h3, .int x0, .int x1, .int x2])), (h1, .inl (gI g, 40, .inl fn0))] sz)) (va_Qi (fun (r : Int32) (_ : Unit) => (((Int64.toInt y0) < 0 ∧ r = 0) ∨ (¬ ((Int64.toInt y0) < 0) ∧ 0 < (Int32.toInt x2) ∧ r = 1) ∨ (¬ ((Int64.toInt y0) < 0) ∧ ¬ (0 < (Int32.toInt x2)) ∧ 40 ≤ (Int64.toInt y0) ∧ r = 0) ∨ (¬ ((Int64.toInt y0) < 0) ∧ ¬ (0 < (Int32.toInt x2)) ∧ ¬ (40 ≤ (Int64.toInt y0)) ∧ r = 0) ∨ (¬ ((Int64.toInt y0) < 0) ∧ ¬ (0 < (Int32.toInt x2)) ∧ ¬ (40 ≤ (Int64.toInt y0)) ∧ r = 1) ∨ (¬ ((Int64.toInt y0) < 0) ∧ r = 0)) ∧ HSB (Int32.toInt r) (HASP (Int32.toInt x0) (Int32.toInt x2) fn0 40 (Int64.toInt y0))) (BW g (va_A [(h0, .inr (7, [.ref h2, .ref h1, .ref h3, .int x0, .int x1, .int x2])), (h1, .inl (gI g, 40, .inl fn0))] sz) (fun _ : Unit => [(h0, .inr (7, [.ref h2, .ref h1, .ref h3, .int x0, .int x1, .int x2])), (h1, .inl (gI g, 40, .inl fn0))])) (va_A [(h0, .inr (7, [.ref h2, .ref h1, .ref h3, .int x0, .int x1, .int x2])), (h1, .inl (gI g, 40, .inl fn0))] sz)) 0 0 (va_A [(h0, .inr (7, [.ref h2, .ref h1, .ref h3, .int x0, .int x1, .int x2])), (h1, .inl (gI g, 40, .inl fn0))] sz) := by
  refine met_z RX8 (by decide) rfl rfl (Nat.le_of_ble_eq_true rfl) [(0, .ref h0), (1, .long y0)] rfl ?_
  intro p e s m args below meth c A Q C hnm Rt
  have gy0 := fb_rngL y0
  have gx0 := fb_rng x0
  have gx2 := fb_rng x2
  have hiX8 : ∀ w ∈ wsX80, w ∈ wsX8_has := fun w h => List.mem_cons_of_mem _ (List.mem_append_right _ (h))
  refine r_lload_n 0 1 C dX8_has_0 rfl ?_
  refine r_lconst 1 0 C dX8_has_1 (by decide) ?_
  obtain ⟨z1, ez1⟩ : ∃ z_9, lg_cmp y0 0 = z_9 := ⟨_, rfl⟩
  have l1z1 : (Int32.toInt z1) < 0 ↔ (Int64.toInt y0) < 0 := by rw [← ez1]; exact lgI1 y0 0
  have l2z1 : 0 < (Int32.toInt z1) ↔ 0 < (Int64.toInt y0) := by rw [← ez1]; exact lgI2 y0 0
  refine r_lcmp 2 z1 C dX8_has_2 ez1 ?_
  refine r_if_lt 3 16 C dX8_has_3 (by decide) (fun c2 => ?_) (fun c2 => ?_)
  · skip
    have k3 : (Int32.toInt z1) < 0 := (fa_lt z1 0).mp c2
    refine r_iconst 16 0 C dX8_has_16 (by decide) ?_
    exact r_zret 17 Rt dX8_has_17 (by decide) () (show (((Int64.toInt y0) < 0 ∧ 0 = 0) ∨ (¬ ((Int64.toInt y0) < 0) ∧ 0 < (Int32.toInt x2) ∧ 0 = 1) ∨ (¬ ((Int64.toInt y0) < 0) ∧ ¬ (0 < (Int32.toInt x2)) ∧ 40 ≤ (Int64.toInt y0) ∧ 0 = 0) ∨ (¬ ((Int64.toInt y0) < 0) ∧ ¬ (0 < (Int32.toInt x2)) ∧ ¬ (40 ≤ (Int64.toInt y0)) ∧ 0 = 0) ∨ (¬ ((Int64.toInt y0) < 0) ∧ ¬ (0 < (Int32.toInt x2)) ∧ ¬ (40 ≤ (Int64.toInt y0)) ∧ 0 = 1) ∨ (¬ ((Int64.toInt y0) < 0) ∧ 0 = 0)) ∧ HSB 0 (HASP (Int32.toInt x0) (Int32.toInt x2) fn0 40 (Int64.toInt y0)) from by refine ⟨Or.inl ?_, (by first | exact Or.inl ⟨rfl, hasp_y1 (by omega) (by omega) (by omega)⟩ | exact Or.inr ⟨rfl, hasp_n1 (by omega)⟩ | exact Or.inl ⟨rfl, hasp_y2 (by omega) (by omega) (by omega) (by assumption) (by omega) (by omega)⟩ | exact Or.inr ⟨rfl, hasp_n2 (by omega) (by assumption) (by omega) (by omega)⟩)⟩ <;> ((repeat' apply And.intro) <;> first | trivial | rfl | assumption | omega | decide | exact Or.inl rfl | exact Or.inr (Or.inl rfl) | exact Or.inr (Or.inr rfl))) [0, 1] (by decide) rfl (Nat.le_of_ble_eq_true rfl) (Nat.le_of_ble_eq_true rfl)
  · skip
    have k4 : ¬ ((Int32.toInt z1) < 0) := fun h_9 => c2 ((fa_lt z1 0).mpr h_9)
    refine r_lload_n 6 1 C dX8_has_6 rfl ?_
    refine r_aload_n 7 0 C dX8_has_7 rfl ?_
    refine r_get 8 C dX8_has_8 (k := 3) 0 rfl rfl hiX8 (by decide) rfl (mg 1 rfl) (Or.inl rfl) rfl ?_
    obtain ⟨z5, ez5⟩ : ∃ z_9, Int32.toInt64 x0 = z_9 := ⟨_, rfl⟩
    have tz5 : (Int64.toInt z5) = (Int32.toInt x0) := by rw [← ez5]; exact Int32.toInt_toInt64 _
    refine r_i2l 11 z5 C dX8_has_11 ez5 ?_
    obtain ⟨z6, ez6⟩ : ∃ z_9, lg_cmp y0 z5 = z_9 := ⟨_, rfl⟩
    have l1z6 : (Int32.toInt z6) < 0 ↔ (Int64.toInt y0) < (Int64.toInt z5) := by rw [← ez6]; exact lgI1 y0 z5
    have l2z6 : 0 < (Int32.toInt z6) ↔ (Int64.toInt z5) < (Int64.toInt y0) := by rw [← ez6]; exact lgI2 y0 z5
    refine r_lcmp 12 z6 C dX8_has_12 ez6 ?_
    refine r_if_lt 13 18 C dX8_has_13 (by decide) (fun c7 => ?_) (fun c7 => ?_)
    · skip
      have k8 : (Int32.toInt z6) < 0 := (fa_lt z6 0).mp c7
      refine r_aload_n 18 0 C dX8_has_18 rfl ?_
      refine r_get 19 C dX8_has_19 (k := 5) 0 rfl rfl hiX8 (by decide) rfl (mg 2 rfl) (Or.inl rfl) rfl ?_
      refine r_if_gt 22 47 C dX8_has_22 (by decide) (fun c9 => ?_) (fun c9 => ?_)
      · skip
        have k10 : 0 < (Int32.toInt x2) := (fa_lt 0 x2).mp c9
        refine r_iconst 47 1 C dX8_has_47 (by decide) ?_
        refine r_goto 48 52 C dX8_has_48 (by decide) ?_
        exact r_zret 52 Rt dX8_has_52 (by decide) () (show (((Int64.toInt y0) < 0 ∧ 1 = 0) ∨ (¬ ((Int64.toInt y0) < 0) ∧ 0 < (Int32.toInt x2) ∧ 1 = 1) ∨ (¬ ((Int64.toInt y0) < 0) ∧ ¬ (0 < (Int32.toInt x2)) ∧ 40 ≤ (Int64.toInt y0) ∧ 1 = 0) ∨ (¬ ((Int64.toInt y0) < 0) ∧ ¬ (0 < (Int32.toInt x2)) ∧ ¬ (40 ≤ (Int64.toInt y0)) ∧ 1 = 0) ∨ (¬ ((Int64.toInt y0) < 0) ∧ ¬ (0 < (Int32.toInt x2)) ∧ ¬ (40 ≤ (Int64.toInt y0)) ∧ 1 = 1) ∨ (¬ ((Int64.toInt y0) < 0) ∧ 1 = 0)) ∧ HSB 1 (HASP (Int32.toInt x0) (Int32.toInt x2) fn0 40 (Int64.toInt y0)) from by refine ⟨Or.inr (Or.inl ?_), (by first | exact Or.inl ⟨rfl, hasp_y1 (by omega) (by omega) (by omega)⟩ | exact Or.inr ⟨rfl, hasp_n1 (by omega)⟩ | exact Or.inl ⟨rfl, hasp_y2 (by omega) (by omega) (by omega) (by assumption) (by omega) (by omega)⟩ | exact Or.inr ⟨rfl, hasp_n2 (by omega) (by assumption) (by omega) (by omega)⟩)⟩ <;> ((repeat' apply And.intro) <;> first | trivial | rfl | assumption | omega | decide | exact Or.inl rfl | exact Or.inr (Or.inl rfl) | exact Or.inr (Or.inr rfl))) [0, 1] (by decide) rfl (Nat.le_of_ble_eq_true rfl) (Nat.le_of_ble_eq_true rfl)
      · skip
        have k11 : ¬ (0 < (Int32.toInt x2)) := fun h_9 => c9 ((fa_lt 0 x2).mpr h_9)
        refine r_lload_n 25 1 C dX8_has_25 rfl ?_
        refine r_aload_n 26 0 C dX8_has_26 rfl ?_
        refine r_get 27 C dX8_has_27 (k := 1) 0 rfl rfl hiX8 (by decide) rfl (mg 3 rfl) (Or.inl rfl) rfl ?_
        refine r_ialen 30 40 C dX8_has_30 1 rfl (by decide) ?_
        refine r_i2l 31 40 C dX8_has_31 (by decide) ?_
        obtain ⟨z12, ez12⟩ : ∃ z_9, lg_cmp y0 40 = z_9 := ⟨_, rfl⟩
        have l1z12 : (Int32.toInt z12) < 0 ↔ (Int64.toInt y0) < 40 := by rw [← ez12]; exact lgI1 y0 40
        have l2z12 : 0 < (Int32.toInt z12) ↔ 40 < (Int64.toInt y0) := by rw [← ez12]; exact lgI2 y0 40
        refine r_lcmp 32 z12 C dX8_has_32 ez12 ?_
        refine r_if_ge 33 51 C dX8_has_33 (by decide) (fun c13 => ?_) (fun c13 => ?_)
        · skip
          have k14 : 0 ≤ (Int32.toInt z12) := (fa_le 0 z12).mp c13
          refine r_iconst 51 0 C dX8_has_51 (by decide) ?_
          exact r_zret 52 Rt dX8_has_52 (by decide) () (show (((Int64.toInt y0) < 0 ∧ 0 = 0) ∨ (¬ ((Int64.toInt y0) < 0) ∧ 0 < (Int32.toInt x2) ∧ 0 = 1) ∨ (¬ ((Int64.toInt y0) < 0) ∧ ¬ (0 < (Int32.toInt x2)) ∧ 40 ≤ (Int64.toInt y0) ∧ 0 = 0) ∨ (¬ ((Int64.toInt y0) < 0) ∧ ¬ (0 < (Int32.toInt x2)) ∧ ¬ (40 ≤ (Int64.toInt y0)) ∧ 0 = 0) ∨ (¬ ((Int64.toInt y0) < 0) ∧ ¬ (0 < (Int32.toInt x2)) ∧ ¬ (40 ≤ (Int64.toInt y0)) ∧ 0 = 1) ∨ (¬ ((Int64.toInt y0) < 0) ∧ 0 = 0)) ∧ HSB 0 (HASP (Int32.toInt x0) (Int32.toInt x2) fn0 40 (Int64.toInt y0)) from by refine ⟨Or.inr (Or.inr (Or.inl ?_)), (by first | exact Or.inl ⟨rfl, hasp_y1 (by omega) (by omega) (by omega)⟩ | exact Or.inr ⟨rfl, hasp_n1 (by omega)⟩ | exact Or.inl ⟨rfl, hasp_y2 (by omega) (by omega) (by omega) (by assumption) (by omega) (by omega)⟩ | exact Or.inr ⟨rfl, hasp_n2 (by omega) (by assumption) (by omega) (by omega)⟩)⟩ <;> ((repeat' apply And.intro) <;> first | trivial | rfl | assumption | omega | decide | exact Or.inl rfl | exact Or.inr (Or.inl rfl) | exact Or.inr (Or.inr rfl))) [0, 1] (by decide) rfl (Nat.le_of_ble_eq_true rfl) (Nat.le_of_ble_eq_true rfl)
        · skip
          have k15 : ¬ (0 ≤ (Int32.toInt z12)) := fun h_9 => c13 ((fa_le 0 z12).mpr h_9)
          refine r_aload_n 36 0 C dX8_has_36 rfl ?_
          refine r_get 37 C dX8_has_37 (k := 1) 0 rfl rfl hiX8 (by decide) rfl (mg 3 rfl) (Or.inl rfl) rfl ?_
          refine r_lload_n 40 1 C dX8_has_40 rfl ?_
          obtain ⟨z16, ez16⟩ : ∃ z_9, Int64.toInt32 y0 = z_9 := ⟨_, rfl⟩
          have tz16 : (Int32.toInt z16) = (Int64.toInt y0) := by rw [← ez16]; exact l2i_in (by omega) (by omega)
          refine r_l2i 41 z16 C dX8_has_41 ez16 ?_
          obtain ⟨z17, ez17⟩ : ∃ z_9, fn0 (Int32.toNatClampNeg z16) = z_9 := ⟨_, rfl⟩
          refine r_iald 42 z17 C dX8_has_42 1 rfl (vinI (by omega) (by omega)) ez17 ?_
          have gz17 := fb_rng z17
          refine r_iconst 43 (-1) C dX8_has_43 (by decide) ?_
          refine r_icmp_eq 44 51 C dX8_has_44 (by decide) (fun c18 => ?_) (fun c18 => ?_)
          · skip
            have k19 : (Int32.toInt z17) = (-1) := (fa_eq z17 (-1)).mp c18
            refine r_iconst 51 0 C dX8_has_51 (by decide) ?_
            exact r_zret 52 Rt dX8_has_52 (by decide) () (show (((Int64.toInt y0) < 0 ∧ 0 = 0) ∨ (¬ ((Int64.toInt y0) < 0) ∧ 0 < (Int32.toInt x2) ∧ 0 = 1) ∨ (¬ ((Int64.toInt y0) < 0) ∧ ¬ (0 < (Int32.toInt x2)) ∧ 40 ≤ (Int64.toInt y0) ∧ 0 = 0) ∨ (¬ ((Int64.toInt y0) < 0) ∧ ¬ (0 < (Int32.toInt x2)) ∧ ¬ (40 ≤ (Int64.toInt y0)) ∧ 0 = 0) ∨ (¬ ((Int64.toInt y0) < 0) ∧ ¬ (0 < (Int32.toInt x2)) ∧ ¬ (40 ≤ (Int64.toInt y0)) ∧ 0 = 1) ∨ (¬ ((Int64.toInt y0) < 0) ∧ 0 = 0)) ∧ HSB 0 (HASP (Int32.toInt x0) (Int32.toInt x2) fn0 40 (Int64.toInt y0)) from by refine ⟨Or.inr (Or.inr (Or.inr (Or.inl ?_))), (by first | exact Or.inl ⟨rfl, hasp_y1 (by omega) (by omega) (by omega)⟩ | exact Or.inr ⟨rfl, hasp_n1 (by omega)⟩ | exact Or.inl ⟨rfl, hasp_y2 (by omega) (by omega) (by omega) (by assumption) (by omega) (by omega)⟩ | exact Or.inr ⟨rfl, hasp_n2 (by omega) (by assumption) (by omega) (by omega)⟩)⟩ <;> ((repeat' apply And.intro) <;> first | trivial | rfl | assumption | omega | decide | exact Or.inl rfl | exact Or.inr (Or.inl rfl) | exact Or.inr (Or.inr rfl))) [0, 1] (by decide) rfl (Nat.le_of_ble_eq_true rfl) (Nat.le_of_ble_eq_true rfl)
          · skip
            have k20 : ¬ ((Int32.toInt z17) = (-1)) := fun h_9 => c18 ((fa_eq z17 (-1)).mpr h_9)
            refine r_iconst 47 1 C dX8_has_47 (by decide) ?_
            refine r_goto 48 52 C dX8_has_48 (by decide) ?_
            exact r_zret 52 Rt dX8_has_52 (by decide) () (show (((Int64.toInt y0) < 0 ∧ 1 = 0) ∨ (¬ ((Int64.toInt y0) < 0) ∧ 0 < (Int32.toInt x2) ∧ 1 = 1) ∨ (¬ ((Int64.toInt y0) < 0) ∧ ¬ (0 < (Int32.toInt x2)) ∧ 40 ≤ (Int64.toInt y0) ∧ 1 = 0) ∨ (¬ ((Int64.toInt y0) < 0) ∧ ¬ (0 < (Int32.toInt x2)) ∧ ¬ (40 ≤ (Int64.toInt y0)) ∧ 1 = 0) ∨ (¬ ((Int64.toInt y0) < 0) ∧ ¬ (0 < (Int32.toInt x2)) ∧ ¬ (40 ≤ (Int64.toInt y0)) ∧ 1 = 1) ∨ (¬ ((Int64.toInt y0) < 0) ∧ 1 = 0)) ∧ HSB 1 (HASP (Int32.toInt x0) (Int32.toInt x2) fn0 40 (Int64.toInt y0)) from by refine ⟨Or.inr (Or.inr (Or.inr (Or.inr (Or.inl ?_)))), (by first | exact Or.inl ⟨rfl, hasp_y1 (by omega) (by omega) (by omega)⟩ | exact Or.inr ⟨rfl, hasp_n1 (by omega)⟩ | exact Or.inl ⟨rfl, hasp_y2 (by omega) (by omega) (by omega) (by assumption) (by omega) (by omega)⟩ | exact Or.inr ⟨rfl, hasp_n2 (by omega) (by assumption) (by omega) (by omega)⟩)⟩ <;> ((repeat' apply And.intro) <;> first | trivial | rfl | assumption | omega | decide | exact Or.inl rfl | exact Or.inr (Or.inl rfl) | exact Or.inr (Or.inr rfl))) [0, 1] (by decide) rfl (Nat.le_of_ble_eq_true rfl) (Nat.le_of_ble_eq_true rfl)
    · skip
      have k21 : ¬ ((Int32.toInt z6) < 0) := fun h_9 => c7 ((fa_lt z6 0).mpr h_9)
      refine r_iconst 16 0 C dX8_has_16 (by decide) ?_
      exact r_zret 17 Rt dX8_has_17 (by decide) () (show (((Int64.toInt y0) < 0 ∧ 0 = 0) ∨ (¬ ((Int64.toInt y0) < 0) ∧ 0 < (Int32.toInt x2) ∧ 0 = 1) ∨ (¬ ((Int64.toInt y0) < 0) ∧ ¬ (0 < (Int32.toInt x2)) ∧ 40 ≤ (Int64.toInt y0) ∧ 0 = 0) ∨ (¬ ((Int64.toInt y0) < 0) ∧ ¬ (0 < (Int32.toInt x2)) ∧ ¬ (40 ≤ (Int64.toInt y0)) ∧ 0 = 0) ∨ (¬ ((Int64.toInt y0) < 0) ∧ ¬ (0 < (Int32.toInt x2)) ∧ ¬ (40 ≤ (Int64.toInt y0)) ∧ 0 = 1) ∨ (¬ ((Int64.toInt y0) < 0) ∧ 0 = 0)) ∧ HSB 0 (HASP (Int32.toInt x0) (Int32.toInt x2) fn0 40 (Int64.toInt y0)) from by refine ⟨Or.inr (Or.inr (Or.inr (Or.inr (Or.inr (?_))))), (by first | exact Or.inl ⟨rfl, hasp_y1 (by omega) (by omega) (by omega)⟩ | exact Or.inr ⟨rfl, hasp_n1 (by omega)⟩ | exact Or.inl ⟨rfl, hasp_y2 (by omega) (by omega) (by omega) (by assumption) (by omega) (by omega)⟩ | exact Or.inr ⟨rfl, hasp_n2 (by omega) (by assumption) (by omega) (by omega)⟩)⟩ <;> ((repeat' apply And.intro) <;> first | trivial | rfl | assumption | omega | decide | exact Or.inl rfl | exact Or.inr (Or.inl rfl) | exact Or.inr (Or.inr rfl))) [0, 1] (by decide) rfl (Nat.le_of_ble_eq_true rfl) (Nat.le_of_ble_eq_true rfl)
set_option maxHeartbeats 4000000 in
set_option maxRecDepth 100000 in
theorem c30_X8_objectAt (l : Launch) (g : GD) (h0 : Nat) (h1 : Nat) (h2 : Nat) (x0 : Int32) (h3 : Nat) (h4 : Nat) (x1 : Int32) (x2 : Int32) (x3 : Int32) (x4 : Int32) (fn0 : Nat → Int32) (i_x4 : (0 ≤ (Int32.toInt x4) ∧ (Int32.toInt x4) ≤ 1500)) (sz : Nat) : Met l yX8_objectAt wsX8_objectAt ({ frames := 1, cells := 0, slots := 0, locals := 22 }) (va_Pc [.ref h0, .int x0] (PW g [(h0, .inr (7, [.ref h1, .ref h3, .ref h4, .int x1, .int x2, .int x3])), (h1, .inr (4, [.ref h2, .int x4])), (h2, .inl (gB g, 1500, .inl fn0))] sz)) (va_Qi (fun (r : Int32) (_ : Unit) => CND (ORG (Int32.toInt x2) (Int32.toInt x0) (Int32.toInt x3)) (r = Int32.ofInt (OBJ (GB fn0 (Int32.toInt x4)) (Int32.toInt x1) (Int32.toInt x3) (Int32.toInt x2) (Int32.toInt x0)))) (BW g (va_A [(h0, .inr (7, [.ref h1, .ref h3, .ref h4, .int x1, .int x2, .int x3])), (h1, .inr (4, [.ref h2, .int x4])), (h2, .inl (gB g, 1500, .inl fn0))] sz) (fun _ : Unit => [(h0, .inr (7, [.ref h1, .ref h3, .ref h4, .int x1, .int x2, .int x3])), (h1, .inr (4, [.ref h2, .int x4])), (h2, .inl (gB g, 1500, .inl fn0))])) (va_A [(h0, .inr (7, [.ref h1, .ref h3, .ref h4, .int x1, .int x2, .int x3])), (h1, .inr (4, [.ref h2, .int x4])), (h2, .inl (gB g, 1500, .inl fn0))] sz)) 0 0 (va_A [(h0, .inr (7, [.ref h1, .ref h3, .ref h4, .int x1, .int x2, .int x3])), (h1, .inr (4, [.ref h2, .int x4])), (h2, .inl (gB g, 1500, .inl fn0))] sz) := by
  refine met_i RX8 (by decide) rfl rfl (Nat.le_of_ble_eq_true rfl) [(0, .ref h0), (1, .int x0)] rfl ?_
  intro p e s m args below meth c A Q C hnm Rt
  have gx0 := fb_rng x0
  have gx1 := fb_rng x1
  have gx2 := fb_rng x2
  have gx3 := fb_rng x3
  have hiX8 : ∀ w ∈ wsX80, w ∈ wsX8_objectAt := fun w h => List.mem_cons_of_mem _ (List.mem_append_left _ (List.mem_append_right _ (h)))
  refine r_iconst 0 0 C dX8_objectAt_0 (by decide) ?_
  refine r_istore_n 1 C dX8_objectAt_1 [(2, .int 0), (0, .ref h0), (1, .int x0)] (by decide) rfl ?_
  refine r_iconst 2 0 C dX8_objectAt_2 (by decide) ?_
  refine r_istore_n 3 C dX8_objectAt_3 [(3, .int 0), (2, .int 0), (0, .ref h0), (1, .int x0)] (by decide) rfl ?_
  have lp4 : ∀ (n3 : Nat) (z1 : Int32) (z2 : Int32), (0 ≤ (Int32.toInt z1) ∧ (Int32.toInt z1) ≤ 2147483647) → (((Int32.toInt z1) ≤ (Int32.toInt x3) ∨ (Int32.toInt z1) = 0)) → (CND (ORG (Int32.toInt x2) (Int32.toInt x0) (Int32.toInt x3)) (OBL (GB fn0 (Int32.toInt x4)) (Int32.toInt x2) (Int32.toInt x0) (Int32.toInt x3) z2 (Int32.toInt z1))) → Int.toNat (2147483647 - (Int32.toInt z1)) < n3 → WW p l e ({ frames := 1, cells := 0, slots := 0, locals := 22 } : Room) s m args below meth c A Q g 4 0 0 [(h0, .inr (7, [.ref h1, .ref h3, .ref h4, .int x1, .int x2, .int x3])), (h1, .inr (4, [.ref h2, .int x4])), (h2, .inl (gB g, 1500, .inl fn0))] 4 [(3, .int z1), (2, .int z2), (0, .ref h0), (1, .int x0)] [] := by
    intro n3
    induction n3 with
    | zero => intro z1 z2 i7 j8 j9 hm6; exact absurd hm6 (Nat.not_lt_zero _)
    | succ n3 ih5 =>
      intro z1 z2 i7 j8 j9 hm6
      obtain ⟨i7a, i7b⟩ := i7
      have gz2 := fb_rng z2
      refine r_iload_n 4 0 C dX8_objectAt_4 rfl ?_
      refine r_aload_n 5 2 C dX8_objectAt_5 rfl ?_
      refine r_get 6 C dX8_objectAt_6 (k := 5) 0 rfl rfl hiX8 (by decide) rfl (mg 1 rfl) (Or.inl rfl) rfl ?_
      refine r_icmp_ge 9 46 C dX8_objectAt_9 (by decide) (fun c10 => ?_) (fun c10 => ?_)
      · skip
        have k11 : (Int32.toInt x3) ≤ (Int32.toInt z1) := (fa_le x3 z1).mp c10
        refine r_aload_n 46 2 C dX8_objectAt_46 rfl ?_
        refine r_get 47 C dX8_objectAt_47 (k := 4) 0 rfl rfl hiX8 (by decide) rfl (mg 3 rfl) (Or.inl rfl) rfl ?_
        refine r_aload_n 50 2 C dX8_objectAt_50 rfl ?_
        refine r_get 51 C dX8_objectAt_51 (k := 3) 0 rfl rfl hiX8 (by decide) rfl (mg 4 rfl) (Or.inl rfl) rfl ?_
        refine r_iconst 54 1 C dX8_objectAt_54 (by decide) ?_
        obtain ⟨z12, ez12⟩ : ∃ z_9, x1 + 1 = z_9 := ⟨_, rfl⟩
        have gz12 := fb_rng z12
        refine r_iadd 55 z12 C dX8_objectAt_55 ez12 ?_
        refine r_aload_n 56 2 C dX8_objectAt_56 rfl ?_
        refine r_get 57 C dX8_objectAt_57 (k := 5) 0 rfl rfl hiX8 (by decide) rfl (mg 1 rfl) (Or.inl rfl) rfl ?_
        obtain ⟨z13, ez13⟩ : ∃ z_9, z12 * x3 = z_9 := ⟨_, rfl⟩
        have gz13 := fb_rng z13
        refine r_imul 60 z13 C dX8_objectAt_60 ez13 ?_
        obtain ⟨z14, ez14⟩ : ∃ z_9, x2 + z13 = z_9 := ⟨_, rfl⟩
        have gz14 := fb_rng z14
        refine r_iadd 61 z14 C dX8_objectAt_61 ez14 ?_
        refine r_iload_n 62 1 C dX8_objectAt_62 rfl ?_
        obtain ⟨z15, ez15⟩ : ∃ z_9, z14 + z2 = z_9 := ⟨_, rfl⟩
        have gz15 := fb_rng z15
        refine r_iadd 63 z15 C dX8_objectAt_63 ez15 ?_
        refine r_iconst 64 1 C dX8_objectAt_64 (by decide) ?_
        obtain ⟨z16, ez16⟩ : ∃ z_9, z15 - 1 = z_9 := ⟨_, rfl⟩
        have gz16 := fb_rng z16
        refine r_isub 65 z16 C dX8_objectAt_65 ez16 ?_
        exact r_iret 66 Rt dX8_objectAt_66 () (show CND (ORG (Int32.toInt x2) (Int32.toInt x0) (Int32.toInt x3)) (z16 = Int32.ofInt (OBJ (GB fn0 (Int32.toInt x4)) (Int32.toInt x1) (Int32.toInt x3) (Int32.toInt x2) (Int32.toInt x0))) from (by exact obl_end (show CND (ORG (Int32.toInt x2) (Int32.toInt x0) (Int32.toInt x3)) (OBL (GB fn0 (Int32.toInt x4)) (Int32.toInt x2) (Int32.toInt x0) (Int32.toInt x3) z2 (Int32.toInt z1)) by assumption) (by assumption) (by assumption) (by assumption) (by assumption) (by assumption) (by omega))) [0, 1, 2] (by decide) rfl (Nat.le_of_ble_eq_true rfl) (Nat.le_of_ble_eq_true rfl)
      · skip
        have k17 : ¬ ((Int32.toInt x3) ≤ (Int32.toInt z1)) := fun h_9 => c10 ((fa_le x3 z1).mpr h_9)
        refine r_iload_n 12 1 C dX8_objectAt_12 rfl ?_
        refine r_sipush 13 256 C dX8_objectAt_13 (by decide) ?_
        obtain ⟨z18, ez18⟩ : ∃ z_9, z2 * 256 = z_9 := ⟨_, rfl⟩
        have gz18 := fb_rng z18
        refine r_imul 16 z18 C dX8_objectAt_16 ez18 ?_
        refine r_aload_n 17 2 C dX8_objectAt_17 rfl ?_
        refine r_get 18 C dX8_objectAt_18 (k := 0) 0 rfl rfl hiX8 (by decide) rfl (mg 2 rfl) (Or.inl rfl) rfl ?_
        refine r_aload_n 21 2 C dX8_objectAt_21 rfl ?_
        refine r_get 22 C dX8_objectAt_22 (k := 4) 0 rfl rfl hiX8 (by decide) rfl (mg 3 rfl) (Or.inl rfl) rfl ?_
        refine r_iload_n 25 3 C dX8_objectAt_25 rfl ?_
        refine r_aload_n 26 2 C dX8_objectAt_26 rfl ?_
        refine r_get 27 C dX8_objectAt_27 (k := 5) 0 rfl rfl hiX8 (by decide) rfl (mg 1 rfl) (Or.inl rfl) rfl ?_
        obtain ⟨z19, ez19⟩ : ∃ z_9, x0 * x3 = z_9 := ⟨_, rfl⟩
        have gz19 := fb_rng z19
        refine r_imul 30 z19 C dX8_objectAt_30 ez19 ?_
        obtain ⟨z20, ez20⟩ : ∃ z_9, x2 + z19 = z_9 := ⟨_, rfl⟩
        have gz20 := fb_rng z20
        refine r_iadd 31 z20 C dX8_objectAt_31 ez20 ?_
        refine r_iload_n 32 0 C dX8_objectAt_32 rfl ?_
        obtain ⟨z21, ez21⟩ : ∃ z_9, z20 + z1 = z_9 := ⟨_, rfl⟩
        have gz21 := fb_rng z21
        refine r_iadd 33 z21 C dX8_objectAt_33 ez21 ?_
        obtain ⟨z22, ez22⟩ : ∃ z_9, Int32.toInt64 z21 = z_9 := ⟨_, rfl⟩
        have tz22 : (Int64.toInt z22) = (Int32.toInt z21) := by rw [← ez22]; exact Int32.toInt_toInt64 _
        refine r_i2l 34 z22 C dX8_objectAt_34 ez22 ?_
        refine r_callVi 35 C dX8_objectAt_35 [.int z18] [(h1, .inr (4, [.ref h2, .int x4])), (h2, .inl (gB g, 1500, .inl fn0))] [(h0, .inr (7, [.ref h1, .ref h3, .ref h4, .int x1, .int x2, .int x3]))] (fun sz => c14_X5_get l g h1 h2 z22 x4 fn0 i_x4 sz) gX8_objectAt_X5_get rfl ⟨rfl, rfl⟩ 1 (by decide) ⟨Nat.le_of_ble_eq_true rfl, Nat.le_of_ble_eq_true rfl⟩ 1 rfl rfl [1, 2] [0] rfl rfl (by decide) (by decide) (by decide) rfl rfl (Nat.le_of_ble_eq_true rfl) ⟨Nat.le_of_ble_eq_true rfl, Nat.le_of_ble_eq_true rfl⟩ (fun r23 _ w24 => ?_)
        refine r_ws [(h0, .inr (7, [.ref h1, .ref h3, .ref h4, .int x1, .int x2, .int x3])), (h1, .inr (4, [.ref h2, .int x4])), (h2, .inl (gB g, 1500, .inl fn0))] rfl ?_
        have p25 : -1 ≤ (Int32.toInt r23) := w24.1
        have p26 : (Int32.toInt r23) ≤ 255 := w24.2.1
        have p27 : HID ((0 ≤ (Int64.toInt z22) ∧ (Int64.toInt z22) < (Int32.toInt x4) ∧ r23 = (fn0 (Int.toNat (Int64.toInt z22)) &&& 255)) ∨ (((Int64.toInt z22) < 0 ∨ (Int32.toInt x4) ≤ (Int64.toInt z22)) ∧ r23 = -1)) := w24.2.2.1
        have p28 : (Int32.toInt r23) = GB fn0 (Int32.toInt x4) (Int64.toInt z22) := w24.2.2.2
        obtain ⟨z29, ez29⟩ : ∃ z_9, z18 + r23 = z_9 := ⟨_, rfl⟩
        have gz29 := fb_rng z29
        refine r_iadd 38 z29 C dX8_objectAt_38 ez29 ?_
        refine r_istore_n 39 C dX8_objectAt_39 [(2, .int z29), (3, .int z1), (0, .ref h0), (1, .int x0)] (by decide) rfl ?_
        obtain ⟨z30, ez30⟩ : ∃ z_9, z1 + Int32.ofInt 1 = z_9 := ⟨_, rfl⟩
        have tz30 : (Int32.toInt z30) = (Int32.toInt z1) + 1 := by rw [← ez30]; exact fb_addI (by show -2147483648 ≤ (Int32.toInt z1) + 1; omega) (by show (Int32.toInt z1) + 1 < 2147483648; omega)
        refine r_iinc 40 1 z30 C dX8_objectAt_40 rfl ez30 [(3, .int z30), (2, .int z29), (0, .ref h0), (1, .int x0)] (by decide) rfl ?_
        refine r_goto 43 4 C dX8_objectAt_43 (by decide) ?_
        exact ih5 z30 z29 ⟨by omega, by omega⟩ (by show ((Int32.toInt z30) ≤ (Int32.toInt x3) ∨ (Int32.toInt z30) = 0); omega) (obl_step (show CND (ORG (Int32.toInt x2) (Int32.toInt x0) (Int32.toInt x3)) (OBL (GB fn0 (Int32.toInt x4)) (Int32.toInt x2) (Int32.toInt x0) (Int32.toInt x3) z2 (Int32.toInt z1)) by assumption) (by assumption) (by assumption) (by assumption) (by assumption) (by assumption) p28 (by omega) (by omega) (by omega) (by omega)) (by omega)
  exact lp4 _ 0 0 (by decide) (by show ((0 : Int) ≤ (Int32.toInt x3) ∨ (0 : Int) = 0); omega) (fun _ => obl_0) (Nat.lt_succ_self _)
set_option maxHeartbeats 4000000 in
set_option maxRecDepth 100000 in
theorem c31_X8_finishOf (l : Launch) (g : GD) (h0 : Nat) (h1 : Nat) (h2 : Nat) (h3 : Nat) (h4 : Nat) (x0 : Int32) (x1 : Int32) (x2 : Int32) (x3 : Int32) (x4 : Int32) (fn0 : Nat → Int32) (fn1 : Nat → Int32) (fn2 : Nat → Int32) (i_x4 : (0 ≤ (Int32.toInt x4) ∧ (Int32.toInt x4) ≤ 1500)) (sz : Nat) : Met l yX8_finishOf wsX8_finishOf ({ frames := 2, cells := 0, slots := 0, locals := 45 }) (va_Pc [.ref h0, .int x0] (PW g [(h0, .inr (7, [.ref h1, .ref h2, .ref h3, .int x1, .int x2, .int x3])), (h1, .inr (4, [.ref h4, .int x4])), (h2, .inl (gI g, 40, .inl fn0)), (h3, .inl (gI g, 40, .inl fn1)), (h4, .inl (gB g, 1500, .inl fn2))] sz)) (va_Qi (fun (r : Int32) (_ : Unit) => CND (FOK (GB fn2 (Int32.toInt x4)) (Int32.toInt x1) (Int32.toInt x3) (Int32.toInt x2) fn0 fn1 40 (Int32.toInt x0)) ((Int32.toInt r) = FINE (GB fn2 (Int32.toInt x4)) (Int32.toInt x1) (Int32.toInt x3) (Int32.toInt x2) fn1 (Int32.toInt x0))) (BW g (va_A [(h0, .inr (7, [.ref h1, .ref h2, .ref h3, .int x1, .int x2, .int x3])), (h1, .inr (4, [.ref h4, .int x4])), (h2, .inl (gI g, 40, .inl fn0)), (h3, .inl (gI g, 40, .inl fn1)), (h4, .inl (gB g, 1500, .inl fn2))] sz) (fun _ : Unit => [(h0, .inr (7, [.ref h1, .ref h2, .ref h3, .int x1, .int x2, .int x3])), (h1, .inr (4, [.ref h4, .int x4])), (h2, .inl (gI g, 40, .inl fn0)), (h3, .inl (gI g, 40, .inl fn1)), (h4, .inl (gB g, 1500, .inl fn2))])) (va_A [(h0, .inr (7, [.ref h1, .ref h2, .ref h3, .int x1, .int x2, .int x3])), (h1, .inr (4, [.ref h4, .int x4])), (h2, .inl (gI g, 40, .inl fn0)), (h3, .inl (gI g, 40, .inl fn1)), (h4, .inl (gB g, 1500, .inl fn2))] sz)) 0 0 (va_A [(h0, .inr (7, [.ref h1, .ref h2, .ref h3, .int x1, .int x2, .int x3])), (h1, .inr (4, [.ref h4, .int x4])), (h2, .inl (gI g, 40, .inl fn0)), (h3, .inl (gI g, 40, .inl fn1)), (h4, .inl (gB g, 1500, .inl fn2))] sz) := by
  refine met_i RX8 (by decide) rfl rfl (Nat.le_of_ble_eq_true rfl) [(0, .ref h0), (1, .int x0)] rfl ?_
  intro p e s m args below meth c A Q C hnm Rt
  have gx0 := fb_rng x0
  have gx1 := fb_rng x1
  have gx2 := fb_rng x2
  have gx3 := fb_rng x3
  have hiX8 : ∀ w ∈ wsX80, w ∈ wsX8_finishOf := fun w h => List.mem_cons_of_mem _ (List.mem_append_left _ (List.mem_append_right _ (h)))
  refine r_aload_n 0 0 C dX8_finishOf_0 rfl ?_
  refine r_iload_n 1 1 C dX8_finishOf_1 rfl ?_
  obtain ⟨z1, ez1⟩ : ∃ z_9, Int32.toInt64 x0 = z_9 := ⟨_, rfl⟩
  have tz1 : (Int64.toInt z1) = (Int32.toInt x0) := by rw [← ez1]; exact Int32.toInt_toInt64 _
  refine r_i2l 2 z1 C dX8_finishOf_2 ez1 ?_
  refine r_callVi 3 C dX8_finishOf_3 [] [(h0, .inr (7, [.ref h1, .ref h2, .ref h3, .int x1, .int x2, .int x3])), (h2, .inl (gI g, 40, .inl fn0))] [(h1, .inr (4, [.ref h4, .int x4])), (h3, .inl (gI g, 40, .inl fn1)), (h4, .inl (gB g, 1500, .inl fn2))] (fun sz => c29_X8_has l g h0 h2 z1 h1 h3 x1 x2 x3 fn0  sz) gX8_finishOf_X8_has rfl ⟨rfl, rfl⟩ 1 (by decide) ⟨Nat.le_of_ble_eq_true rfl, Nat.le_of_ble_eq_true rfl⟩ 0 rfl rfl [0, 2] [1, 3, 4] rfl rfl (by decide) (by decide) (by decide) rfl rfl (Nat.le_of_ble_eq_true rfl) ⟨Nat.le_of_ble_eq_true rfl, Nat.le_of_ble_eq_true rfl⟩ (fun r2 _ w3 => ?_)
  refine r_ws [(h1, .inr (4, [.ref h4, .int x4])), (h3, .inl (gI g, 40, .inl fn1)), (h4, .inl (gB g, 1500, .inl fn2)), (h0, .inr (7, [.ref h1, .ref h2, .ref h3, .int x1, .int x2, .int x3])), (h2, .inl (gI g, 40, .inl fn0))] rfl ?_
  have p4 : HSB (Int32.toInt r2) (HASP (Int32.toInt x1) (Int32.toInt x3) fn0 40 (Int64.toInt z1)) := w3.2
  have w5 : (((Int64.toInt z1) < 0 ∧ r2 = 0) ∨ (¬ ((Int64.toInt z1) < 0) ∧ 0 < (Int32.toInt x3) ∧ r2 = 1) ∨ (¬ ((Int64.toInt z1) < 0) ∧ ¬ (0 < (Int32.toInt x3)) ∧ 40 ≤ (Int64.toInt z1) ∧ r2 = 0) ∨ (¬ ((Int64.toInt z1) < 0) ∧ ¬ (0 < (Int32.toInt x3)) ∧ ¬ (40 ≤ (Int64.toInt z1)) ∧ r2 = 0) ∨ (¬ ((Int64.toInt z1) < 0) ∧ ¬ (0 < (Int32.toInt x3)) ∧ ¬ (40 ≤ (Int64.toInt z1)) ∧ r2 = 1) ∨ (¬ ((Int64.toInt z1) < 0) ∧ r2 = 0)) := w3.1
  rcases w5 with ⟨k6, k7⟩ | w5
  · skip
    have k7 := k7.symm
    subst k7
    refine r_if_ne_f 6 11 C dX8_finishOf_6 (by decide) (by decide) ?_
    refine r_iconst 9 0 C dX8_finishOf_9 (by decide) ?_
    exact r_iret 10 Rt dX8_finishOf_10 () (show CND (FOK (GB fn2 (Int32.toInt x4)) (Int32.toInt x1) (Int32.toInt x3) (Int32.toInt x2) fn0 fn1 40 (Int32.toInt x0)) (0 = FINE (GB fn2 (Int32.toInt x4)) (Int32.toInt x1) (Int32.toInt x3) (Int32.toInt x2) fn1 (Int32.toInt x0)) from (by first | exact fin_n (hsb_k p4 (by omega)) (by first | rfl | omega) | exact fin_b (by assumption) (by omega))) [3, 0, 4, 1, 2] (by decide) rfl (Nat.le_of_ble_eq_true rfl) (Nat.le_of_ble_eq_true rfl)
  rcases w5 with ⟨k8, k9, k10⟩ | w5
  · skip
    have k10 := k10.symm
    subst k10
    refine r_if_ne_t 6 11 C dX8_finishOf_6 (by decide) (by decide) ?_
    refine r_aload_n 11 0 C dX8_finishOf_11 rfl ?_
    refine r_get 12 C dX8_finishOf_12 (k := 5) 3 rfl rfl hiX8 (by decide) rfl (mg 1 rfl) (Or.inl rfl) rfl ?_
    refine r_if_le_f 15 28 C dX8_finishOf_15 (by decide) (fun h_9 => by have h_8 : (Int32.toInt x3) ≤ 0 := (fa_le x3 0).mp h_9; omega) ?_
    refine r_aload_n 18 0 C dX8_finishOf_18 rfl ?_
    refine r_iload_n 19 1 C dX8_finishOf_19 rfl ?_
    refine r_iconst 20 1 C dX8_finishOf_20 (by decide) ?_
    obtain ⟨z11, ez11⟩ : ∃ z_9, x0 + 1 = z_9 := ⟨_, rfl⟩
    have gz11 := fb_rng z11
    refine r_iadd 21 z11 C dX8_finishOf_21 ez11 ?_
    refine r_callVi 22 C dX8_finishOf_22 [] [(h0, .inr (7, [.ref h1, .ref h2, .ref h3, .int x1, .int x2, .int x3])), (h1, .inr (4, [.ref h4, .int x4])), (h4, .inl (gB g, 1500, .inl fn2))] [(h3, .inl (gI g, 40, .inl fn1)), (h2, .inl (gI g, 40, .inl fn0))] (fun sz => c30_X8_objectAt l g h0 h1 h4 z11 h2 h3 x1 x2 x3 x4 fn2 i_x4 sz) gX8_finishOf_X8_objectAt rfl ⟨rfl, rfl⟩ 1 (by decide) ⟨Nat.le_of_ble_eq_true rfl, Nat.le_of_ble_eq_true rfl⟩ 3 rfl rfl [3, 0, 2] [1, 4] rfl rfl (by decide) (by decide) (by decide) rfl rfl (Nat.le_of_ble_eq_true rfl) ⟨Nat.le_of_ble_eq_true rfl, Nat.le_of_ble_eq_true rfl⟩ (fun r12 _ w13 => ?_)
    refine r_ws [(h3, .inl (gI g, 40, .inl fn1)), (h2, .inl (gI g, 40, .inl fn0)), (h0, .inr (7, [.ref h1, .ref h2, .ref h3, .int x1, .int x2, .int x3])), (h1, .inr (4, [.ref h4, .int x4])), (h4, .inl (gB g, 1500, .inl fn2))] rfl ?_
    have p14 : CND (ORG (Int32.toInt x2) (Int32.toInt z11) (Int32.toInt x3)) (r12 = Int32.ofInt (OBJ (GB fn2 (Int32.toInt x4)) (Int32.toInt x1) (Int32.toInt x3) (Int32.toInt x2) (Int32.toInt z11))) := w13
    have gr12 := fb_rng r12
    refine r_goto 25 34 C dX8_finishOf_25 (by decide) ?_
    exact r_iret 34 Rt dX8_finishOf_34 () (show CND (FOK (GB fn2 (Int32.toInt x4)) (Int32.toInt x1) (Int32.toInt x3) (Int32.toInt x2) fn0 fn1 40 (Int32.toInt x0)) ((Int32.toInt r12) = FINE (GB fn2 (Int32.toInt x4)) (Int32.toInt x1) (Int32.toInt x3) (Int32.toInt x2) fn1 (Int32.toInt x0)) from (by exact fin_o p14 (by assumption) (by omega))) [2, 3, 1, 0, 4] (by decide) rfl (Nat.le_of_ble_eq_true rfl) (Nat.le_of_ble_eq_true rfl)
  rcases w5 with ⟨k15, k16, k17, k18⟩ | w5
  · skip
    have k18 := k18.symm
    subst k18
    refine r_if_ne_f 6 11 C dX8_finishOf_6 (by decide) (by decide) ?_
    refine r_iconst 9 0 C dX8_finishOf_9 (by decide) ?_
    exact r_iret 10 Rt dX8_finishOf_10 () (show CND (FOK (GB fn2 (Int32.toInt x4)) (Int32.toInt x1) (Int32.toInt x3) (Int32.toInt x2) fn0 fn1 40 (Int32.toInt x0)) (0 = FINE (GB fn2 (Int32.toInt x4)) (Int32.toInt x1) (Int32.toInt x3) (Int32.toInt x2) fn1 (Int32.toInt x0)) from (by first | exact fin_n (hsb_k p4 (by omega)) (by first | rfl | omega) | exact fin_b (by assumption) (by omega))) [3, 0, 4, 1, 2] (by decide) rfl (Nat.le_of_ble_eq_true rfl) (Nat.le_of_ble_eq_true rfl)
  rcases w5 with ⟨k19, k20, k21, k22⟩ | w5
  · skip
    have k22 := k22.symm
    subst k22
    refine r_if_ne_f 6 11 C dX8_finishOf_6 (by decide) (by decide) ?_
    refine r_iconst 9 0 C dX8_finishOf_9 (by decide) ?_
    exact r_iret 10 Rt dX8_finishOf_10 () (show CND (FOK (GB fn2 (Int32.toInt x4)) (Int32.toInt x1) (Int32.toInt x3) (Int32.toInt x2) fn0 fn1 40 (Int32.toInt x0)) (0 = FINE (GB fn2 (Int32.toInt x4)) (Int32.toInt x1) (Int32.toInt x3) (Int32.toInt x2) fn1 (Int32.toInt x0)) from (by first | exact fin_n (hsb_k p4 (by omega)) (by first | rfl | omega) | exact fin_b (by assumption) (by omega))) [3, 0, 4, 1, 2] (by decide) rfl (Nat.le_of_ble_eq_true rfl) (Nat.le_of_ble_eq_true rfl)
  rcases w5 with ⟨k23, k24, k25, k26⟩ | w5
  · skip
    have k26 := k26.symm
    subst k26
    refine r_if_ne_t 6 11 C dX8_finishOf_6 (by decide) (by decide) ?_
    refine r_aload_n 11 0 C dX8_finishOf_11 rfl ?_
    refine r_get 12 C dX8_finishOf_12 (k := 5) 3 rfl rfl hiX8 (by decide) rfl (mg 1 rfl) (Or.inl rfl) rfl ?_
    refine r_if_le_t 15 28 C dX8_finishOf_15 (by decide) ((fa_le x3 0).mpr (by show (Int32.toInt x3) ≤ 0; omega)) ?_
    refine r_aload_n 28 0 C dX8_finishOf_28 rfl ?_
    refine r_get 29 C dX8_finishOf_29 (k := 2) 3 rfl rfl hiX8 (by decide) rfl (mg 2 rfl) (Or.inl rfl) rfl ?_
    refine r_iload_n 32 1 C dX8_finishOf_32 rfl ?_
    obtain ⟨z27, ez27⟩ : ∃ z_9, fn1 (Int32.toNatClampNeg x0) = z_9 := ⟨_, rfl⟩
    refine r_iald 33 z27 C dX8_finishOf_33 1 rfl (vinI (by omega) (by omega)) ez27 ?_
    have gz27 := fb_rng z27
    exact r_iret 34 Rt dX8_finishOf_34 () (show CND (FOK (GB fn2 (Int32.toInt x4)) (Int32.toInt x1) (Int32.toInt x3) (Int32.toInt x2) fn0 fn1 40 (Int32.toInt x0)) ((Int32.toInt z27) = FINE (GB fn2 (Int32.toInt x4)) (Int32.toInt x1) (Int32.toInt x3) (Int32.toInt x2) fn1 (Int32.toInt x0)) from (by first | exact fin_n (hsb_k p4 (by omega)) (by first | rfl | omega) | exact fin_b (by assumption) (by omega))) [3, 0, 4, 1, 2] (by decide) rfl (Nat.le_of_ble_eq_true rfl) (Nat.le_of_ble_eq_true rfl)
  obtain ⟨k28, k29⟩ := w5
  have k29 := k29.symm
  subst k29
  refine r_if_ne_f 6 11 C dX8_finishOf_6 (by decide) (by decide) ?_
  refine r_iconst 9 0 C dX8_finishOf_9 (by decide) ?_
  exact r_iret 10 Rt dX8_finishOf_10 () (show CND (FOK (GB fn2 (Int32.toInt x4)) (Int32.toInt x1) (Int32.toInt x3) (Int32.toInt x2) fn0 fn1 40 (Int32.toInt x0)) (0 = FINE (GB fn2 (Int32.toInt x4)) (Int32.toInt x1) (Int32.toInt x3) (Int32.toInt x2) fn1 (Int32.toInt x0)) from (by first | exact fin_n (hsb_k p4 (by omega)) (by first | rfl | omega) | exact fin_b (by assumption) (by omega))) [3, 0, 4, 1, 2] (by decide) rfl (Nat.le_of_ble_eq_true rfl) (Nat.le_of_ble_eq_true rfl)
