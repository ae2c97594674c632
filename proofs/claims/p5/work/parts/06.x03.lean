set_option maxHeartbeats 4000000 in
set_option maxRecDepth 100000 in
theorem c69_X2_addReal (l : Launch) (g : GD) (h0 : Nat) (h1 : Nat) (x0 : Int32) (x1 : Int32) (h2 : Nat) (h3 : Nat) (h4 : Nat) (fn0 : Nat → Int32) (i_x0 : (0 ≤ (Int32.toInt x0) ∧ (Int32.toInt x0) ≤ 48)) (i_x1 : (0 ≤ (Int32.toInt x1) ∧ (Int32.toInt x1) ≤ 1)) (sz : Nat) : Met l yX2_addReal wsX2_addReal ({ frames := 2, cells := 0, slots := 0, locals := 41 }) (va_Pc [.ref h0] (PW g [(h0, .inr (2, [.ref h1, .int x0, .int x1, .ref h2, .ref h3, .ref h4])), (h1, .inl (gI g, 48, .inl fn0))] sz)) (va_Qv (fun (u : (Int32) × (Nat → Int32)) => 0 ≤ (Int32.toInt (u.1)) ∧ (Int32.toInt (u.1)) ≤ 48 ∧ CND ((Int32.toInt x0) < 48) ((NZ (Int32.toInt (u.1)) 0 ((u.2) 0)) = (if (Int32.toInt x0) = 0 then (0 : Int) else (NZ (Int32.toInt x0) 0 (fn0 0))) ∧ (NZ (Int32.toInt (u.1)) 1 ((u.2) 1)) = (if (Int32.toInt x0) = 1 then (0 : Int) else (NZ (Int32.toInt x0) 1 (fn0 1)))) ∧ (((Int32.toInt x0) < 48 ∧ (Int32.toInt (u.1)) = (Int32.toInt x0) + 1) ∨ (48 ≤ (Int32.toInt x0) ∧ (Int32.toInt (u.1)) = (Int32.toInt x0)))) (BW g (va_A [(h0, .inr (2, [.ref h1, .int x0, .int x1, .ref h2, .ref h3, .ref h4])), (h1, .inl (gI g, 48, .inl fn0))] sz) (fun u : (Int32) × (Nat → Int32) => [(h0, .inr (2, [.ref h1, .int u.1, .int 1, .ref h2, .ref h3, .ref h4])), (h1, .inl (gI g, 48, .inl u.2))])) (va_A [(h0, .inr (2, [.ref h1, .int x0, .int x1, .ref h2, .ref h3, .ref h4])), (h1, .inl (gI g, 48, .inl fn0))] sz)) 0 0 (va_A [(h0, .inr (2, [.ref h1, .int x0, .int x1, .ref h2, .ref h3, .ref h4])), (h1, .inl (gI g, 48, .inl fn0))] sz) := by
  refine met_v RX2 (by decide) rfl rfl (Nat.le_of_ble_eq_true rfl) [(0, .ref h0)] rfl ?_
  intro p e s m args below meth c A Q C hnm Rt
  have hiX2 : ∀ w ∈ wsX20, w ∈ wsX2_addReal := fun w h => List.mem_cons_of_mem _ (List.mem_append_right _ (h))
  refine r_aload_n 0 0 C dX2_addReal_0 rfl ?_
  refine r_iconst 1 0 C dX2_addReal_1 (by decide) ?_
  refine r_callVv 2 C dX2_addReal_2 [] [(h0, .inr (2, [.ref h1, .int x0, .int x1, .ref h2, .ref h3, .ref h4])), (h1, .inl (gI g, 48, .inl fn0))] [] (fun sz => c67_X2_add l g h0 h1 0 x0 x1 h2 h3 h4 fn0 i_x0 i_x1 sz) gX2_addReal_X2_add rfl ⟨rfl, rfl⟩ 1 (by decide) ⟨Nat.le_of_ble_eq_true rfl, Nat.le_of_ble_eq_true rfl⟩ 0 rfl rfl [0, 1] [] rfl rfl (by decide) (by decide) (by decide) rfl rfl (Nat.le_of_ble_eq_true rfl) ⟨Nat.le_of_ble_eq_true rfl, Nat.le_of_ble_eq_true rfl⟩ (fun  u4 w3 => ?_)
  obtain ⟨z1, f2⟩ := u4
  refine r_ws [(h0, .inr (2, [.ref h1, .int z1, .int x1, .ref h2, .ref h3, .ref h4])), (h1, .inl (gI g, 48, .inl f2))] rfl ?_
  have p5 : 0 ≤ (Int32.toInt z1) := w3.1
  have p6 : (Int32.toInt z1) ≤ 48 := w3.2.1
  have p7 : CND ((Int32.toInt x0) < 48) ((NZ (Int32.toInt z1) 0 (f2 0)) = (if (Int32.toInt x0) = 0 then (0 : Int) else (NZ (Int32.toInt x0) 0 (fn0 0))) ∧ (NZ (Int32.toInt z1) 1 (f2 1)) = (if (Int32.toInt x0) = 1 then (0 : Int) else (NZ (Int32.toInt x0) 1 (fn0 1)))) := w3.2.2.1
  have p8 : (((Int32.toInt x0) < 48 ∧ (Int32.toInt z1) = (Int32.toInt x0) + 1) ∨ (48 ≤ (Int32.toInt x0) ∧ (Int32.toInt z1) = (Int32.toInt x0))) := w3.2.2.2
  refine r_aload_n 5 0 C dX2_addReal_5 rfl ?_
  refine r_iconst 6 1 C dX2_addReal_6 (by decide) ?_
  refine r_put 7 C dX2_addReal_7 (k := 2) 0 rfl rfl hiX2 tyX2 tyX2_ok nmX2 (by decide) rfl (mg 1 rfl) (Or.inl rfl) rfl rfl rfl rfl (Nat.le_of_ble_eq_true rfl) [(h0, .inr (2, [.ref h1, .int z1, .int 1, .ref h2, .ref h3, .ref h4])), (h1, .inl (gI g, 48, .inl f2))] rfl ?_
  exact r_vret 10 Rt dX2_addReal_10 (z1, f2) (show 0 ≤ (Int32.toInt z1) ∧ (Int32.toInt z1) ≤ 48 ∧ CND ((Int32.toInt x0) < 48) ((NZ (Int32.toInt z1) 0 (f2 0)) = (if (Int32.toInt x0) = 0 then (0 : Int) else (NZ (Int32.toInt x0) 0 (fn0 0))) ∧ (NZ (Int32.toInt z1) 1 (f2 1)) = (if (Int32.toInt x0) = 1 then (0 : Int) else (NZ (Int32.toInt x0) 1 (fn0 1)))) ∧ (((Int32.toInt x0) < 48 ∧ (Int32.toInt z1) = (Int32.toInt x0) + 1) ∨ (48 ≤ (Int32.toInt x0) ∧ (Int32.toInt z1) = (Int32.toInt x0))) from ⟨(show _ ∧ _ from ⟨p5, p6⟩).1, (show _ ∧ _ from ⟨p5, p6⟩).2, (by exact p7), (by ((repeat' apply And.intro) <;> first | trivial | rfl | assumption | omega | decide | exact Or.inl rfl | exact Or.inr (Or.inl rfl) | exact Or.inr (Or.inr rfl)))⟩) [0, 1] (by decide) rfl (Nat.le_of_ble_eq_true rfl) (Nat.le_of_ble_eq_true rfl)
set_option maxHeartbeats 4000000 in
set_option maxRecDepth 100000 in
theorem c70_X2_slotOf (l : Launch) (g : GD) (x0 : Int32) (sz : Nat) : Met l yX2_slotOf wsX2_slotOf ({ frames := 0, cells := 0, slots := 0, locals := 0 }) (va_Pc [.int x0] (PW g [] sz)) (va_Qi (fun (r : Int32) (_ : Unit) => -1 ≤ (Int32.toInt r) ∧ (Int32.toInt r) ≤ 5 ∧ SLOT (Int32.toInt x0) (Int32.toInt r)) (BW g (va_A [] sz) (fun _ : Unit => [])) (va_A [] sz)) 0 0 (va_A [] sz) := by
  refine met_i RX2 (by decide) rfl rfl (Nat.le_of_ble_eq_true rfl) [(0, .int x0)] rfl ?_
  intro p e s m args below meth c A Q C hnm Rt
  have gx0 := fb_rng x0
  refine r_iload_n 0 0 C dX2_slotOf_0 rfl ?_
  by_cases c1 : x0 = 17
  · skip
    have k2 : (Int32.toInt x0) = 17 := (fa_eq x0 17).mp c1
    refine r_lookup 1 60 (off := 59) C dX2_slotOf_1 (by decide) (by rw [c1]; decide) (by decide) ?_
    refine r_iconst 60 0 C dX2_slotOf_60 (by decide) ?_
    exact r_iret 61 Rt dX2_slotOf_61 () (show -1 ≤ (Int32.toInt 0) ∧ (Int32.toInt 0) ≤ 5 ∧ SLOT (Int32.toInt x0) 0 from ⟨(by ((repeat' apply And.intro) <;> first | trivial | rfl | assumption | omega | decide | exact Or.inl rfl | exact Or.inr (Or.inl rfl) | exact Or.inr (Or.inr rfl))), (by ((repeat' apply And.intro) <;> first | trivial | rfl | assumption | omega | decide | exact Or.inl rfl | exact Or.inr (Or.inl rfl) | exact Or.inr (Or.inr rfl))), (by first | exact Or.inl ⟨by omega, rfl⟩ | exact Or.inr (Or.inl ⟨by omega, rfl⟩) | exact Or.inr (Or.inr (Or.inl ⟨by omega, rfl⟩)) | exact Or.inr (Or.inr (Or.inr (Or.inl ⟨by omega, rfl⟩))) | exact Or.inr (Or.inr (Or.inr (Or.inr (Or.inl ⟨by omega, rfl⟩)))) | exact Or.inr (Or.inr (Or.inr (Or.inr (Or.inr (Or.inl ⟨by omega, rfl⟩))))) | exact Or.inr (Or.inr (Or.inr (Or.inr (Or.inr (Or.inr ⟨by omega, rfl⟩))))))⟩) [] (by decide) rfl (Nat.le_of_ble_eq_true rfl) (Nat.le_of_ble_eq_true rfl)
  · skip
    have k3 : ¬ ((Int32.toInt x0) = 17) := fun h_9 => c1 ((fa_eq x0 17).mpr h_9)
    by_cases c4 : x0 = 18
    · skip
      have k5 : (Int32.toInt x0) = 18 := (fa_eq x0 18).mp c4
      refine r_lookup 1 62 (off := 61) C dX2_slotOf_1 (by decide) (by rw [c4]; decide) (by decide) ?_
      refine r_iconst 62 1 C dX2_slotOf_62 (by decide) ?_
      exact r_iret 63 Rt dX2_slotOf_63 () (show -1 ≤ (Int32.toInt 1) ∧ (Int32.toInt 1) ≤ 5 ∧ SLOT (Int32.toInt x0) 1 from ⟨(by ((repeat' apply And.intro) <;> first | trivial | rfl | assumption | omega | decide | exact Or.inl rfl | exact Or.inr (Or.inl rfl) | exact Or.inr (Or.inr rfl))), (by ((repeat' apply And.intro) <;> first | trivial | rfl | assumption | omega | decide | exact Or.inl rfl | exact Or.inr (Or.inl rfl) | exact Or.inr (Or.inr rfl))), (by first | exact Or.inl ⟨by omega, rfl⟩ | exact Or.inr (Or.inl ⟨by omega, rfl⟩) | exact Or.inr (Or.inr (Or.inl ⟨by omega, rfl⟩)) | exact Or.inr (Or.inr (Or.inr (Or.inl ⟨by omega, rfl⟩))) | exact Or.inr (Or.inr (Or.inr (Or.inr (Or.inl ⟨by omega, rfl⟩)))) | exact Or.inr (Or.inr (Or.inr (Or.inr (Or.inr (Or.inl ⟨by omega, rfl⟩))))) | exact Or.inr (Or.inr (Or.inr (Or.inr (Or.inr (Or.inr ⟨by omega, rfl⟩))))))⟩) [] (by decide) rfl (Nat.le_of_ble_eq_true rfl) (Nat.le_of_ble_eq_true rfl)
    · skip
      have k6 : ¬ ((Int32.toInt x0) = 18) := fun h_9 => c4 ((fa_eq x0 18).mpr h_9)
      by_cases c7 : x0 = 19
      · skip
        have k8 : (Int32.toInt x0) = 19 := (fa_eq x0 19).mp c7
        refine r_lookup 1 66 (off := 65) C dX2_slotOf_1 (by decide) (by rw [c7]; decide) (by decide) ?_
        refine r_iconst 66 3 C dX2_slotOf_66 (by decide) ?_
        exact r_iret 67 Rt dX2_slotOf_67 () (show -1 ≤ (Int32.toInt 3) ∧ (Int32.toInt 3) ≤ 5 ∧ SLOT (Int32.toInt x0) 3 from ⟨(by ((repeat' apply And.intro) <;> first | trivial | rfl | assumption | omega | decide | exact Or.inl rfl | exact Or.inr (Or.inl rfl) | exact Or.inr (Or.inr rfl))), (by ((repeat' apply And.intro) <;> first | trivial | rfl | assumption | omega | decide | exact Or.inl rfl | exact Or.inr (Or.inl rfl) | exact Or.inr (Or.inr rfl))), (by first | exact Or.inl ⟨by omega, rfl⟩ | exact Or.inr (Or.inl ⟨by omega, rfl⟩) | exact Or.inr (Or.inr (Or.inl ⟨by omega, rfl⟩)) | exact Or.inr (Or.inr (Or.inr (Or.inl ⟨by omega, rfl⟩))) | exact Or.inr (Or.inr (Or.inr (Or.inr (Or.inl ⟨by omega, rfl⟩)))) | exact Or.inr (Or.inr (Or.inr (Or.inr (Or.inr (Or.inl ⟨by omega, rfl⟩))))) | exact Or.inr (Or.inr (Or.inr (Or.inr (Or.inr (Or.inr ⟨by omega, rfl⟩))))))⟩) [] (by decide) rfl (Nat.le_of_ble_eq_true rfl) (Nat.le_of_ble_eq_true rfl)
      · skip
        have k9 : ¬ ((Int32.toInt x0) = 19) := fun h_9 => c7 ((fa_eq x0 19).mpr h_9)
        by_cases c10 : x0 = 20
        · skip
          have k11 : (Int32.toInt x0) = 20 := (fa_eq x0 20).mp c10
          refine r_lookup 1 68 (off := 67) C dX2_slotOf_1 (by decide) (by rw [c10]; decide) (by decide) ?_
          refine r_iconst 68 4 C dX2_slotOf_68 (by decide) ?_
          exact r_iret 69 Rt dX2_slotOf_69 () (show -1 ≤ (Int32.toInt 4) ∧ (Int32.toInt 4) ≤ 5 ∧ SLOT (Int32.toInt x0) 4 from ⟨(by ((repeat' apply And.intro) <;> first | trivial | rfl | assumption | omega | decide | exact Or.inl rfl | exact Or.inr (Or.inl rfl) | exact Or.inr (Or.inr rfl))), (by ((repeat' apply And.intro) <;> first | trivial | rfl | assumption | omega | decide | exact Or.inl rfl | exact Or.inr (Or.inl rfl) | exact Or.inr (Or.inr rfl))), (by first | exact Or.inl ⟨by omega, rfl⟩ | exact Or.inr (Or.inl ⟨by omega, rfl⟩) | exact Or.inr (Or.inr (Or.inl ⟨by omega, rfl⟩)) | exact Or.inr (Or.inr (Or.inr (Or.inl ⟨by omega, rfl⟩))) | exact Or.inr (Or.inr (Or.inr (Or.inr (Or.inl ⟨by omega, rfl⟩)))) | exact Or.inr (Or.inr (Or.inr (Or.inr (Or.inr (Or.inl ⟨by omega, rfl⟩))))) | exact Or.inr (Or.inr (Or.inr (Or.inr (Or.inr (Or.inr ⟨by omega, rfl⟩))))))⟩) [] (by decide) rfl (Nat.le_of_ble_eq_true rfl) (Nat.le_of_ble_eq_true rfl)
        · skip
          have k12 : ¬ ((Int32.toInt x0) = 20) := fun h_9 => c10 ((fa_eq x0 20).mpr h_9)
          by_cases c13 : x0 = 21
          · skip
            have k14 : (Int32.toInt x0) = 21 := (fa_eq x0 21).mp c13
            refine r_lookup 1 70 (off := 69) C dX2_slotOf_1 (by decide) (by rw [c13]; decide) (by decide) ?_
            refine r_iconst 70 5 C dX2_slotOf_70 (by decide) ?_
            exact r_iret 71 Rt dX2_slotOf_71 () (show -1 ≤ (Int32.toInt 5) ∧ (Int32.toInt 5) ≤ 5 ∧ SLOT (Int32.toInt x0) 5 from ⟨(by ((repeat' apply And.intro) <;> first | trivial | rfl | assumption | omega | decide | exact Or.inl rfl | exact Or.inr (Or.inl rfl) | exact Or.inr (Or.inr rfl))), (by ((repeat' apply And.intro) <;> first | trivial | rfl | assumption | omega | decide | exact Or.inl rfl | exact Or.inr (Or.inl rfl) | exact Or.inr (Or.inr rfl))), (by first | exact Or.inl ⟨by omega, rfl⟩ | exact Or.inr (Or.inl ⟨by omega, rfl⟩) | exact Or.inr (Or.inr (Or.inl ⟨by omega, rfl⟩)) | exact Or.inr (Or.inr (Or.inr (Or.inl ⟨by omega, rfl⟩))) | exact Or.inr (Or.inr (Or.inr (Or.inr (Or.inl ⟨by omega, rfl⟩)))) | exact Or.inr (Or.inr (Or.inr (Or.inr (Or.inr (Or.inl ⟨by omega, rfl⟩))))) | exact Or.inr (Or.inr (Or.inr (Or.inr (Or.inr (Or.inr ⟨by omega, rfl⟩))))))⟩) [] (by decide) rfl (Nat.le_of_ble_eq_true rfl) (Nat.le_of_ble_eq_true rfl)
          · skip
            have k15 : ¬ ((Int32.toInt x0) = 21) := fun h_9 => c13 ((fa_eq x0 21).mpr h_9)
            by_cases c16 : x0 = 262
            · skip
              have k17 : (Int32.toInt x0) = 262 := (fa_eq x0 262).mp c16
              refine r_lookup 1 64 (off := 63) C dX2_slotOf_1 (by decide) (by rw [c16]; decide) (by decide) ?_
              refine r_iconst 64 2 C dX2_slotOf_64 (by decide) ?_
              exact r_iret 65 Rt dX2_slotOf_65 () (show -1 ≤ (Int32.toInt 2) ∧ (Int32.toInt 2) ≤ 5 ∧ SLOT (Int32.toInt x0) 2 from ⟨(by ((repeat' apply And.intro) <;> first | trivial | rfl | assumption | omega | decide | exact Or.inl rfl | exact Or.inr (Or.inl rfl) | exact Or.inr (Or.inr rfl))), (by ((repeat' apply And.intro) <;> first | trivial | rfl | assumption | omega | decide | exact Or.inl rfl | exact Or.inr (Or.inl rfl) | exact Or.inr (Or.inr rfl))), (by first | exact Or.inl ⟨by omega, rfl⟩ | exact Or.inr (Or.inl ⟨by omega, rfl⟩) | exact Or.inr (Or.inr (Or.inl ⟨by omega, rfl⟩)) | exact Or.inr (Or.inr (Or.inr (Or.inl ⟨by omega, rfl⟩))) | exact Or.inr (Or.inr (Or.inr (Or.inr (Or.inl ⟨by omega, rfl⟩)))) | exact Or.inr (Or.inr (Or.inr (Or.inr (Or.inr (Or.inl ⟨by omega, rfl⟩))))) | exact Or.inr (Or.inr (Or.inr (Or.inr (Or.inr (Or.inr ⟨by omega, rfl⟩))))))⟩) [] (by decide) rfl (Nat.le_of_ble_eq_true rfl) (Nat.le_of_ble_eq_true rfl)
            · skip
              have k18 : ¬ ((Int32.toInt x0) = 262) := fun h_9 => c16 ((fa_eq x0 262).mpr h_9)
              refine r_lookup 1 72 (off := 71) C dX2_slotOf_1 (by decide) ((lv_osw c1 rfl).trans ((lv_osw c4 rfl).trans ((lv_osw c7 rfl).trans ((lv_osw c10 rfl).trans ((lv_osw c13 rfl).trans ((lv_osw c16 rfl).trans rfl)))))) (by decide) ?_
              refine r_iconst 72 (-1) C dX2_slotOf_72 (by decide) ?_
              exact r_iret 73 Rt dX2_slotOf_73 () (show -1 ≤ (Int32.toInt (-1)) ∧ (Int32.toInt (-1)) ≤ 5 ∧ SLOT (Int32.toInt x0) (-1) from ⟨(by ((repeat' apply And.intro) <;> first | trivial | rfl | assumption | omega | decide | exact Or.inl rfl | exact Or.inr (Or.inl rfl) | exact Or.inr (Or.inr rfl))), (by ((repeat' apply And.intro) <;> first | trivial | rfl | assumption | omega | decide | exact Or.inl rfl | exact Or.inr (Or.inl rfl) | exact Or.inr (Or.inr rfl))), (by first | exact Or.inl ⟨by omega, rfl⟩ | exact Or.inr (Or.inl ⟨by omega, rfl⟩) | exact Or.inr (Or.inr (Or.inl ⟨by omega, rfl⟩)) | exact Or.inr (Or.inr (Or.inr (Or.inl ⟨by omega, rfl⟩))) | exact Or.inr (Or.inr (Or.inr (Or.inr (Or.inl ⟨by omega, rfl⟩)))) | exact Or.inr (Or.inr (Or.inr (Or.inr (Or.inr (Or.inl ⟨by omega, rfl⟩))))) | exact Or.inr (Or.inr (Or.inr (Or.inr (Or.inr (Or.inr ⟨by omega, rfl⟩))))))⟩) [] (by decide) rfl (Nat.le_of_ble_eq_true rfl) (Nat.le_of_ble_eq_true rfl)
set_option maxHeartbeats 4000000 in
set_option maxRecDepth 100000 in
theorem c71_X2_tell (l : Launch) (g : GD) (h0 : Nat) (h1 : Nat) (h2 : Nat) (h3 : Nat) (h4 : Nat) (x0 : Int32) (x1 : Int32) (x2 : Int32) (fn0 : Nat → Int32) (fn1 : Nat → Int32) (fn2 : Nat → Int32) (fn3 : Nat → Int32) (i_x1 : (0 ≤ (Int32.toInt x1) ∧ (Int32.toInt x1) ≤ 48)) (i_x2 : (0 ≤ (Int32.toInt x2) ∧ (Int32.toInt x2) ≤ 1)) (sz : Nat) : Met l yX2_tell wsX2_tell ({ frames := 1, cells := 0, slots := 0, locals := 20 }) (va_Pc [.ref h0, .int x0] (PW g [(h0, .inr (2, [.ref h1, .int x1, .int x2, .ref h2, .ref h3, .ref h4])), (h1, .inl (gI g, 48, .inl fn0)), (h2, .inl (gI g, 6, .inl fn1)), (h3, .inl (gI g, 6, .inl fn2)), (h4, .inl (gI g, 6, .inl fn3))] sz)) (va_Qv (fun (u : (Nat → Int32) × (Nat → Int32) × (Nat → Int32)) => (SC (u.1) (u.2.1) (u.2.2)) = TEL (SC fn1 fn2 fn3) (Int32.toInt x0) (Int32.toInt x1) (NZ (Int32.toInt x1) 0 (fn0 0)) (NZ (Int32.toInt x1) 1 (fn0 1)) (Int32.toInt x2)) (BW g (va_A [(h0, .inr (2, [.ref h1, .int x1, .int x2, .ref h2, .ref h3, .ref h4])), (h1, .inl (gI g, 48, .inl fn0)), (h2, .inl (gI g, 6, .inl fn1)), (h3, .inl (gI g, 6, .inl fn2)), (h4, .inl (gI g, 6, .inl fn3))] sz) (fun u : (Nat → Int32) × (Nat → Int32) × (Nat → Int32) => [(h0, .inr (2, [.ref h1, .int 0, .int 0, .ref h2, .ref h3, .ref h4])), (h1, .inl (gI g, 48, .inl fn0)), (h2, .inl (gI g, 6, .inl u.1)), (h3, .inl (gI g, 6, .inl u.2.1)), (h4, .inl (gI g, 6, .inl u.2.2))])) (va_A [(h0, .inr (2, [.ref h1, .int x1, .int x2, .ref h2, .ref h3, .ref h4])), (h1, .inl (gI g, 48, .inl fn0)), (h2, .inl (gI g, 6, .inl fn1)), (h3, .inl (gI g, 6, .inl fn2)), (h4, .inl (gI g, 6, .inl fn3))] sz)) 0 0 (va_A [(h0, .inr (2, [.ref h1, .int x1, .int x2, .ref h2, .ref h3, .ref h4])), (h1, .inl (gI g, 48, .inl fn0)), (h2, .inl (gI g, 6, .inl fn1)), (h3, .inl (gI g, 6, .inl fn2)), (h4, .inl (gI g, 6, .inl fn3))] sz) := by
  refine met_v RX2 (by decide) rfl rfl (Nat.le_of_ble_eq_true rfl) [(0, .ref h0), (1, .int x0)] rfl ?_
  intro p e s m args below meth c A Q C hnm Rt
  have gx0 := fb_rng x0
  have hiX2 : ∀ w ∈ wsX20, w ∈ wsX2_tell := fun w h => List.mem_cons_of_mem _ (List.mem_append_right _ (h))
  refine r_iload_n 0 1 C dX2_tell_0 rfl ?_
  refine r_callSi 1 C dX2_tell_1 [] [] [(h0, .inr (2, [.ref h1, .int x1, .int x2, .ref h2, .ref h3, .ref h4])), (h1, .inl (gI g, 48, .inl fn0)), (h2, .inl (gI g, 6, .inl fn1)), (h3, .inl (gI g, 6, .inl fn2)), (h4, .inl (gI g, 6, .inl fn3))] (fun sz => c70_X2_slotOf l g x0  sz) gX2_tell_X2_slotOf rfl ⟨rfl, rfl⟩ 1 (by decide) ⟨Nat.le_of_ble_eq_true rfl, Nat.le_of_ble_eq_true rfl⟩ [] [0, 1, 2, 3, 4] rfl rfl (by decide) (by decide) (by decide) rfl rfl (Nat.le_of_ble_eq_true rfl) ⟨Nat.le_of_ble_eq_true rfl, Nat.le_of_ble_eq_true rfl⟩ (fun r1 _ w2 => ?_)
  refine r_ws [(h0, .inr (2, [.ref h1, .int x1, .int x2, .ref h2, .ref h3, .ref h4])), (h1, .inl (gI g, 48, .inl fn0)), (h2, .inl (gI g, 6, .inl fn1)), (h3, .inl (gI g, 6, .inl fn2)), (h4, .inl (gI g, 6, .inl fn3))] rfl ?_
  have p3 : -1 ≤ (Int32.toInt r1) := w2.1
  have p4 : (Int32.toInt r1) ≤ 5 := w2.2.1
  have p5 : SLOT (Int32.toInt x0) (Int32.toInt r1) := w2.2.2
  refine r_istore_n 4 C dX2_tell_4 [(2, .int r1), (0, .ref h0), (1, .int x0)] (by decide) rfl ?_
  refine r_iload_n 5 0 C dX2_tell_5 rfl ?_
  refine r_iconst 6 (-1) C dX2_tell_6 (by decide) ?_
  refine r_icmp_eq 7 79 C dX2_tell_7 (by decide) (fun c6 => ?_) (fun c6 => ?_)
  · skip
    have k7 : (Int32.toInt r1) = (-1) := (fa_eq r1 (-1)).mp c6
    refine r_aload_n 79 1 C dX2_tell_79 rfl ?_
    refine r_iconst 80 0 C dX2_tell_80 (by decide) ?_
    refine r_put 81 C dX2_tell_81 (k := 1) 0 rfl rfl hiX2 tyX2 tyX2_ok nmX2 (by decide) rfl (mg 3 rfl) (Or.inl rfl) rfl rfl rfl rfl (Nat.le_of_ble_eq_true rfl) [(h0, .inr (2, [.ref h1, .int 0, .int x2, .ref h2, .ref h3, .ref h4])), (h1, .inl (gI g, 48, .inl fn0)), (h2, .inl (gI g, 6, .inl fn1)), (h3, .inl (gI g, 6, .inl fn2)), (h4, .inl (gI g, 6, .inl fn3))] rfl ?_
    refine r_aload_n 84 1 C dX2_tell_84 rfl ?_
    refine r_iconst 85 0 C dX2_tell_85 (by decide) ?_
    refine r_put 86 C dX2_tell_86 (k := 2) 0 rfl rfl hiX2 tyX2 tyX2_ok nmX2 (by decide) rfl (mg 2 rfl) (Or.inl rfl) rfl rfl rfl rfl (Nat.le_of_ble_eq_true rfl) [(h0, .inr (2, [.ref h1, .int 0, .int 0, .ref h2, .ref h3, .ref h4])), (h1, .inl (gI g, 48, .inl fn0)), (h2, .inl (gI g, 6, .inl fn1)), (h3, .inl (gI g, 6, .inl fn2)), (h4, .inl (gI g, 6, .inl fn3))] rfl ?_
    exact r_vret 89 Rt dX2_tell_89 (fn1, fn2, fn3) (show (SC fn1 fn2 fn3) = TEL (SC fn1 fn2 fn3) (Int32.toInt x0) (Int32.toInt x1) (NZ (Int32.toInt x1) 0 (fn0 0)) (NZ (Int32.toInt x1) 1 (fn0 1)) (Int32.toInt x2) from (by exact sc_skip p5 (by omega))) [0, 1, 2, 3, 4] (by decide) rfl (Nat.le_of_ble_eq_true rfl) (Nat.le_of_ble_eq_true rfl)
  · skip
    have k8 : ¬ ((Int32.toInt r1) = (-1)) := fun h_9 => c6 ((fa_eq r1 (-1)).mpr h_9)
    refine r_aload_n 10 1 C dX2_tell_10 rfl ?_
    refine r_get 11 C dX2_tell_11 (k := 3) 0 rfl rfl hiX2 (by decide) rfl (mg 1 rfl) (Or.inl rfl) rfl ?_
    refine r_iload_n 14 0 C dX2_tell_14 rfl ?_
    refine r_aload_n 15 1 C dX2_tell_15 rfl ?_
    refine r_get 16 C dX2_tell_16 (k := 2) 0 rfl rfl hiX2 (by decide) rfl (mg 2 rfl) (Or.inl rfl) rfl ?_
    refine r_if_eq 19 27 C dX2_tell_19 (by decide) (fun c9 => ?_) (fun c9 => ?_)
    · skip
      have k10 : (Int32.toInt x2) = 0 := (fa_eq x2 0).mp c9
      refine r_aload_n 27 1 C dX2_tell_27 rfl ?_
      refine r_get 28 C dX2_tell_28 (k := 1) 0 rfl rfl hiX2 (by decide) rfl (mg 3 rfl) (Or.inl rfl) rfl ?_
      obtain ⟨f11, ef11⟩ : ∃ f_9, upd fn1 (Int32.toNatClampNeg r1) x1 = f_9 := ⟨_, rfl⟩
      refine r_iast 31 C dX2_tell_31 2 rfl (vinI (by omega) (by omega)) f11 ef11 [(h0, .inr (2, [.ref h1, .int x1, .int x2, .ref h2, .ref h3, .ref h4])), (h1, .inl (gI g, 48, .inl fn0)), (h2, .inl (gI g, 6, .inl f11)), (h3, .inl (gI g, 6, .inl fn2)), (h4, .inl (gI g, 6, .inl fn3))] rfl ?_
      refine r_aload_n 32 1 C dX2_tell_32 rfl ?_
      refine r_get 33 C dX2_tell_33 (k := 4) 0 rfl rfl hiX2 (by decide) rfl (mg 4 rfl) (Or.inl rfl) rfl ?_
      refine r_iload_n 36 0 C dX2_tell_36 rfl ?_
      refine r_aload_n 37 1 C dX2_tell_37 rfl ?_
      refine r_get 38 C dX2_tell_38 (k := 1) 0 rfl rfl hiX2 (by decide) rfl (mg 3 rfl) (Or.inl rfl) rfl ?_
      refine r_if_le 41 53 C dX2_tell_41 (by decide) (fun c12 => ?_) (fun c12 => ?_)
      · skip
        have k13 : (Int32.toInt x1) ≤ 0 := (fa_le x1 0).mp c12
        refine r_iconst 53 0 C dX2_tell_53 (by decide) ?_
        obtain ⟨f14, ef14⟩ : ∃ f_9, upd fn2 (Int32.toNatClampNeg r1) 0 = f_9 := ⟨_, rfl⟩
        refine r_iast 54 C dX2_tell_54 3 rfl (vinI (by omega) (by omega)) f14 ef14 [(h0, .inr (2, [.ref h1, .int x1, .int x2, .ref h2, .ref h3, .ref h4])), (h1, .inl (gI g, 48, .inl fn0)), (h2, .inl (gI g, 6, .inl f11)), (h3, .inl (gI g, 6, .inl f14)), (h4, .inl (gI g, 6, .inl fn3))] rfl ?_
        refine r_aload_n 55 1 C dX2_tell_55 rfl ?_
        refine r_get 56 C dX2_tell_56 (k := 5) 0 rfl rfl hiX2 (by decide) rfl (mg 6 rfl) (Or.inl rfl) rfl ?_
        refine r_iload_n 59 0 C dX2_tell_59 rfl ?_
        refine r_aload_n 60 1 C dX2_tell_60 rfl ?_
        refine r_get 61 C dX2_tell_61 (k := 1) 0 rfl rfl hiX2 (by decide) rfl (mg 3 rfl) (Or.inl rfl) rfl ?_
        refine r_iconst 64 1 C dX2_tell_64 (by decide) ?_
        refine r_icmp_le_t 65 77 C dX2_tell_65 (by decide) ((fa_le x1 1).mpr (by show (Int32.toInt x1) ≤ 1; omega)) ?_
        refine r_iconst 77 0 C dX2_tell_77 (by decide) ?_
        obtain ⟨f15, ef15⟩ : ∃ f_9, upd fn3 (Int32.toNatClampNeg r1) 0 = f_9 := ⟨_, rfl⟩
        refine r_iast 78 C dX2_tell_78 4 rfl (vinI (by omega) (by omega)) f15 ef15 [(h0, .inr (2, [.ref h1, .int x1, .int x2, .ref h2, .ref h3, .ref h4])), (h1, .inl (gI g, 48, .inl fn0)), (h2, .inl (gI g, 6, .inl f11)), (h3, .inl (gI g, 6, .inl f14)), (h4, .inl (gI g, 6, .inl f15))] rfl ?_
        refine r_aload_n 79 1 C dX2_tell_79 rfl ?_
        refine r_iconst 80 0 C dX2_tell_80 (by decide) ?_
        refine r_put 81 C dX2_tell_81 (k := 1) 0 rfl rfl hiX2 tyX2 tyX2_ok nmX2 (by decide) rfl (mg 3 rfl) (Or.inl rfl) rfl rfl rfl rfl (Nat.le_of_ble_eq_true rfl) [(h0, .inr (2, [.ref h1, .int 0, .int x2, .ref h2, .ref h3, .ref h4])), (h1, .inl (gI g, 48, .inl fn0)), (h2, .inl (gI g, 6, .inl f11)), (h3, .inl (gI g, 6, .inl f14)), (h4, .inl (gI g, 6, .inl f15))] rfl ?_
        refine r_aload_n 84 1 C dX2_tell_84 rfl ?_
        refine r_iconst 85 0 C dX2_tell_85 (by decide) ?_
        refine r_put 86 C dX2_tell_86 (k := 2) 0 rfl rfl hiX2 tyX2 tyX2_ok nmX2 (by decide) rfl (mg 2 rfl) (Or.inl rfl) rfl rfl rfl rfl (Nat.le_of_ble_eq_true rfl) [(h0, .inr (2, [.ref h1, .int 0, .int 0, .ref h2, .ref h3, .ref h4])), (h1, .inl (gI g, 48, .inl fn0)), (h2, .inl (gI g, 6, .inl f11)), (h3, .inl (gI g, 6, .inl f14)), (h4, .inl (gI g, 6, .inl f15))] rfl ?_
        exact r_vret 89 Rt dX2_tell_89 (f11, f14, f15) (show (SC f11 f14 f15) = TEL (SC fn1 fn2 fn3) (Int32.toInt x0) (Int32.toInt x1) (NZ (Int32.toInt x1) 0 (fn0 0)) (NZ (Int32.toInt x1) 1 (fn0 1)) (Int32.toInt x2) from (by exact sc_tell (fo := fn0) (kk := x1) p5 (by omega) ef11 ef14 ef15 rfl (by omega) (by first | exact Or.inl ⟨by omega, rfl⟩ | exact Or.inr ⟨by omega, rfl⟩ | exact Or.inl ⟨by omega, Eq.symm (by assumption)⟩) (by first | exact Or.inl ⟨by omega, rfl⟩ | exact Or.inr ⟨by omega, rfl⟩ | exact Or.inl ⟨by omega, Eq.symm (by assumption)⟩) (by first | exact Or.inl ⟨by omega, rfl⟩ | exact Or.inr ⟨by omega, rfl⟩ | exact Or.inl ⟨by omega, Eq.symm (by assumption)⟩))) [0, 1, 2, 3, 4] (by decide) rfl (Nat.le_of_ble_eq_true rfl) (Nat.le_of_ble_eq_true rfl)
      · skip
        have k16 : ¬ ((Int32.toInt x1) ≤ 0) := fun h_9 => c12 ((fa_le x1 0).mpr h_9)
        refine r_aload_n 44 1 C dX2_tell_44 rfl ?_
        refine r_get 45 C dX2_tell_45 (k := 0) 0 rfl rfl hiX2 (by decide) rfl (mg 5 rfl) (Or.inl rfl) rfl ?_
        refine r_iconst 48 0 C dX2_tell_48 (by decide) ?_
        obtain ⟨z17, ez17⟩ : ∃ z_9, fn0 (Int32.toNatClampNeg 0) = z_9 := ⟨_, rfl⟩
        refine r_iald 49 z17 C dX2_tell_49 1 rfl (vin (by decide)) ez17 ?_
        have gz17 := fb_rng z17
        refine r_goto 50 54 C dX2_tell_50 (by decide) ?_
        obtain ⟨f18, ef18⟩ : ∃ f_9, upd fn2 (Int32.toNatClampNeg r1) z17 = f_9 := ⟨_, rfl⟩
        refine r_iast 54 C dX2_tell_54 3 rfl (vinI (by omega) (by omega)) f18 ef18 [(h0, .inr (2, [.ref h1, .int x1, .int x2, .ref h2, .ref h3, .ref h4])), (h1, .inl (gI g, 48, .inl fn0)), (h2, .inl (gI g, 6, .inl f11)), (h3, .inl (gI g, 6, .inl f18)), (h4, .inl (gI g, 6, .inl fn3))] rfl ?_
        refine r_aload_n 55 1 C dX2_tell_55 rfl ?_
        refine r_get 56 C dX2_tell_56 (k := 5) 0 rfl rfl hiX2 (by decide) rfl (mg 6 rfl) (Or.inl rfl) rfl ?_
        refine r_iload_n 59 0 C dX2_tell_59 rfl ?_
        refine r_aload_n 60 1 C dX2_tell_60 rfl ?_
        refine r_get 61 C dX2_tell_61 (k := 1) 0 rfl rfl hiX2 (by decide) rfl (mg 3 rfl) (Or.inl rfl) rfl ?_
        refine r_iconst 64 1 C dX2_tell_64 (by decide) ?_
        refine r_icmp_le 65 77 C dX2_tell_65 (by decide) (fun c19 => ?_) (fun c19 => ?_)
        · skip
          have k20 : (Int32.toInt x1) ≤ 1 := (fa_le x1 1).mp c19
          refine r_iconst 77 0 C dX2_tell_77 (by decide) ?_
          obtain ⟨f21, ef21⟩ : ∃ f_9, upd fn3 (Int32.toNatClampNeg r1) 0 = f_9 := ⟨_, rfl⟩
          refine r_iast 78 C dX2_tell_78 4 rfl (vinI (by omega) (by omega)) f21 ef21 [(h0, .inr (2, [.ref h1, .int x1, .int x2, .ref h2, .ref h3, .ref h4])), (h1, .inl (gI g, 48, .inl fn0)), (h2, .inl (gI g, 6, .inl f11)), (h3, .inl (gI g, 6, .inl f18)), (h4, .inl (gI g, 6, .inl f21))] rfl ?_
          refine r_aload_n 79 1 C dX2_tell_79 rfl ?_
          refine r_iconst 80 0 C dX2_tell_80 (by decide) ?_
          refine r_put 81 C dX2_tell_81 (k := 1) 0 rfl rfl hiX2 tyX2 tyX2_ok nmX2 (by decide) rfl (mg 3 rfl) (Or.inl rfl) rfl rfl rfl rfl (Nat.le_of_ble_eq_true rfl) [(h0, .inr (2, [.ref h1, .int 0, .int x2, .ref h2, .ref h3, .ref h4])), (h1, .inl (gI g, 48, .inl fn0)), (h2, .inl (gI g, 6, .inl f11)), (h3, .inl (gI g, 6, .inl f18)), (h4, .inl (gI g, 6, .inl f21))] rfl ?_
          refine r_aload_n 84 1 C dX2_tell_84 rfl ?_
          refine r_iconst 85 0 C dX2_tell_85 (by decide) ?_
          refine r_put 86 C dX2_tell_86 (k := 2) 0 rfl rfl hiX2 tyX2 tyX2_ok nmX2 (by decide) rfl (mg 2 rfl) (Or.inl rfl) rfl rfl rfl rfl (Nat.le_of_ble_eq_true rfl) [(h0, .inr (2, [.ref h1, .int 0, .int 0, .ref h2, .ref h3, .ref h4])), (h1, .inl (gI g, 48, .inl fn0)), (h2, .inl (gI g, 6, .inl f11)), (h3, .inl (gI g, 6, .inl f18)), (h4, .inl (gI g, 6, .inl f21))] rfl ?_
          exact r_vret 89 Rt dX2_tell_89 (f11, f18, f21) (show (SC f11 f18 f21) = TEL (SC fn1 fn2 fn3) (Int32.toInt x0) (Int32.toInt x1) (NZ (Int32.toInt x1) 0 (fn0 0)) (NZ (Int32.toInt x1) 1 (fn0 1)) (Int32.toInt x2) from (by exact sc_tell (fo := fn0) (kk := x1) p5 (by omega) ef11 ef18 ef21 rfl (by omega) (by first | exact Or.inl ⟨by omega, rfl⟩ | exact Or.inr ⟨by omega, rfl⟩ | exact Or.inl ⟨by omega, Eq.symm (by assumption)⟩) (by first | exact Or.inl ⟨by omega, rfl⟩ | exact Or.inr ⟨by omega, rfl⟩ | exact Or.inl ⟨by omega, Eq.symm (by assumption)⟩) (by first | exact Or.inl ⟨by omega, rfl⟩ | exact Or.inr ⟨by omega, rfl⟩ | exact Or.inl ⟨by omega, Eq.symm (by assumption)⟩))) [0, 1, 2, 3, 4] (by decide) rfl (Nat.le_of_ble_eq_true rfl) (Nat.le_of_ble_eq_true rfl)
        · skip
          have k22 : ¬ ((Int32.toInt x1) ≤ 1) := fun h_9 => c19 ((fa_le x1 1).mpr h_9)
          refine r_aload_n 68 1 C dX2_tell_68 rfl ?_
          refine r_get 69 C dX2_tell_69 (k := 0) 0 rfl rfl hiX2 (by decide) rfl (mg 5 rfl) (Or.inl rfl) rfl ?_
          refine r_iconst 72 1 C dX2_tell_72 (by decide) ?_
          obtain ⟨z23, ez23⟩ : ∃ z_9, fn0 (Int32.toNatClampNeg 1) = z_9 := ⟨_, rfl⟩
          refine r_iald 73 z23 C dX2_tell_73 1 rfl (vin (by decide)) ez23 ?_
          have gz23 := fb_rng z23
          refine r_goto 74 78 C dX2_tell_74 (by decide) ?_
          obtain ⟨f24, ef24⟩ : ∃ f_9, upd fn3 (Int32.toNatClampNeg r1) z23 = f_9 := ⟨_, rfl⟩
          refine r_iast 78 C dX2_tell_78 4 rfl (vinI (by omega) (by omega)) f24 ef24 [(h0, .inr (2, [.ref h1, .int x1, .int x2, .ref h2, .ref h3, .ref h4])), (h1, .inl (gI g, 48, .inl fn0)), (h2, .inl (gI g, 6, .inl f11)), (h3, .inl (gI g, 6, .inl f18)), (h4, .inl (gI g, 6, .inl f24))] rfl ?_
          refine r_aload_n 79 1 C dX2_tell_79 rfl ?_
          refine r_iconst 80 0 C dX2_tell_80 (by decide) ?_
          refine r_put 81 C dX2_tell_81 (k := 1) 0 rfl rfl hiX2 tyX2 tyX2_ok nmX2 (by decide) rfl (mg 3 rfl) (Or.inl rfl) rfl rfl rfl rfl (Nat.le_of_ble_eq_true rfl) [(h0, .inr (2, [.ref h1, .int 0, .int x2, .ref h2, .ref h3, .ref h4])), (h1, .inl (gI g, 48, .inl fn0)), (h2, .inl (gI g, 6, .inl f11)), (h3, .inl (gI g, 6, .inl f18)), (h4, .inl (gI g, 6, .inl f24))] rfl ?_
          refine r_aload_n 84 1 C dX2_tell_84 rfl ?_
          refine r_iconst 85 0 C dX2_tell_85 (by decide) ?_
          refine r_put 86 C dX2_tell_86 (k := 2) 0 rfl rfl hiX2 tyX2 tyX2_ok nmX2 (by decide) rfl (mg 2 rfl) (Or.inl rfl) rfl rfl rfl rfl (Nat.le_of_ble_eq_true rfl) [(h0, .inr (2, [.ref h1, .int 0, .int 0, .ref h2, .ref h3, .ref h4])), (h1, .inl (gI g, 48, .inl fn0)), (h2, .inl (gI g, 6, .inl f11)), (h3, .inl (gI g, 6, .inl f18)), (h4, .inl (gI g, 6, .inl f24))] rfl ?_
          exact r_vret 89 Rt dX2_tell_89 (f11, f18, f24) (show (SC f11 f18 f24) = TEL (SC fn1 fn2 fn3) (Int32.toInt x0) (Int32.toInt x1) (NZ (Int32.toInt x1) 0 (fn0 0)) (NZ (Int32.toInt x1) 1 (fn0 1)) (Int32.toInt x2) from (by exact sc_tell (fo := fn0) (kk := x1) p5 (by omega) ef11 ef18 ef24 rfl (by omega) (by first | exact Or.inl ⟨by omega, rfl⟩ | exact Or.inr ⟨by omega, rfl⟩ | exact Or.inl ⟨by omega, Eq.symm (by assumption)⟩) (by first | exact Or.inl ⟨by omega, rfl⟩ | exact Or.inr ⟨by omega, rfl⟩ | exact Or.inl ⟨by omega, Eq.symm (by assumption)⟩) (by first | exact Or.inl ⟨by omega, rfl⟩ | exact Or.inr ⟨by omega, rfl⟩ | exact Or.inl ⟨by omega, Eq.symm (by assumption)⟩))) [0, 1, 2, 3, 4] (by decide) rfl (Nat.le_of_ble_eq_true rfl) (Nat.le_of_ble_eq_true rfl)
    · skip
      have k25 : ¬ ((Int32.toInt x2) = 0) := fun h_9 => c9 ((fa_eq x2 0).mpr h_9)
      refine r_bipush 22 49 C dX2_tell_22 (by decide) ?_
      refine r_goto 24 31 C dX2_tell_24 (by decide) ?_
      obtain ⟨f26, ef26⟩ : ∃ f_9, upd fn1 (Int32.toNatClampNeg r1) 49 = f_9 := ⟨_, rfl⟩
      refine r_iast 31 C dX2_tell_31 2 rfl (vinI (by omega) (by omega)) f26 ef26 [(h0, .inr (2, [.ref h1, .int x1, .int x2, .ref h2, .ref h3, .ref h4])), (h1, .inl (gI g, 48, .inl fn0)), (h2, .inl (gI g, 6, .inl f26)), (h3, .inl (gI g, 6, .inl fn2)), (h4, .inl (gI g, 6, .inl fn3))] rfl ?_
      refine r_aload_n 32 1 C dX2_tell_32 rfl ?_
      refine r_get 33 C dX2_tell_33 (k := 4) 0 rfl rfl hiX2 (by decide) rfl (mg 4 rfl) (Or.inl rfl) rfl ?_
      refine r_iload_n 36 0 C dX2_tell_36 rfl ?_
      refine r_aload_n 37 1 C dX2_tell_37 rfl ?_
      refine r_get 38 C dX2_tell_38 (k := 1) 0 rfl rfl hiX2 (by decide) rfl (mg 3 rfl) (Or.inl rfl) rfl ?_
      refine r_if_le 41 53 C dX2_tell_41 (by decide) (fun c27 => ?_) (fun c27 => ?_)
      · skip
        have k28 : (Int32.toInt x1) ≤ 0 := (fa_le x1 0).mp c27
        refine r_iconst 53 0 C dX2_tell_53 (by decide) ?_
        obtain ⟨f29, ef29⟩ : ∃ f_9, upd fn2 (Int32.toNatClampNeg r1) 0 = f_9 := ⟨_, rfl⟩
        refine r_iast 54 C dX2_tell_54 3 rfl (vinI (by omega) (by omega)) f29 ef29 [(h0, .inr (2, [.ref h1, .int x1, .int x2, .ref h2, .ref h3, .ref h4])), (h1, .inl (gI g, 48, .inl fn0)), (h2, .inl (gI g, 6, .inl f26)), (h3, .inl (gI g, 6, .inl f29)), (h4, .inl (gI g, 6, .inl fn3))] rfl ?_
        refine r_aload_n 55 1 C dX2_tell_55 rfl ?_
        refine r_get 56 C dX2_tell_56 (k := 5) 0 rfl rfl hiX2 (by decide) rfl (mg 6 rfl) (Or.inl rfl) rfl ?_
        refine r_iload_n 59 0 C dX2_tell_59 rfl ?_
        refine r_aload_n 60 1 C dX2_tell_60 rfl ?_
        refine r_get 61 C dX2_tell_61 (k := 1) 0 rfl rfl hiX2 (by decide) rfl (mg 3 rfl) (Or.inl rfl) rfl ?_
        refine r_iconst 64 1 C dX2_tell_64 (by decide) ?_
        refine r_icmp_le_t 65 77 C dX2_tell_65 (by decide) ((fa_le x1 1).mpr (by show (Int32.toInt x1) ≤ 1; omega)) ?_
        refine r_iconst 77 0 C dX2_tell_77 (by decide) ?_
        obtain ⟨f30, ef30⟩ : ∃ f_9, upd fn3 (Int32.toNatClampNeg r1) 0 = f_9 := ⟨_, rfl⟩
        refine r_iast 78 C dX2_tell_78 4 rfl (vinI (by omega) (by omega)) f30 ef30 [(h0, .inr (2, [.ref h1, .int x1, .int x2, .ref h2, .ref h3, .ref h4])), (h1, .inl (gI g, 48, .inl fn0)), (h2, .inl (gI g, 6, .inl f26)), (h3, .inl (gI g, 6, .inl f29)), (h4, .inl (gI g, 6, .inl f30))] rfl ?_
        refine r_aload_n 79 1 C dX2_tell_79 rfl ?_
        refine r_iconst 80 0 C dX2_tell_80 (by decide) ?_
        refine r_put 81 C dX2_tell_81 (k := 1) 0 rfl rfl hiX2 tyX2 tyX2_ok nmX2 (by decide) rfl (mg 3 rfl) (Or.inl rfl) rfl rfl rfl rfl (Nat.le_of_ble_eq_true rfl) [(h0, .inr (2, [.ref h1, .int 0, .int x2, .ref h2, .ref h3, .ref h4])), (h1, .inl (gI g, 48, .inl fn0)), (h2, .inl (gI g, 6, .inl f26)), (h3, .inl (gI g, 6, .inl f29)), (h4, .inl (gI g, 6, .inl f30))] rfl ?_
        refine r_aload_n 84 1 C dX2_tell_84 rfl ?_
        refine r_iconst 85 0 C dX2_tell_85 (by decide) ?_
        refine r_put 86 C dX2_tell_86 (k := 2) 0 rfl rfl hiX2 tyX2 tyX2_ok nmX2 (by decide) rfl (mg 2 rfl) (Or.inl rfl) rfl rfl rfl rfl (Nat.le_of_ble_eq_true rfl) [(h0, .inr (2, [.ref h1, .int 0, .int 0, .ref h2, .ref h3, .ref h4])), (h1, .inl (gI g, 48, .inl fn0)), (h2, .inl (gI g, 6, .inl f26)), (h3, .inl (gI g, 6, .inl f29)), (h4, .inl (gI g, 6, .inl f30))] rfl ?_
        exact r_vret 89 Rt dX2_tell_89 (f26, f29, f30) (show (SC f26 f29 f30) = TEL (SC fn1 fn2 fn3) (Int32.toInt x0) (Int32.toInt x1) (NZ (Int32.toInt x1) 0 (fn0 0)) (NZ (Int32.toInt x1) 1 (fn0 1)) (Int32.toInt x2) from (by exact sc_tell (fo := fn0) (kk := x1) p5 (by omega) ef26 ef29 ef30 rfl (by omega) (by first | exact Or.inl ⟨by omega, rfl⟩ | exact Or.inr ⟨by omega, rfl⟩ | exact Or.inl ⟨by omega, Eq.symm (by assumption)⟩) (by first | exact Or.inl ⟨by omega, rfl⟩ | exact Or.inr ⟨by omega, rfl⟩ | exact Or.inl ⟨by omega, Eq.symm (by assumption)⟩) (by first | exact Or.inl ⟨by omega, rfl⟩ | exact Or.inr ⟨by omega, rfl⟩ | exact Or.inl ⟨by omega, Eq.symm (by assumption)⟩))) [0, 1, 2, 3, 4] (by decide) rfl (Nat.le_of_ble_eq_true rfl) (Nat.le_of_ble_eq_true rfl)
      · skip
        have k31 : ¬ ((Int32.toInt x1) ≤ 0) := fun h_9 => c27 ((fa_le x1 0).mpr h_9)
        refine r_aload_n 44 1 C dX2_tell_44 rfl ?_
        refine r_get 45 C dX2_tell_45 (k := 0) 0 rfl rfl hiX2 (by decide) rfl (mg 5 rfl) (Or.inl rfl) rfl ?_
        refine r_iconst 48 0 C dX2_tell_48 (by decide) ?_
        obtain ⟨z32, ez32⟩ : ∃ z_9, fn0 (Int32.toNatClampNeg 0) = z_9 := ⟨_, rfl⟩
        refine r_iald 49 z32 C dX2_tell_49 1 rfl (vin (by decide)) ez32 ?_
        have gz32 := fb_rng z32
        refine r_goto 50 54 C dX2_tell_50 (by decide) ?_
        obtain ⟨f33, ef33⟩ : ∃ f_9, upd fn2 (Int32.toNatClampNeg r1) z32 = f_9 := ⟨_, rfl⟩
        refine r_iast 54 C dX2_tell_54 3 rfl (vinI (by omega) (by omega)) f33 ef33 [(h0, .inr (2, [.ref h1, .int x1, .int x2, .ref h2, .ref h3, .ref h4])), (h1, .inl (gI g, 48, .inl fn0)), (h2, .inl (gI g, 6, .inl f26)), (h3, .inl (gI g, 6, .inl f33)), (h4, .inl (gI g, 6, .inl fn3))] rfl ?_
        refine r_aload_n 55 1 C dX2_tell_55 rfl ?_
        refine r_get 56 C dX2_tell_56 (k := 5) 0 rfl rfl hiX2 (by decide) rfl (mg 6 rfl) (Or.inl rfl) rfl ?_
        refine r_iload_n 59 0 C dX2_tell_59 rfl ?_
        refine r_aload_n 60 1 C dX2_tell_60 rfl ?_
        refine r_get 61 C dX2_tell_61 (k := 1) 0 rfl rfl hiX2 (by decide) rfl (mg 3 rfl) (Or.inl rfl) rfl ?_
        refine r_iconst 64 1 C dX2_tell_64 (by decide) ?_
        refine r_icmp_le 65 77 C dX2_tell_65 (by decide) (fun c34 => ?_) (fun c34 => ?_)
        · skip
          have k35 : (Int32.toInt x1) ≤ 1 := (fa_le x1 1).mp c34
          refine r_iconst 77 0 C dX2_tell_77 (by decide) ?_
          obtain ⟨f36, ef36⟩ : ∃ f_9, upd fn3 (Int32.toNatClampNeg r1) 0 = f_9 := ⟨_, rfl⟩
          refine r_iast 78 C dX2_tell_78 4 rfl (vinI (by omega) (by omega)) f36 ef36 [(h0, .inr (2, [.ref h1, .int x1, .int x2, .ref h2, .ref h3, .ref h4])), (h1, .inl (gI g, 48, .inl fn0)), (h2, .inl (gI g, 6, .inl f26)), (h3, .inl (gI g, 6, .inl f33)), (h4, .inl (gI g, 6, .inl f36))] rfl ?_
          refine r_aload_n 79 1 C dX2_tell_79 rfl ?_
          refine r_iconst 80 0 C dX2_tell_80 (by decide) ?_
          refine r_put 81 C dX2_tell_81 (k := 1) 0 rfl rfl hiX2 tyX2 tyX2_ok nmX2 (by decide) rfl (mg 3 rfl) (Or.inl rfl) rfl rfl rfl rfl (Nat.le_of_ble_eq_true rfl) [(h0, .inr (2, [.ref h1, .int 0, .int x2, .ref h2, .ref h3, .ref h4])), (h1, .inl (gI g, 48, .inl fn0)), (h2, .inl (gI g, 6, .inl f26)), (h3, .inl (gI g, 6, .inl f33)), (h4, .inl (gI g, 6, .inl f36))] rfl ?_
          refine r_aload_n 84 1 C dX2_tell_84 rfl ?_
          refine r_iconst 85 0 C dX2_tell_85 (by decide) ?_
          refine r_put 86 C dX2_tell_86 (k := 2) 0 rfl rfl hiX2 tyX2 tyX2_ok nmX2 (by decide) rfl (mg 2 rfl) (Or.inl rfl) rfl rfl rfl rfl (Nat.le_of_ble_eq_true rfl) [(h0, .inr (2, [.ref h1, .int 0, .int 0, .ref h2, .ref h3, .ref h4])), (h1, .inl (gI g, 48, .inl fn0)), (h2, .inl (gI g, 6, .inl f26)), (h3, .inl (gI g, 6, .inl f33)), (h4, .inl (gI g, 6, .inl f36))] rfl ?_
          exact r_vret 89 Rt dX2_tell_89 (f26, f33, f36) (show (SC f26 f33 f36) = TEL (SC fn1 fn2 fn3) (Int32.toInt x0) (Int32.toInt x1) (NZ (Int32.toInt x1) 0 (fn0 0)) (NZ (Int32.toInt x1) 1 (fn0 1)) (Int32.toInt x2) from (by exact sc_tell (fo := fn0) (kk := x1) p5 (by omega) ef26 ef33 ef36 rfl (by omega) (by first | exact Or.inl ⟨by omega, rfl⟩ | exact Or.inr ⟨by omega, rfl⟩ | exact Or.inl ⟨by omega, Eq.symm (by assumption)⟩) (by first | exact Or.inl ⟨by omega, rfl⟩ | exact Or.inr ⟨by omega, rfl⟩ | exact Or.inl ⟨by omega, Eq.symm (by assumption)⟩) (by first | exact Or.inl ⟨by omega, rfl⟩ | exact Or.inr ⟨by omega, rfl⟩ | exact Or.inl ⟨by omega, Eq.symm (by assumption)⟩))) [0, 1, 2, 3, 4] (by decide) rfl (Nat.le_of_ble_eq_true rfl) (Nat.le_of_ble_eq_true rfl)
        · skip
          have k37 : ¬ ((Int32.toInt x1) ≤ 1) := fun h_9 => c34 ((fa_le x1 1).mpr h_9)
          refine r_aload_n 68 1 C dX2_tell_68 rfl ?_
          refine r_get 69 C dX2_tell_69 (k := 0) 0 rfl rfl hiX2 (by decide) rfl (mg 5 rfl) (Or.inl rfl) rfl ?_
          refine r_iconst 72 1 C dX2_tell_72 (by decide) ?_
          obtain ⟨z38, ez38⟩ : ∃ z_9, fn0 (Int32.toNatClampNeg 1) = z_9 := ⟨_, rfl⟩
          refine r_iald 73 z38 C dX2_tell_73 1 rfl (vin (by decide)) ez38 ?_
          have gz38 := fb_rng z38
          refine r_goto 74 78 C dX2_tell_74 (by decide) ?_
          obtain ⟨f39, ef39⟩ : ∃ f_9, upd fn3 (Int32.toNatClampNeg r1) z38 = f_9 := ⟨_, rfl⟩
          refine r_iast 78 C dX2_tell_78 4 rfl (vinI (by omega) (by omega)) f39 ef39 [(h0, .inr (2, [.ref h1, .int x1, .int x2, .ref h2, .ref h3, .ref h4])), (h1, .inl (gI g, 48, .inl fn0)), (h2, .inl (gI g, 6, .inl f26)), (h3, .inl (gI g, 6, .inl f33)), (h4, .inl (gI g, 6, .inl f39))] rfl ?_
          refine r_aload_n 79 1 C dX2_tell_79 rfl ?_
          refine r_iconst 80 0 C dX2_tell_80 (by decide) ?_
          refine r_put 81 C dX2_tell_81 (k := 1) 0 rfl rfl hiX2 tyX2 tyX2_ok nmX2 (by decide) rfl (mg 3 rfl) (Or.inl rfl) rfl rfl rfl rfl (Nat.le_of_ble_eq_true rfl) [(h0, .inr (2, [.ref h1, .int 0, .int x2, .ref h2, .ref h3, .ref h4])), (h1, .inl (gI g, 48, .inl fn0)), (h2, .inl (gI g, 6, .inl f26)), (h3, .inl (gI g, 6, .inl f33)), (h4, .inl (gI g, 6, .inl f39))] rfl ?_
          refine r_aload_n 84 1 C dX2_tell_84 rfl ?_
          refine r_iconst 85 0 C dX2_tell_85 (by decide) ?_
          refine r_put 86 C dX2_tell_86 (k := 2) 0 rfl rfl hiX2 tyX2 tyX2_ok nmX2 (by decide) rfl (mg 2 rfl) (Or.inl rfl) rfl rfl rfl rfl (Nat.le_of_ble_eq_true rfl) [(h0, .inr (2, [.ref h1, .int 0, .int 0, .ref h2, .ref h3, .ref h4])), (h1, .inl (gI g, 48, .inl fn0)), (h2, .inl (gI g, 6, .inl f26)), (h3, .inl (gI g, 6, .inl f33)), (h4, .inl (gI g, 6, .inl f39))] rfl ?_
          exact r_vret 89 Rt dX2_tell_89 (f26, f33, f39) (show (SC f26 f33 f39) = TEL (SC fn1 fn2 fn3) (Int32.toInt x0) (Int32.toInt x1) (NZ (Int32.toInt x1) 0 (fn0 0)) (NZ (Int32.toInt x1) 1 (fn0 1)) (Int32.toInt x2) from (by exact sc_tell (fo := fn0) (kk := x1) p5 (by omega) ef26 ef33 ef39 rfl (by omega) (by first | exact Or.inl ⟨by omega, rfl⟩ | exact Or.inr ⟨by omega, rfl⟩ | exact Or.inl ⟨by omega, Eq.symm (by assumption)⟩) (by first | exact Or.inl ⟨by omega, rfl⟩ | exact Or.inr ⟨by omega, rfl⟩ | exact Or.inl ⟨by omega, Eq.symm (by assumption)⟩) (by first | exact Or.inl ⟨by omega, rfl⟩ | exact Or.inr ⟨by omega, rfl⟩ | exact Or.inl ⟨by omega, Eq.symm (by assumption)⟩))) [0, 1, 2, 3, 4] (by decide) rfl (Nat.le_of_ble_eq_true rfl) (Nat.le_of_ble_eq_true rfl)
set_option maxHeartbeats 4000000 in
set_option maxRecDepth 100000 in
theorem c72_X1_takeOperandOrOperator (l : Launch) (g : GD) (h0 : Nat) (h1 : Nat) (h2 : Nat) (h3 : Nat) (h4 : Nat) (h5 : Nat) (h6 : Nat) (h7 : Nat) (h8 : Nat) (x0 : Int32) (y0 : Int64) (y1 : Int64) (x1 : Int32) (x2 : Int32) (y2 : Int64) (y3 : Int64) (x3 : Int32) (x4 : Int32) (x5 : Int32) (fn0 : Nat → Int32) (fn1 : Nat → Int32) (fn2 : Nat → Int32) (fn3 : Nat → Int32) (fn4 : Nat → Int32) (i_x0 : (0 ≤ (Int32.toInt x0) ∧ (Int32.toInt x0) ≤ 2)) (i_y0 : (-8589934592 ≤ (Int64.toInt y0) ∧ (Int64.toInt y0) ≤ 8589934592)) (i_x1 : (-257 ≤ (Int32.toInt x1) ∧ (Int32.toInt x1) ≤ 65535)) (i_x2 : (-1 ≤ (Int32.toInt x2) ∧ (Int32.toInt x2) ≤ 255)) (i_y2 : (-8589934592 ≤ (Int64.toInt y2) ∧ (Int64.toInt y2) ≤ 8589934592)) (i_y3 : (-8589934592 ≤ (Int64.toInt y3) ∧ (Int64.toInt y3) ≤ 8589934592)) (i_x3 : (0 ≤ (Int32.toInt x3) ∧ (Int32.toInt x3) ≤ 48)) (i_x4 : (0 ≤ (Int32.toInt x4) ∧ (Int32.toInt x4) ≤ 1)) (i_x5 : (0 ≤ (Int32.toInt x5) ∧ (Int32.toInt x5) ≤ 1500)) (sz : Nat) : Met l yX1_takeOperandOrOperator wsX1_takeOperandOrOperator ({ frames := 3, cells := 0, slots := 0, locals := 68 }) (va_Pc [.ref h0] (PW g [(h0, .inr (1, [.ref h1, .ref h8, .ref h2, .int x0, .long y0, .long y1, .int x1, .int x2, .long y2, .long y3])), (h1, .inr (2, [.ref h3, .int x3, .int x4, .ref h4, .ref h5, .ref h6])), (h2, .inr (4, [.ref h7, .int x5])), (h3, .inl (gI g, 48, .inl fn0)), (h4, .inl (gI g, 6, .inl fn1)), (h5, .inl (gI g, 6, .inl fn2)), (h6, .inl (gI g, 6, .inl fn3)), (h7, .inl (gB g, 1500, .inl fn4))] sz)) (va_Qv (fun (u : (Int32) × (Int64) × (Int32) × (Int32) × (Nat → Int32) × (Nat → Int32) × (Nat → Int32) × (Nat → Int32)) => 0 ≤ (Int32.toInt (u.1)) ∧ (Int32.toInt (u.1)) ≤ 2 ∧ -8589934592 ≤ (Int64.toInt (u.2.1)) ∧ (Int64.toInt (u.2.1)) ≤ 8589934592 ∧ 0 ≤ (Int32.toInt (u.2.2.1)) ∧ (Int32.toInt (u.2.2.1)) ≤ 48 ∧ 0 ≤ (Int32.toInt (u.2.2.2.1)) ∧ (Int32.toInt (u.2.2.2.1)) ≤ 1 ∧ CND ((Int64.toInt y1) ≤ (Int32.toInt x5) ∧ 0 ≤ (Int64.toInt y0) ∧ (Int64.toInt y0) < (Int64.toInt y1)) (SEQ (Int32.toInt x0) (Int32.toInt (u.1)) (DST (GB fn4 (Int32.toInt x5)) (Int64.toInt y1) (Int64.toInt y0) (Int32.toInt x3) (NZ (Int32.toInt x3) 0 (fn0 0)) (NZ (Int32.toInt x3) 1 (fn0 1)) (Int32.toInt x4) (SC fn1 fn2 fn3)) (fun s => s = ((Int64.toInt (u.2.1)), (Int32.toInt (u.2.2.1)), (NZ (Int32.toInt (u.2.2.1)) 0 ((u.2.2.2.2.1) 0)), (NZ (Int32.toInt (u.2.2.1)) 1 ((u.2.2.2.2.1) 1)), (Int32.toInt (u.2.2.2.1)), (SC (u.2.2.2.2.2.1) (u.2.2.2.2.2.2.1) (u.2.2.2.2.2.2.2))))) ∧ (¬ ((Int32.toInt (u.1)) = 0) ∨ ((Int32.toInt x0) = 0 ∧ (Int64.toInt y0) < (Int64.toInt (u.2.1)) ∧ (Int64.toInt (u.2.1)) ≤ (Int32.toInt x5) ∧ 0 ≤ (Int64.toInt y0)))) (BW g (va_A [(h0, .inr (1, [.ref h1, .ref h8, .ref h2, .int x0, .long y0, .long y1, .int x1, .int x2, .long y2, .long y3])), (h1, .inr (2, [.ref h3, .int x3, .int x4, .ref h4, .ref h5, .ref h6])), (h2, .inr (4, [.ref h7, .int x5])), (h3, .inl (gI g, 48, .inl fn0)), (h4, .inl (gI g, 6, .inl fn1)), (h5, .inl (gI g, 6, .inl fn2)), (h6, .inl (gI g, 6, .inl fn3)), (h7, .inl (gB g, 1500, .inl fn4))] sz) (fun u : (Int32) × (Int64) × (Int32) × (Int32) × (Nat → Int32) × (Nat → Int32) × (Nat → Int32) × (Nat → Int32) => [(h0, .inr (1, [.ref h1, .ref h8, .ref h2, .int u.1, .long u.2.1, .long y1, .int x1, .int x2, .long y2, .long y3])), (h1, .inr (2, [.ref h3, .int u.2.2.1, .int u.2.2.2.1, .ref h4, .ref h5, .ref h6])), (h2, .inr (4, [.ref h7, .int x5])), (h3, .inl (gI g, 48, .inl u.2.2.2.2.1)), (h4, .inl (gI g, 6, .inl u.2.2.2.2.2.1)), (h5, .inl (gI g, 6, .inl u.2.2.2.2.2.2.1)), (h6, .inl (gI g, 6, .inl u.2.2.2.2.2.2.2)), (h7, .inl (gB g, 1500, .inl fn4))])) (va_A [(h0, .inr (1, [.ref h1, .ref h8, .ref h2, .int x0, .long y0, .long y1, .int x1, .int x2, .long y2, .long y3])), (h1, .inr (2, [.ref h3, .int x3, .int x4, .ref h4, .ref h5, .ref h6])), (h2, .inr (4, [.ref h7, .int x5])), (h3, .inl (gI g, 48, .inl fn0)), (h4, .inl (gI g, 6, .inl fn1)), (h5, .inl (gI g, 6, .inl fn2)), (h6, .inl (gI g, 6, .inl fn3)), (h7, .inl (gB g, 1500, .inl fn4))] sz)) 0 0 (va_A [(h0, .inr (1, [.ref h1, .ref h8, .ref h2, .int x0, .long y0, .long y1, .int x1, .int x2, .long y2, .long y3])), (h1, .inr (2, [.ref h3, .int x3, .int x4, .ref h4, .ref h5, .ref h6])), (h2, .inr (4, [.ref h7, .int x5])), (h3, .inl (gI g, 48, .inl fn0)), (h4, .inl (gI g, 6, .inl fn1)), (h5, .inl (gI g, 6, .inl fn2)), (h6, .inl (gI g, 6, .inl fn3)), (h7, .inl (gB g, 1500, .inl fn4))] sz) := by
  refine met_v RX1 (by decide) rfl rfl (Nat.le_of_ble_eq_true rfl) [(0, .ref h0)] rfl ?_
  intro p e s m args below meth c A Q C hnm Rt
  have gy1 := fb_rngL y1
  have hiX1 : ∀ w ∈ wsX10, w ∈ wsX1_takeOperandOrOperator := fun w h => List.mem_cons_of_mem _ (List.mem_append_left _ (List.mem_append_left _ (List.mem_append_right _ (h))))
  refine r_aload_n 0 0 C dX1_takeOperandOrOperator_0 rfl ?_
  refine r_callVi 1 C dX1_takeOperandOrOperator_1 [] [(h0, .inr (1, [.ref h1, .ref h8, .ref h2, .int x0, .long y0, .long y1, .int x1, .int x2, .long y2, .long y3])), (h2, .inr (4, [.ref h7, .int x5])), (h7, .inl (gB g, 1500, .inl fn4))] [(h1, .inr (2, [.ref h3, .int x3, .int x4, .ref h4, .ref h5, .ref h6])), (h3, .inl (gI g, 48, .inl fn0)), (h4, .inl (gI g, 6, .inl fn1)), (h5, .inl (gI g, 6, .inl fn2)), (h6, .inl (gI g, 6, .inl fn3))] (fun sz => c52_X1_take l g h0 h2 h7 h1 h8 x0 y0 y1 x1 x2 y2 y3 x5 fn4 i_x0 i_y0 i_x1 i_x2 i_y2 i_y3 i_x5 sz) gX1_takeOperandOrOperator_X1_take rfl ⟨rfl, rfl⟩ 0 (by decide) ⟨Nat.le_of_ble_eq_true rfl, Nat.le_of_ble_eq_true rfl⟩ 0 rfl rfl [0, 2, 7] [1, 3, 4, 5, 6] rfl rfl (by decide) (by decide) (by decide) rfl rfl (Nat.le_of_ble_eq_true rfl) ⟨Nat.le_of_ble_eq_true rfl, Nat.le_of_ble_eq_true rfl⟩ (fun r3 u5 w4 => ?_)
  obtain ⟨z1, z2⟩ := u5
  refine r_ws [(h1, .inr (2, [.ref h3, .int x3, .int x4, .ref h4, .ref h5, .ref h6])), (h3, .inl (gI g, 48, .inl fn0)), (h4, .inl (gI g, 6, .inl fn1)), (h5, .inl (gI g, 6, .inl fn2)), (h6, .inl (gI g, 6, .inl fn3)), (h0, .inr (1, [.ref h1, .ref h8, .ref h2, .int z1, .long z2, .long y1, .int x1, .int x2, .long y2, .long y3])), (h2, .inr (4, [.ref h7, .int x5])), (h7, .inl (gB g, 1500, .inl fn4))] rfl ?_
  have p6 : -1 ≤ (Int32.toInt r3) := w4.1
  have p7 : (Int32.toInt r3) ≤ 255 := w4.2.1
  have p8 : 0 ≤ (Int32.toInt z1) := w4.2.2.1
  have p9 : (Int32.toInt z1) ≤ 2 := w4.2.2.2.1
  have p10 : -8589934592 ≤ (Int64.toInt z2) := w4.2.2.2.2.1
  have p11 : (Int64.toInt z2) ≤ 8589934592 := w4.2.2.2.2.2.1
  have p12 : SEQ (Int32.toInt x0) (Int32.toInt z1) (BYT (GB fn4 (Int32.toInt x5)) (Int32.toInt x5) (Int64.toInt y1) (Int64.toInt y0)) (fun v => v = (Int32.toInt r3) ∧ (Int64.toInt z2) = (Int64.toInt y0) + 1) := w4.2.2.2.2.2.2.1
  have p13 : (((Int32.toInt r3) = -1 ∧ 1 ≤ (Int32.toInt z1) ∧ (Int64.toInt z2) = (Int64.toInt y0)) ∨ ((Int32.toInt x0) = 0 ∧ (Int32.toInt z1) = 0 ∧ 0 ≤ (Int64.toInt y0) ∧ (Int64.toInt y0) < (Int32.toInt x5) ∧ (Int64.toInt y0) < (Int64.toInt y1) ∧ (Int64.toInt z2) = (Int64.toInt y0) + 1 ∧ 0 ≤ (Int32.toInt r3))) := w4.2.2.2.2.2.2.2
  rcases p13 with ⟨k14, k15, k16⟩ | p13
  · skip
    refine r_istore_n 4 C dX1_takeOperandOrOperator_4 [(1, .int r3), (0, .ref h0)] (by decide) rfl ?_
    refine r_iload_n 5 0 C dX1_takeOperandOrOperator_5 rfl ?_
    refine r_bipush 6 21 C dX1_takeOperandOrOperator_6 (by decide) ?_
    refine r_icmp_gt_f 8 46 C dX1_takeOperandOrOperator_8 (by decide) (fun h_9 => by have h_8 : 21 < (Int32.toInt r3) := (fa_lt 21 r3).mp h_9; omega) ?_
    refine r_iload_n 11 0 C dX1_takeOperandOrOperator_11 rfl ?_
    refine r_bipush 12 12 C dX1_takeOperandOrOperator_12 (by decide) ?_
    refine r_icmp_ne_t 14 28 C dX1_takeOperandOrOperator_14 (by decide) (fun h_9 => by have h_8 : (Int32.toInt r3) = 12 := (fa_eq r3 12).mp h_9; omega) ?_
    refine r_iload_n 28 0 C dX1_takeOperandOrOperator_28 rfl ?_
    refine r_istore_n 29 C dX1_takeOperandOrOperator_29 [(2, .int r3), (1, .int r3), (0, .ref h0)] (by decide) rfl ?_
    refine r_aload_n 30 2 C dX1_takeOperandOrOperator_30 rfl ?_
    refine r_get 31 C dX1_takeOperandOrOperator_31 (k := 3) 5 rfl rfl hiX1 (by decide) rfl (mg 1 rfl) (Or.inl rfl) rfl ?_
    refine r_if_ne_t 34 45 C dX1_takeOperandOrOperator_34 (by decide) (fun h_9 => by have h_8 : (Int32.toInt z1) = 0 := (fa_eq z1 0).mp h_9; omega) ?_
    exact r_vret 45 Rt dX1_takeOperandOrOperator_45 (z1, z2, x3, x4, fn0, fn1, fn2, fn3) (show 0 ≤ (Int32.toInt z1) ∧ (Int32.toInt z1) ≤ 2 ∧ -8589934592 ≤ (Int64.toInt z2) ∧ (Int64.toInt z2) ≤ 8589934592 ∧ 0 ≤ (Int32.toInt x3) ∧ (Int32.toInt x3) ≤ 48 ∧ 0 ≤ (Int32.toInt x4) ∧ (Int32.toInt x4) ≤ 1 ∧ CND ((Int64.toInt y1) ≤ (Int32.toInt x5) ∧ 0 ≤ (Int64.toInt y0) ∧ (Int64.toInt y0) < (Int64.toInt y1)) (SEQ (Int32.toInt x0) (Int32.toInt z1) (DST (GB fn4 (Int32.toInt x5)) (Int64.toInt y1) (Int64.toInt y0) (Int32.toInt x3) (NZ (Int32.toInt x3) 0 (fn0 0)) (NZ (Int32.toInt x3) 1 (fn0 1)) (Int32.toInt x4) (SC fn1 fn2 fn3)) (fun s => s = ((Int64.toInt z2), (Int32.toInt x3), (NZ (Int32.toInt x3) 0 (fn0 0)), (NZ (Int32.toInt x3) 1 (fn0 1)), (Int32.toInt x4), (SC fn1 fn2 fn3)))) ∧ (¬ ((Int32.toInt z1) = 0) ∨ ((Int32.toInt x0) = 0 ∧ (Int64.toInt y0) < (Int64.toInt z2) ∧ (Int64.toInt z2) ≤ (Int32.toInt x5) ∧ 0 ≤ (Int64.toInt y0))) from ⟨(show _ ∧ _ from ⟨p8, p9⟩).1, (show _ ∧ _ from ⟨p8, p9⟩).2, (show _ ∧ _ from ⟨p10, p11⟩).1, (show _ ∧ _ from ⟨p10, p11⟩).2, i_x3.1, i_x3.2, i_x4.1, i_x4.2, (by exact fun h_7 => dst_bad h_7 p12 (by omega)), (by ((repeat' apply And.intro) <;> first | trivial | rfl | assumption | omega | decide | exact Or.inl rfl | exact Or.inr (Or.inl rfl) | exact Or.inr (Or.inr rfl)))⟩) [5, 0, 6, 1, 2, 3, 4, 7] (by decide) rfl (Nat.le_of_ble_eq_true rfl) (Nat.le_of_ble_eq_true rfl)
  obtain ⟨k17, k18, k19, k20, k21, k22, k23⟩ := p13
  refine r_istore_n 4 C dX1_takeOperandOrOperator_4 [(1, .int r3), (0, .ref h0)] (by decide) rfl ?_
  refine r_iload_n 5 0 C dX1_takeOperandOrOperator_5 rfl ?_
  refine r_bipush 6 21 C dX1_takeOperandOrOperator_6 (by decide) ?_
  refine r_icmp_gt 8 46 C dX1_takeOperandOrOperator_8 (by decide) (fun c24 => ?_) (fun c24 => ?_)
  · skip
    have k25 : 21 < (Int32.toInt r3) := (fa_lt 21 r3).mp c24
    refine r_aload_n 46 1 C dX1_takeOperandOrOperator_46 rfl ?_
    refine r_aload_n 47 1 C dX1_takeOperandOrOperator_47 rfl ?_
    refine r_get 48 C dX1_takeOperandOrOperator_48 (k := 0) 5 rfl rfl hiX1 (by decide) rfl (mg 2 rfl) (Or.inl rfl) rfl ?_
    refine r_callVi 51 C dX1_takeOperandOrOperator_51 [.ref h0] [(h1, .inr (2, [.ref h3, .int x3, .int x4, .ref h4, .ref h5, .ref h6]))] [(h3, .inl (gI g, 48, .inl fn0)), (h4, .inl (gI g, 6, .inl fn1)), (h5, .inl (gI g, 6, .inl fn2)), (h6, .inl (gI g, 6, .inl fn3)), (h0, .inr (1, [.ref h1, .ref h8, .ref h2, .int z1, .long z2, .long y1, .int x1, .int x2, .long y2, .long y3])), (h2, .inr (4, [.ref h7, .int x5])), (h7, .inl (gB g, 1500, .inl fn4))] (fun sz => c63_X2_isFull l g h1 h3 x3 x4 h4 h5 h6 i_x3 i_x4 sz) gX1_takeOperandOrOperator_X2_isFull rfl ⟨rfl, rfl⟩ 0 (by decide) ⟨Nat.le_of_ble_eq_true rfl, Nat.le_of_ble_eq_true rfl⟩ 0 rfl rfl [0] [1, 2, 3, 4, 5, 6, 7] rfl rfl (by decide) (by decide) (by decide) rfl rfl (Nat.le_of_ble_eq_true rfl) ⟨Nat.le_of_ble_eq_true rfl, Nat.le_of_ble_eq_true rfl⟩ (fun r26 _ w27 => ?_)
    refine r_ws [(h3, .inl (gI g, 48, .inl fn0)), (h4, .inl (gI g, 6, .inl fn1)), (h5, .inl (gI g, 6, .inl fn2)), (h6, .inl (gI g, 6, .inl fn3)), (h0, .inr (1, [.ref h1, .ref h8, .ref h2, .int z1, .long z2, .long y1, .int x1, .int x2, .long y2, .long y3])), (h2, .inr (4, [.ref h7, .int x5])), (h7, .inl (gB g, 1500, .inl fn4)), (h1, .inr (2, [.ref h3, .int x3, .int x4, .ref h4, .ref h5, .ref h6]))] rfl ?_
    have w28 : (((Int32.toInt x3) < 48 ∧ r26 = 0) ∨ (¬ ((Int32.toInt x3) < 48) ∧ r26 = 1)) := w27
    rcases w28 with ⟨k29, k30⟩ | w28
    · skip
      have k30 := k30.symm
      subst k30
      refine r_if_ne_f 54 68 C dX1_takeOperandOrOperator_54 (by decide) (by decide) ?_
      refine r_iload_n 57 0 C dX1_takeOperandOrOperator_57 rfl ?_
      refine r_callSi 58 C dX1_takeOperandOrOperator_58 [.ref h0] [] [(h3, .inl (gI g, 48, .inl fn0)), (h4, .inl (gI g, 6, .inl fn1)), (h5, .inl (gI g, 6, .inl fn2)), (h6, .inl (gI g, 6, .inl fn3)), (h0, .inr (1, [.ref h1, .ref h8, .ref h2, .int z1, .long z2, .long y1, .int x1, .int x2, .long y2, .long y3])), (h2, .inr (4, [.ref h7, .int x5])), (h7, .inl (gB g, 1500, .inl fn4)), (h1, .inr (2, [.ref h3, .int x3, .int x4, .ref h4, .ref h5, .ref h6]))] (fun sz => c64_X1_isOperand l g r3  sz) gX1_takeOperandOrOperator_X1_isOperand rfl ⟨rfl, rfl⟩ 1 (by decide) ⟨Nat.le_of_ble_eq_true rfl, Nat.le_of_ble_eq_true rfl⟩ [] [0, 1, 2, 3, 4, 5, 6, 7] rfl rfl (by decide) (by decide) (by decide) rfl rfl (Nat.le_of_ble_eq_true rfl) ⟨Nat.le_of_ble_eq_true rfl, Nat.le_of_ble_eq_true rfl⟩ (fun r31 _ w32 => ?_)
      refine r_ws [(h3, .inl (gI g, 48, .inl fn0)), (h4, .inl (gI g, 6, .inl fn1)), (h5, .inl (gI g, 6, .inl fn2)), (h6, .inl (gI g, 6, .inl fn3)), (h0, .inr (1, [.ref h1, .ref h8, .ref h2, .int z1, .long z2, .long y1, .int x1, .int x2, .long y2, .long y3])), (h2, .inr (4, [.ref h7, .int x5])), (h7, .inl (gB g, 1500, .inl fn4)), (h1, .inr (2, [.ref h3, .int x3, .int x4, .ref h4, .ref h5, .ref h6]))] rfl ?_
      have p33 : 0 ≤ (Int32.toInt r31) := w32.1
      have p34 : (Int32.toInt r31) ≤ 1 := w32.2.1
      have p35 : ISOP (Int32.toInt r3) (Int32.toInt r31) := w32.2.2
      refine r_if_eq 61 68 C dX1_takeOperandOrOperator_61 (by decide) (fun c36 => ?_) (fun c36 => ?_)
      · skip
        have k37 : (Int32.toInt r31) = 0 := (fa_eq r31 0).mp c36
        refine r_iconst 68 0 C dX1_takeOperandOrOperator_68 (by decide) ?_
        refine r_callVv 69 C dX1_takeOperandOrOperator_69 [] [(h0, .inr (1, [.ref h1, .ref h8, .ref h2, .int z1, .long z2, .long y1, .int x1, .int x2, .long y2, .long y3]))] [(h3, .inl (gI g, 48, .inl fn0)), (h4, .inl (gI g, 6, .inl fn1)), (h5, .inl (gI g, 6, .inl fn2)), (h6, .inl (gI g, 6, .inl fn3)), (h2, .inr (4, [.ref h7, .int x5])), (h7, .inl (gB g, 1500, .inl fn4)), (h1, .inr (2, [.ref h3, .int x3, .int x4, .ref h4, .ref h5, .ref h6]))] (fun sz => c53_X1_want l g h0 0 h1 h8 h2 z1 z2 y1 x1 x2 y2 y3 (by decide) ⟨p8, p9⟩ ⟨p10, p11⟩ i_x1 i_x2 i_y2 i_y3 sz) gX1_takeOperandOrOperator_X1_want rfl ⟨rfl, rfl⟩ 1 (by decide) ⟨Nat.le_of_ble_eq_true rfl, Nat.le_of_ble_eq_true rfl⟩ 4 rfl rfl [4] [0, 1, 2, 3, 5, 6, 7] rfl rfl (by decide) (by decide) (by decide) rfl rfl (Nat.le_of_ble_eq_true rfl) ⟨Nat.le_of_ble_eq_true rfl, Nat.le_of_ble_eq_true rfl⟩ (fun  z38 w39 => ?_)
        refine r_ws [(h3, .inl (gI g, 48, .inl fn0)), (h4, .inl (gI g, 6, .inl fn1)), (h5, .inl (gI g, 6, .inl fn2)), (h6, .inl (gI g, 6, .inl fn3)), (h2, .inr (4, [.ref h7, .int x5])), (h7, .inl (gB g, 1500, .inl fn4)), (h1, .inr (2, [.ref h3, .int x3, .int x4, .ref h4, .ref h5, .ref h6])), (h0, .inr (1, [.ref h1, .ref h8, .ref h2, .int z38, .long z2, .long y1, .int x1, .int x2, .long y2, .long y3]))] rfl ?_
        have p40 : 0 ≤ (Int32.toInt z38) := w39.1
        have p41 : (Int32.toInt z38) ≤ 2 := w39.2.1
        have p42 : WNT (0 : Int) (Int32.toInt z1) (Int32.toInt z38) := w39.2.2.1
        have p43 : (((0 : Int) = 1 ∧ (Int32.toInt z38) = (Int32.toInt z1)) ∨ ((0 : Int) = 0 ∧ 1 ≤ (Int32.toInt z38))) := w39.2.2.2
        rcases p43 with ⟨k44, k45⟩ | p43
        · skip
          exact absurd trivial (by omega)
        obtain ⟨k46, k47⟩ := p43
        refine r_aload_n 72 1 C dX1_takeOperandOrOperator_72 rfl ?_
        refine r_get 73 C dX1_takeOperandOrOperator_73 (k := 3) 7 rfl rfl hiX1 (by decide) rfl (mg 1 rfl) (Or.inl rfl) rfl ?_
        refine r_if_ne_t 76 99 C dX1_takeOperandOrOperator_76 (by decide) (fun h_9 => by have h_8 : (Int32.toInt z38) = 0 := (fa_eq z38 0).mp h_9; omega) ?_
        refine r_aload_n 99 1 C dX1_takeOperandOrOperator_99 rfl ?_
        refine r_get 100 C dX1_takeOperandOrOperator_100 (k := 3) 7 rfl rfl hiX1 (by decide) rfl (mg 1 rfl) (Or.inl rfl) rfl ?_
        refine r_if_ne_t 103 126 C dX1_takeOperandOrOperator_103 (by decide) (fun h_9 => by have h_8 : (Int32.toInt z38) = 0 := (fa_eq z38 0).mp h_9; omega) ?_
        exact r_vret 126 Rt dX1_takeOperandOrOperator_126 (z38, z2, x3, x4, fn0, fn1, fn2, fn3) (show 0 ≤ (Int32.toInt z38) ∧ (Int32.toInt z38) ≤ 2 ∧ -8589934592 ≤ (Int64.toInt z2) ∧ (Int64.toInt z2) ≤ 8589934592 ∧ 0 ≤ (Int32.toInt x3) ∧ (Int32.toInt x3) ≤ 48 ∧ 0 ≤ (Int32.toInt x4) ∧ (Int32.toInt x4) ≤ 1 ∧ CND ((Int64.toInt y1) ≤ (Int32.toInt x5) ∧ 0 ≤ (Int64.toInt y0) ∧ (Int64.toInt y0) < (Int64.toInt y1)) (SEQ (Int32.toInt x0) (Int32.toInt z38) (DST (GB fn4 (Int32.toInt x5)) (Int64.toInt y1) (Int64.toInt y0) (Int32.toInt x3) (NZ (Int32.toInt x3) 0 (fn0 0)) (NZ (Int32.toInt x3) 1 (fn0 1)) (Int32.toInt x4) (SC fn1 fn2 fn3)) (fun s => s = ((Int64.toInt z2), (Int32.toInt x3), (NZ (Int32.toInt x3) 0 (fn0 0)), (NZ (Int32.toInt x3) 1 (fn0 1)), (Int32.toInt x4), (SC fn1 fn2 fn3)))) ∧ (¬ ((Int32.toInt z38) = 0) ∨ ((Int32.toInt x0) = 0 ∧ (Int64.toInt y0) < (Int64.toInt z2) ∧ (Int64.toInt z2) ≤ (Int32.toInt x5) ∧ 0 ≤ (Int64.toInt y0))) from ⟨(show _ ∧ _ from ⟨p40, p41⟩).1, (show _ ∧ _ from ⟨p40, p41⟩).2, (show _ ∧ _ from ⟨p10, p11⟩).1, (show _ ∧ _ from ⟨p10, p11⟩).2, i_x3.1, i_x3.2, i_x4.1, i_x4.2, (by exact fun h_7 => dst_no h_7 p12 (by omega) (by omega) (by first | exact Or.inr (isop_0 p35 (by omega)) | exact Or.inl (by omega)) (by omega)), (by ((repeat' apply And.intro) <;> first | trivial | rfl | assumption | omega | decide | exact Or.inl rfl | exact Or.inr (Or.inl rfl) | exact Or.inr (Or.inr rfl)))⟩) [7, 6, 4, 0, 1, 2, 3, 5] (by decide) rfl (Nat.le_of_ble_eq_true rfl) (Nat.le_of_ble_eq_true rfl)
      · skip
        have k48 : ¬ ((Int32.toInt r31) = 0) := fun h_9 => c36 ((fa_eq r31 0).mpr h_9)
        refine r_iconst 64 1 C dX1_takeOperandOrOperator_64 (by decide) ?_
        refine r_goto 65 69 C dX1_takeOperandOrOperator_65 (by decide) ?_
        refine r_callVv 69 C dX1_takeOperandOrOperator_69 [] [(h0, .inr (1, [.ref h1, .ref h8, .ref h2, .int z1, .long z2, .long y1, .int x1, .int x2, .long y2, .long y3]))] [(h3, .inl (gI g, 48, .inl fn0)), (h4, .inl (gI g, 6, .inl fn1)), (h5, .inl (gI g, 6, .inl fn2)), (h6, .inl (gI g, 6, .inl fn3)), (h2, .inr (4, [.ref h7, .int x5])), (h7, .inl (gB g, 1500, .inl fn4)), (h1, .inr (2, [.ref h3, .int x3, .int x4, .ref h4, .ref h5, .ref h6]))] (fun sz => c53_X1_want l g h0 1 h1 h8 h2 z1 z2 y1 x1 x2 y2 y3 (by decide) ⟨p8, p9⟩ ⟨p10, p11⟩ i_x1 i_x2 i_y2 i_y3 sz) gX1_takeOperandOrOperator_X1_want rfl ⟨rfl, rfl⟩ 1 (by decide) ⟨Nat.le_of_ble_eq_true rfl, Nat.le_of_ble_eq_true rfl⟩ 4 rfl rfl [4] [0, 1, 2, 3, 5, 6, 7] rfl rfl (by decide) (by decide) (by decide) rfl rfl (Nat.le_of_ble_eq_true rfl) ⟨Nat.le_of_ble_eq_true rfl, Nat.le_of_ble_eq_true rfl⟩ (fun  z49 w50 => ?_)
        refine r_ws [(h3, .inl (gI g, 48, .inl fn0)), (h4, .inl (gI g, 6, .inl fn1)), (h5, .inl (gI g, 6, .inl fn2)), (h6, .inl (gI g, 6, .inl fn3)), (h2, .inr (4, [.ref h7, .int x5])), (h7, .inl (gB g, 1500, .inl fn4)), (h1, .inr (2, [.ref h3, .int x3, .int x4, .ref h4, .ref h5, .ref h6])), (h0, .inr (1, [.ref h1, .ref h8, .ref h2, .int z49, .long z2, .long y1, .int x1, .int x2, .long y2, .long y3]))] rfl ?_
        have p51 : 0 ≤ (Int32.toInt z49) := w50.1
        have p52 : (Int32.toInt z49) ≤ 2 := w50.2.1
        have p53 : WNT (1 : Int) (Int32.toInt z1) (Int32.toInt z49) := w50.2.2.1
        have p54 : (((1 : Int) = 1 ∧ (Int32.toInt z49) = (Int32.toInt z1)) ∨ ((1 : Int) = 0 ∧ 1 ≤ (Int32.toInt z49))) := w50.2.2.2
        rcases p54 with ⟨k55, k56⟩ | p54
        · skip
          refine r_aload_n 72 1 C dX1_takeOperandOrOperator_72 rfl ?_
          refine r_get 73 C dX1_takeOperandOrOperator_73 (k := 3) 7 rfl rfl hiX1 (by decide) rfl (mg 1 rfl) (Or.inl rfl) rfl ?_
          refine r_if_ne_f 76 99 C dX1_takeOperandOrOperator_76 (by decide) ((fa_eq z49 0).mpr (by show (Int32.toInt z49) = 0; omega)) ?_
          refine r_iload_n 79 0 C dX1_takeOperandOrOperator_79 rfl ?_
          refine r_bipush 80 30 C dX1_takeOperandOrOperator_80 (by decide) ?_
          refine r_icmp_ne 82 99 C dX1_takeOperandOrOperator_82 (by decide) (fun c57 => ?_) (fun c57 => ?_)
          · skip
            have k58 : ¬ ((Int32.toInt r3) = 30) := fun h_9 => c57 ((fa_eq r3 30).mpr h_9)
            refine r_aload_n 99 1 C dX1_takeOperandOrOperator_99 rfl ?_
            refine r_get 100 C dX1_takeOperandOrOperator_100 (k := 3) 7 rfl rfl hiX1 (by decide) rfl (mg 1 rfl) (Or.inl rfl) rfl ?_
            refine r_if_ne_f 103 126 C dX1_takeOperandOrOperator_103 (by decide) ((fa_eq z49 0).mpr (by show (Int32.toInt z49) = 0; omega)) ?_
            refine r_aload_n 106 1 C dX1_takeOperandOrOperator_106 rfl ?_
            refine r_get 107 C dX1_takeOperandOrOperator_107 (k := 0) 7 rfl rfl hiX1 (by decide) rfl (mg 2 rfl) (Or.inl rfl) rfl ?_
            refine r_iload_n 110 0 C dX1_takeOperandOrOperator_110 rfl ?_
            refine r_aload_n 111 1 C dX1_takeOperandOrOperator_111 rfl ?_
            refine r_iload_n 112 0 C dX1_takeOperandOrOperator_112 rfl ?_
            refine r_callSNi 113 C dX1_takeOperandOrOperator_113 [.ref h0, .int r3, .ref h1] [] [(h3, .inl (gI g, 48, .inl fn0)), (h4, .inl (gI g, 6, .inl fn1)), (h5, .inl (gI g, 6, .inl fn2)), (h6, .inl (gI g, 6, .inl fn3)), (h2, .inr (4, [.ref h7, .int x5])), (h7, .inl (gB g, 1500, .inl fn4)), (h1, .inr (2, [.ref h3, .int x3, .int x4, .ref h4, .ref h5, .ref h6])), (h0, .inr (1, [.ref h1, .ref h8, .ref h2, .int z49, .long z2, .long y1, .int x1, .int x2, .long y2, .long y3]))] (fun sz => c65_X11_bytesBehind l g r3  sz) gX1_takeOperandOrOperator_X11_bytesBehind_n171 rfl ⟨rfl, rfl⟩ 1 (by decide) ⟨Nat.le_of_ble_eq_true rfl, Nat.le_of_ble_eq_true rfl⟩ (mg 25 rfl) (mg 65 rfl) (mg 64 rfl) [] [0, 1, 2, 3, 4, 5, 6, 7] rfl rfl (by decide) (by decide) (by decide) rfl rfl (Nat.le_of_ble_eq_true rfl) ⟨Nat.le_of_ble_eq_true rfl, Nat.le_of_ble_eq_true rfl⟩ (fun r59 _ w60 => ?_)
            refine r_ws [(h3, .inl (gI g, 48, .inl fn0)), (h4, .inl (gI g, 6, .inl fn1)), (h5, .inl (gI g, 6, .inl fn2)), (h6, .inl (gI g, 6, .inl fn3)), (h2, .inr (4, [.ref h7, .int x5])), (h7, .inl (gB g, 1500, .inl fn4)), (h1, .inr (2, [.ref h3, .int x3, .int x4, .ref h4, .ref h5, .ref h6])), (h0, .inr (1, [.ref h1, .ref h8, .ref h2, .int z49, .long z2, .long y1, .int x1, .int x2, .long y2, .long y3]))] rfl ?_
            have p61 : 0 ≤ (Int32.toInt r59) := w60.1
            have p62 : (Int32.toInt r59) ≤ 4 := w60.2.1
            have p63 : BB (Int32.toInt r3) (Int32.toInt r59) := w60.2.2
            refine r_callVl 116 C dX1_takeOperandOrOperator_116 [.int r3, .ref h1] [(h0, .inr (1, [.ref h1, .ref h8, .ref h2, .int z49, .long z2, .long y1, .int x1, .int x2, .long y2, .long y3])), (h2, .inr (4, [.ref h7, .int x5])), (h7, .inl (gB g, 1500, .inl fn4))] [(h3, .inl (gI g, 48, .inl fn0)), (h4, .inl (gI g, 6, .inl fn1)), (h5, .inl (gI g, 6, .inl fn2)), (h6, .inl (gI g, 6, .inl fn3)), (h1, .inr (2, [.ref h3, .int x3, .int x4, .ref h4, .ref h5, .ref h6]))] (fun sz => c56_X1_takeNumber l g h0 h2 h7 r59 h1 h8 z49 z2 y1 x1 x2 y2 y3 x5 fn4 ⟨p51, p52⟩ ⟨p10, p11⟩ i_x1 i_x2 i_y2 i_y3 i_x5 (by show (¬ ((Int32.toInt z49) = 0) ∨ (0 ≤ (Int32.toInt r59) ∧ (Int32.toInt r59) ≤ 4)); first | assumption | omega) sz) gX1_takeOperandOrOperator_X1_takeNumber rfl ⟨rfl, rfl⟩ 1 (by decide) ⟨Nat.le_of_ble_eq_true rfl, Nat.le_of_ble_eq_true rfl⟩ 7 rfl rfl [7, 4, 5] [0, 1, 2, 3, 6] rfl rfl (by decide) (by decide) (by decide) rfl rfl (Nat.le_of_ble_eq_true rfl) ⟨Nat.le_of_ble_eq_true rfl, Nat.le_of_ble_eq_true rfl⟩ (fun r66 u68 w67 => ?_)
            obtain ⟨z64, z65⟩ := u68
            refine r_ws [(h3, .inl (gI g, 48, .inl fn0)), (h4, .inl (gI g, 6, .inl fn1)), (h5, .inl (gI g, 6, .inl fn2)), (h6, .inl (gI g, 6, .inl fn3)), (h1, .inr (2, [.ref h3, .int x3, .int x4, .ref h4, .ref h5, .ref h6])), (h0, .inr (1, [.ref h1, .ref h8, .ref h2, .int z64, .long z65, .long y1, .int x1, .int x2, .long y2, .long y3])), (h2, .inr (4, [.ref h7, .int x5])), (h7, .inl (gB g, 1500, .inl fn4))] rfl ?_
            have p69 : -1 ≤ (Int64.toInt r66) := w67.1
            have p70 : (Int64.toInt r66) ≤ 1099511627776 := w67.2.1
            have p71 : 0 ≤ (Int32.toInt z64) := w67.2.2.1
            have p72 : (Int32.toInt z64) ≤ 2 := w67.2.2.2.1
            have p73 : -8589934592 ≤ (Int64.toInt z65) := w67.2.2.2.2.1
            have p74 : (Int64.toInt z65) ≤ 8589934592 := w67.2.2.2.2.2.1
            have p75 : SEQ (Int32.toInt z49) (Int32.toInt z64) (NUMO (GB fn4 (Int32.toInt x5)) (Int32.toInt x5) (Int64.toInt y1) (Int64.toInt z2) (Int.toNat (Int32.toInt r59))) (fun v => v = (Int64.toInt r66) ∧ ((Int32.toInt r59) < 0 ∨ (Int64.toInt z65) = (Int64.toInt z2) + (Int32.toInt r59))) := w67.2.2.2.2.2.2.1
            have p76 : (0 ≤ (Int64.toInt r66) ∧ (Int64.toInt r66) ≤ 4294967295) := w67.2.2.2.2.2.2.2.1
            have p77 : NBND (Int32.toInt r59) (Int64.toInt r66) := w67.2.2.2.2.2.2.2.2.1
            have p78 : (¬ ((Int32.toInt z64) = 0) ∨ ((Int32.toInt z49) = 0 ∧ ((Int32.toInt r59) ≤ 0 ∨ (0 ≤ (Int64.toInt z2) ∧ (Int64.toInt z65) ≤ (Int32.toInt x5) ∧ (Int64.toInt z65) = (Int64.toInt z2) + (Int32.toInt r59))))) := w67.2.2.2.2.2.2.2.2.2.1
            have p79 : ((Int64.toInt z2) ≤ (Int64.toInt z65) ∧ ((Int64.toInt z65) = (Int64.toInt z2) ∨ (Int64.toInt z65) ≤ (Int32.toInt x5))) := w67.2.2.2.2.2.2.2.2.2.2
            obtain ⟨z80, ez80⟩ : ∃ z_9, Int64.toInt32 r66 = z_9 := ⟨_, rfl⟩
            have gz80 := fb_rng z80
            refine r_l2i 119 z80 C dX1_takeOperandOrOperator_119 ez80 ?_
            have hq81 : ((Int32.toInt r3) = 29 ∨ (0 ≤ (Int32.toInt z80) ∧ (Int32.toInt z80) ≤ 65535)) := who_pre p63 p77 ez80 (by omega) (isop_1 p35 (by omega))
            refine r_callSNi 120 C dX1_takeOperandOrOperator_120 [.ref h1] [] [(h3, .inl (gI g, 48, .inl fn0)), (h4, .inl (gI g, 6, .inl fn1)), (h5, .inl (gI g, 6, .inl fn2)), (h6, .inl (gI g, 6, .inl fn3)), (h1, .inr (2, [.ref h3, .int x3, .int x4, .ref h4, .ref h5, .ref h6])), (h0, .inr (1, [.ref h1, .ref h8, .ref h2, .int z64, .long z65, .long y1, .int x1, .int x2, .long y2, .long y3])), (h2, .inr (4, [.ref h7, .int x5])), (h7, .inl (gB g, 1500, .inl fn4))] (fun sz => c66_X11_wholeNumber l g r3 z80  sz) gX1_takeOperandOrOperator_X11_wholeNumber_n174 rfl ⟨rfl, rfl⟩ 2 (by decide) ⟨Nat.le_of_ble_eq_true rfl, Nat.le_of_ble_eq_true rfl⟩ (mg 26 rfl) (mg 65 rfl) (mg 72 rfl) [] [0, 1, 2, 3, 4, 5, 6, 7] rfl rfl (by decide) (by decide) (by decide) rfl rfl (Nat.le_of_ble_eq_true rfl) ⟨Nat.le_of_ble_eq_true rfl, Nat.le_of_ble_eq_true rfl⟩ (fun r82 _ w83 => ?_)
            refine r_ws [(h3, .inl (gI g, 48, .inl fn0)), (h4, .inl (gI g, 6, .inl fn1)), (h5, .inl (gI g, 6, .inl fn2)), (h6, .inl (gI g, 6, .inl fn3)), (h1, .inr (2, [.ref h3, .int x3, .int x4, .ref h4, .ref h5, .ref h6])), (h0, .inr (1, [.ref h1, .ref h8, .ref h2, .int z64, .long z65, .long y1, .int x1, .int x2, .long y2, .long y3])), (h2, .inr (4, [.ref h7, .int x5])), (h7, .inl (gB g, 1500, .inl fn4))] rfl ?_
            have p84 : CND (((Int32.toInt r3) = 29 ∨ (0 ≤ (Int32.toInt z80) ∧ (Int32.toInt z80) ≤ 65535)) ∧ -1 ≤ (Int32.toInt r3) ∧ (Int32.toInt r3) ≤ 255) (WHO (Int32.toInt r3) (Int32.toInt z80) (Int32.toInt r82)) := w83
            have gr82 := fb_rng r82
            refine r_callVv 123 C dX1_takeOperandOrOperator_123 [] [(h1, .inr (2, [.ref h3, .int x3, .int x4, .ref h4, .ref h5, .ref h6])), (h3, .inl (gI g, 48, .inl fn0))] [(h4, .inl (gI g, 6, .inl fn1)), (h5, .inl (gI g, 6, .inl fn2)), (h6, .inl (gI g, 6, .inl fn3)), (h0, .inr (1, [.ref h1, .ref h8, .ref h2, .int z64, .long z65, .long y1, .int x1, .int x2, .long y2, .long y3])), (h2, .inr (4, [.ref h7, .int x5])), (h7, .inl (gB g, 1500, .inl fn4))] (fun sz => c67_X2_add l g h1 h3 r82 x3 x4 h4 h5 h6 fn0 i_x3 i_x4 sz) gX1_takeOperandOrOperator_X2_add rfl ⟨rfl, rfl⟩ 1 (by decide) ⟨Nat.le_of_ble_eq_true rfl, Nat.le_of_ble_eq_true rfl⟩ 4 rfl rfl [4, 0] [1, 2, 3, 5, 6, 7] rfl rfl (by decide) (by decide) (by decide) rfl rfl (Nat.le_of_ble_eq_true rfl) ⟨Nat.le_of_ble_eq_true rfl, Nat.le_of_ble_eq_true rfl⟩ (fun  u88 w87 => ?_)
            obtain ⟨z85, f86⟩ := u88
            refine r_ws [(h4, .inl (gI g, 6, .inl fn1)), (h5, .inl (gI g, 6, .inl fn2)), (h6, .inl (gI g, 6, .inl fn3)), (h0, .inr (1, [.ref h1, .ref h8, .ref h2, .int z64, .long z65, .long y1, .int x1, .int x2, .long y2, .long y3])), (h2, .inr (4, [.ref h7, .int x5])), (h7, .inl (gB g, 1500, .inl fn4)), (h1, .inr (2, [.ref h3, .int z85, .int x4, .ref h4, .ref h5, .ref h6])), (h3, .inl (gI g, 48, .inl f86))] rfl ?_
            have p89 : 0 ≤ (Int32.toInt z85) := w87.1
            have p90 : (Int32.toInt z85) ≤ 48 := w87.2.1
            have p91 : CND ((Int32.toInt x3) < 48) ((NZ (Int32.toInt z85) 0 (f86 0)) = (if (Int32.toInt x3) = 0 then (Int32.toInt r82) else (NZ (Int32.toInt x3) 0 (fn0 0))) ∧ (NZ (Int32.toInt z85) 1 (f86 1)) = (if (Int32.toInt x3) = 1 then (Int32.toInt r82) else (NZ (Int32.toInt x3) 1 (fn0 1)))) := w87.2.2.1
            have p92 : (((Int32.toInt x3) < 48 ∧ (Int32.toInt z85) = (Int32.toInt x3) + 1) ∨ (48 ≤ (Int32.toInt x3) ∧ (Int32.toInt z85) = (Int32.toInt x3))) := w87.2.2.2
            exact r_vret 126 Rt dX1_takeOperandOrOperator_126 (z64, z65, z85, x4, f86, fn1, fn2, fn3) (show 0 ≤ (Int32.toInt z64) ∧ (Int32.toInt z64) ≤ 2 ∧ -8589934592 ≤ (Int64.toInt z65) ∧ (Int64.toInt z65) ≤ 8589934592 ∧ 0 ≤ (Int32.toInt z85) ∧ (Int32.toInt z85) ≤ 48 ∧ 0 ≤ (Int32.toInt x4) ∧ (Int32.toInt x4) ≤ 1 ∧ CND ((Int64.toInt y1) ≤ (Int32.toInt x5) ∧ 0 ≤ (Int64.toInt y0) ∧ (Int64.toInt y0) < (Int64.toInt y1)) (SEQ (Int32.toInt x0) (Int32.toInt z64) (DST (GB fn4 (Int32.toInt x5)) (Int64.toInt y1) (Int64.toInt y0) (Int32.toInt x3) (NZ (Int32.toInt x3) 0 (fn0 0)) (NZ (Int32.toInt x3) 1 (fn0 1)) (Int32.toInt x4) (SC fn1 fn2 fn3)) (fun s => s = ((Int64.toInt z65), (Int32.toInt z85), (NZ (Int32.toInt z85) 0 (f86 0)), (NZ (Int32.toInt z85) 1 (f86 1)), (Int32.toInt x4), (SC fn1 fn2 fn3)))) ∧ (¬ ((Int32.toInt z64) = 0) ∨ ((Int32.toInt x0) = 0 ∧ (Int64.toInt y0) < (Int64.toInt z65) ∧ (Int64.toInt z65) ≤ (Int32.toInt x5) ∧ 0 ≤ (Int64.toInt y0))) from ⟨(show _ ∧ _ from ⟨p71, p72⟩).1, (show _ ∧ _ from ⟨p71, p72⟩).2, (show _ ∧ _ from ⟨p73, p74⟩).1, (show _ ∧ _ from ⟨p73, p74⟩).2, (show _ ∧ _ from ⟨p89, p90⟩).1, (show _ ∧ _ from ⟨p89, p90⟩).2, i_x4.1, i_x4.2, (by exact fun h_7 => dst_num h_7 p12 (by omega) (isop_1 p35 (by omega)).1 ⟨by omega, (isop_1 p35 (by omega)).2⟩ (by omega) (bb_w p63 (isop_1 p35 (by omega)) (by omega)) (by omega) p75 (fun _ => s32_of (by assumption) (by omega) (by omega)) (fun _ => bb_B p63 p77 (by omega)) (fun _ => (p84 ⟨hq81, by omega, by omega⟩)) (fun _ => tup1 rfl (by omega) (p91 (by omega)) rfl rfl)), (by ((repeat' apply And.intro) <;> first | trivial | rfl | assumption | omega | decide | exact Or.inl rfl | exact Or.inr (Or.inl rfl) | exact Or.inr (Or.inr rfl)))⟩) [3, 6, 4, 7, 0, 1, 2, 5] (by decide) rfl (Nat.le_of_ble_eq_true rfl) (Nat.le_of_ble_eq_true rfl)
          · skip
            have k93 : (Int32.toInt r3) = 30 := (fa_eq r3 30).mp c57
            refine r_aload_n 85 1 C dX1_takeOperandOrOperator_85 rfl ?_
            refine r_callVv 86 C dX1_takeOperandOrOperator_86 [] [(h0, .inr (1, [.ref h1, .ref h8, .ref h2, .int z49, .long z2, .long y1, .int x1, .int x2, .long y2, .long y3])), (h2, .inr (4, [.ref h7, .int x5])), (h7, .inl (gB g, 1500, .inl fn4))] [(h3, .inl (gI g, 48, .inl fn0)), (h4, .inl (gI g, 6, .inl fn1)), (h5, .inl (gI g, 6, .inl fn2)), (h6, .inl (gI g, 6, .inl fn3)), (h1, .inr (2, [.ref h3, .int x3, .int x4, .ref h4, .ref h5, .ref h6]))] (fun sz => c68_X1_takeReal l g h0 h2 h7 h1 h8 z49 z2 y1 x1 x2 y2 y3 x5 fn4 ⟨p51, p52⟩ ⟨p10, p11⟩ i_x1 i_x2 i_y2 i_y3 i_x5 sz) gX1_takeOperandOrOperator_X1_takeReal rfl ⟨rfl, rfl⟩ 0 (by decide) ⟨Nat.le_of_ble_eq_true rfl, Nat.le_of_ble_eq_true rfl⟩ 7 rfl rfl [7, 4, 5] [0, 1, 2, 3, 6] rfl rfl (by decide) (by decide) (by decide) rfl rfl (Nat.le_of_ble_eq_true rfl) ⟨Nat.le_of_ble_eq_true rfl, Nat.le_of_ble_eq_true rfl⟩ (fun  u97 w96 => ?_)
            obtain ⟨z94, z95⟩ := u97
            refine r_ws [(h3, .inl (gI g, 48, .inl fn0)), (h4, .inl (gI g, 6, .inl fn1)), (h5, .inl (gI g, 6, .inl fn2)), (h6, .inl (gI g, 6, .inl fn3)), (h1, .inr (2, [.ref h3, .int x3, .int x4, .ref h4, .ref h5, .ref h6])), (h0, .inr (1, [.ref h1, .ref h8, .ref h2, .int z94, .long z95, .long y1, .int x1, .int x2, .long y2, .long y3])), (h2, .inr (4, [.ref h7, .int x5])), (h7, .inl (gB g, 1500, .inl fn4))] rfl ?_
            have p98 : 0 ≤ (Int32.toInt z94) := w96.1
            have p99 : (Int32.toInt z94) ≤ 2 := w96.2.1
            have p100 : -8589934592 ≤ (Int64.toInt z95) := w96.2.2.1
            have p101 : (Int64.toInt z95) ≤ 8589934592 := w96.2.2.2.1
            have p102 : CND ((Int64.toInt y1) ≤ (Int32.toInt x5) ∧ 0 ≤ (Int64.toInt z2)) (SEQ (Int32.toInt z49) (Int32.toInt z94) (REAL (GB fn4 (Int32.toInt x5)) (Int64.toInt y1) (Int64.toInt z2)) (fun v => v = (Int64.toInt z95))) := w96.2.2.2.2.1
            have p103 : (¬ ((Int32.toInt z94) = 0) ∨ ((Int32.toInt z49) = 0 ∧ (Int64.toInt z2) < (Int64.toInt z95) ∧ (Int64.toInt z95) ≤ (Int32.toInt x5) ∧ 0 ≤ (Int64.toInt z2))) := w96.2.2.2.2.2
            refine r_aload_n 89 1 C dX1_takeOperandOrOperator_89 rfl ?_
            refine r_get 90 C dX1_takeOperandOrOperator_90 (k := 0) 5 rfl rfl hiX1 (by decide) rfl (mg 2 rfl) (Or.inl rfl) rfl ?_
            refine r_callVv 93 C dX1_takeOperandOrOperator_93 [] [(h1, .inr (2, [.ref h3, .int x3, .int x4, .ref h4, .ref h5, .ref h6])), (h3, .inl (gI g, 48, .inl fn0))] [(h4, .inl (gI g, 6, .inl fn1)), (h5, .inl (gI g, 6, .inl fn2)), (h6, .inl (gI g, 6, .inl fn3)), (h0, .inr (1, [.ref h1, .ref h8, .ref h2, .int z94, .long z95, .long y1, .int x1, .int x2, .long y2, .long y3])), (h2, .inr (4, [.ref h7, .int x5])), (h7, .inl (gB g, 1500, .inl fn4))] (fun sz => c69_X2_addReal l g h1 h3 x3 x4 h4 h5 h6 fn0 i_x3 i_x4 sz) gX1_takeOperandOrOperator_X2_addReal rfl ⟨rfl, rfl⟩ 0 (by decide) ⟨Nat.le_of_ble_eq_true rfl, Nat.le_of_ble_eq_true rfl⟩ 4 rfl rfl [4, 0] [1, 2, 3, 5, 6, 7] rfl rfl (by decide) (by decide) (by decide) rfl rfl (Nat.le_of_ble_eq_true rfl) ⟨Nat.le_of_ble_eq_true rfl, Nat.le_of_ble_eq_true rfl⟩ (fun  u107 w106 => ?_)
            obtain ⟨z104, f105⟩ := u107
            refine r_ws [(h4, .inl (gI g, 6, .inl fn1)), (h5, .inl (gI g, 6, .inl fn2)), (h6, .inl (gI g, 6, .inl fn3)), (h0, .inr (1, [.ref h1, .ref h8, .ref h2, .int z94, .long z95, .long y1, .int x1, .int x2, .long y2, .long y3])), (h2, .inr (4, [.ref h7, .int x5])), (h7, .inl (gB g, 1500, .inl fn4)), (h1, .inr (2, [.ref h3, .int z104, .int 1, .ref h4, .ref h5, .ref h6])), (h3, .inl (gI g, 48, .inl f105))] rfl ?_
            have p108 : 0 ≤ (Int32.toInt z104) := w106.1
            have p109 : (Int32.toInt z104) ≤ 48 := w106.2.1
            have p110 : CND ((Int32.toInt x3) < 48) ((NZ (Int32.toInt z104) 0 (f105 0)) = (if (Int32.toInt x3) = 0 then (0 : Int) else (NZ (Int32.toInt x3) 0 (fn0 0))) ∧ (NZ (Int32.toInt z104) 1 (f105 1)) = (if (Int32.toInt x3) = 1 then (0 : Int) else (NZ (Int32.toInt x3) 1 (fn0 1)))) := w106.2.2.1
            have p111 : (((Int32.toInt x3) < 48 ∧ (Int32.toInt z104) = (Int32.toInt x3) + 1) ∨ (48 ≤ (Int32.toInt x3) ∧ (Int32.toInt z104) = (Int32.toInt x3))) := w106.2.2.2
            refine r_goto 96 126 C dX1_takeOperandOrOperator_96 (by decide) ?_
            exact r_vret 126 Rt dX1_takeOperandOrOperator_126 (z94, z95, z104, 1, f105, fn1, fn2, fn3) (show 0 ≤ (Int32.toInt z94) ∧ (Int32.toInt z94) ≤ 2 ∧ -8589934592 ≤ (Int64.toInt z95) ∧ (Int64.toInt z95) ≤ 8589934592 ∧ 0 ≤ (Int32.toInt z104) ∧ (Int32.toInt z104) ≤ 48 ∧ 0 ≤ (Int32.toInt 1) ∧ (Int32.toInt 1) ≤ 1 ∧ CND ((Int64.toInt y1) ≤ (Int32.toInt x5) ∧ 0 ≤ (Int64.toInt y0) ∧ (Int64.toInt y0) < (Int64.toInt y1)) (SEQ (Int32.toInt x0) (Int32.toInt z94) (DST (GB fn4 (Int32.toInt x5)) (Int64.toInt y1) (Int64.toInt y0) (Int32.toInt x3) (NZ (Int32.toInt x3) 0 (fn0 0)) (NZ (Int32.toInt x3) 1 (fn0 1)) (Int32.toInt x4) (SC fn1 fn2 fn3)) (fun s => s = ((Int64.toInt z95), (Int32.toInt z104), (NZ (Int32.toInt z104) 0 (f105 0)), (NZ (Int32.toInt z104) 1 (f105 1)), 1, (SC fn1 fn2 fn3)))) ∧ (¬ ((Int32.toInt z94) = 0) ∨ ((Int32.toInt x0) = 0 ∧ (Int64.toInt y0) < (Int64.toInt z95) ∧ (Int64.toInt z95) ≤ (Int32.toInt x5) ∧ 0 ≤ (Int64.toInt y0))) from ⟨(show _ ∧ _ from ⟨p98, p99⟩).1, (show _ ∧ _ from ⟨p98, p99⟩).2, (show _ ∧ _ from ⟨p100, p101⟩).1, (show _ ∧ _ from ⟨p100, p101⟩).2, (show _ ∧ _ from ⟨p108, p109⟩).1, (show _ ∧ _ from ⟨p108, p109⟩).2, (by ((repeat' apply And.intro) <;> first | trivial | rfl | assumption | omega | decide | exact Or.inl rfl | exact Or.inr (Or.inl rfl) | exact Or.inr (Or.inr rfl))), (by ((repeat' apply And.intro) <;> first | trivial | rfl | assumption | omega | decide | exact Or.inl rfl | exact Or.inr (Or.inl rfl) | exact Or.inr (Or.inr rfl))), (by exact fun h_7 => dst_real h_7 p12 (by omega) (by omega) (by omega) (by omega) (p102 ⟨by omega, by omega⟩) (fun _ => tup1 rfl (by omega) (p110 (by omega)) (by omega) rfl)), (by ((repeat' apply And.intro) <;> first | trivial | rfl | assumption | omega | decide | exact Or.inl rfl | exact Or.inr (Or.inl rfl) | exact Or.inr (Or.inr rfl)))⟩) [3, 6, 4, 7, 0, 1, 2, 5] (by decide) rfl (Nat.le_of_ble_eq_true rfl) (Nat.le_of_ble_eq_true rfl)
        obtain ⟨k112, k113⟩ := p54
        exact absurd trivial (by omega)
    obtain ⟨k114, k115⟩ := w28
    have k115 := k115.symm
    subst k115
    refine r_if_ne_t 54 68 C dX1_takeOperandOrOperator_54 (by decide) (by decide) ?_
    refine r_iconst 68 0 C dX1_takeOperandOrOperator_68 (by decide) ?_
    refine r_callVv 69 C dX1_takeOperandOrOperator_69 [] [(h0, .inr (1, [.ref h1, .ref h8, .ref h2, .int z1, .long z2, .long y1, .int x1, .int x2, .long y2, .long y3]))] [(h3, .inl (gI g, 48, .inl fn0)), (h4, .inl (gI g, 6, .inl fn1)), (h5, .inl (gI g, 6, .inl fn2)), (h6, .inl (gI g, 6, .inl fn3)), (h2, .inr (4, [.ref h7, .int x5])), (h7, .inl (gB g, 1500, .inl fn4)), (h1, .inr (2, [.ref h3, .int x3, .int x4, .ref h4, .ref h5, .ref h6]))] (fun sz => c53_X1_want l g h0 0 h1 h8 h2 z1 z2 y1 x1 x2 y2 y3 (by decide) ⟨p8, p9⟩ ⟨p10, p11⟩ i_x1 i_x2 i_y2 i_y3 sz) gX1_takeOperandOrOperator_X1_want rfl ⟨rfl, rfl⟩ 1 (by decide) ⟨Nat.le_of_ble_eq_true rfl, Nat.le_of_ble_eq_true rfl⟩ 4 rfl rfl [4] [0, 1, 2, 3, 5, 6, 7] rfl rfl (by decide) (by decide) (by decide) rfl rfl (Nat.le_of_ble_eq_true rfl) ⟨Nat.le_of_ble_eq_true rfl, Nat.le_of_ble_eq_true rfl⟩ (fun  z116 w117 => ?_)
    refine r_ws [(h3, .inl (gI g, 48, .inl fn0)), (h4, .inl (gI g, 6, .inl fn1)), (h5, .inl (gI g, 6, .inl fn2)), (h6, .inl (gI g, 6, .inl fn3)), (h2, .inr (4, [.ref h7, .int x5])), (h7, .inl (gB g, 1500, .inl fn4)), (h1, .inr (2, [.ref h3, .int x3, .int x4, .ref h4, .ref h5, .ref h6])), (h0, .inr (1, [.ref h1, .ref h8, .ref h2, .int z116, .long z2, .long y1, .int x1, .int x2, .long y2, .long y3]))] rfl ?_
    have p118 : 0 ≤ (Int32.toInt z116) := w117.1
    have p119 : (Int32.toInt z116) ≤ 2 := w117.2.1
    have p120 : WNT (0 : Int) (Int32.toInt z1) (Int32.toInt z116) := w117.2.2.1
    have p121 : (((0 : Int) = 1 ∧ (Int32.toInt z116) = (Int32.toInt z1)) ∨ ((0 : Int) = 0 ∧ 1 ≤ (Int32.toInt z116))) := w117.2.2.2
    rcases p121 with ⟨k122, k123⟩ | p121
    · skip
      exact absurd trivial (by omega)
    obtain ⟨k124, k125⟩ := p121
    refine r_aload_n 72 1 C dX1_takeOperandOrOperator_72 rfl ?_
    refine r_get 73 C dX1_takeOperandOrOperator_73 (k := 3) 7 rfl rfl hiX1 (by decide) rfl (mg 1 rfl) (Or.inl rfl) rfl ?_
    refine r_if_ne_t 76 99 C dX1_takeOperandOrOperator_76 (by decide) (fun h_9 => by have h_8 : (Int32.toInt z116) = 0 := (fa_eq z116 0).mp h_9; omega) ?_
    refine r_aload_n 99 1 C dX1_takeOperandOrOperator_99 rfl ?_
    refine r_get 100 C dX1_takeOperandOrOperator_100 (k := 3) 7 rfl rfl hiX1 (by decide) rfl (mg 1 rfl) (Or.inl rfl) rfl ?_
    refine r_if_ne_t 103 126 C dX1_takeOperandOrOperator_103 (by decide) (fun h_9 => by have h_8 : (Int32.toInt z116) = 0 := (fa_eq z116 0).mp h_9; omega) ?_
    exact r_vret 126 Rt dX1_takeOperandOrOperator_126 (z116, z2, x3, x4, fn0, fn1, fn2, fn3) (show 0 ≤ (Int32.toInt z116) ∧ (Int32.toInt z116) ≤ 2 ∧ -8589934592 ≤ (Int64.toInt z2) ∧ (Int64.toInt z2) ≤ 8589934592 ∧ 0 ≤ (Int32.toInt x3) ∧ (Int32.toInt x3) ≤ 48 ∧ 0 ≤ (Int32.toInt x4) ∧ (Int32.toInt x4) ≤ 1 ∧ CND ((Int64.toInt y1) ≤ (Int32.toInt x5) ∧ 0 ≤ (Int64.toInt y0) ∧ (Int64.toInt y0) < (Int64.toInt y1)) (SEQ (Int32.toInt x0) (Int32.toInt z116) (DST (GB fn4 (Int32.toInt x5)) (Int64.toInt y1) (Int64.toInt y0) (Int32.toInt x3) (NZ (Int32.toInt x3) 0 (fn0 0)) (NZ (Int32.toInt x3) 1 (fn0 1)) (Int32.toInt x4) (SC fn1 fn2 fn3)) (fun s => s = ((Int64.toInt z2), (Int32.toInt x3), (NZ (Int32.toInt x3) 0 (fn0 0)), (NZ (Int32.toInt x3) 1 (fn0 1)), (Int32.toInt x4), (SC fn1 fn2 fn3)))) ∧ (¬ ((Int32.toInt z116) = 0) ∨ ((Int32.toInt x0) = 0 ∧ (Int64.toInt y0) < (Int64.toInt z2) ∧ (Int64.toInt z2) ≤ (Int32.toInt x5) ∧ 0 ≤ (Int64.toInt y0))) from ⟨(show _ ∧ _ from ⟨p118, p119⟩).1, (show _ ∧ _ from ⟨p118, p119⟩).2, (show _ ∧ _ from ⟨p10, p11⟩).1, (show _ ∧ _ from ⟨p10, p11⟩).2, i_x3.1, i_x3.2, i_x4.1, i_x4.2, (by exact fun h_7 => dst_no h_7 p12 (by omega) (by omega) (Or.inl (by omega)) (by omega)), (by ((repeat' apply And.intro) <;> first | trivial | rfl | assumption | omega | decide | exact Or.inl rfl | exact Or.inr (Or.inl rfl) | exact Or.inr (Or.inr rfl)))⟩) [7, 6, 4, 0, 1, 2, 3, 5] (by decide) rfl (Nat.le_of_ble_eq_true rfl) (Nat.le_of_ble_eq_true rfl)
  · skip
    have k126 : ¬ (21 < (Int32.toInt r3)) := fun h_9 => c24 ((fa_lt 21 r3).mpr h_9)
    refine r_iload_n 11 0 C dX1_takeOperandOrOperator_11 rfl ?_
    refine r_bipush 12 12 C dX1_takeOperandOrOperator_12 (by decide) ?_
    refine r_icmp_ne 14 28 C dX1_takeOperandOrOperator_14 (by decide) (fun c127 => ?_) (fun c127 => ?_)
    · skip
      have k128 : ¬ ((Int32.toInt r3) = 12) := fun h_9 => c127 ((fa_eq r3 12).mpr h_9)
      refine r_iload_n 28 0 C dX1_takeOperandOrOperator_28 rfl ?_
      refine r_istore_n 29 C dX1_takeOperandOrOperator_29 [(2, .int r3), (1, .int r3), (0, .ref h0)] (by decide) rfl ?_
      refine r_aload_n 30 2 C dX1_takeOperandOrOperator_30 rfl ?_
      refine r_get 31 C dX1_takeOperandOrOperator_31 (k := 3) 5 rfl rfl hiX1 (by decide) rfl (mg 1 rfl) (Or.inl rfl) rfl ?_
      refine r_if_ne_f 34 45 C dX1_takeOperandOrOperator_34 (by decide) ((fa_eq z1 0).mpr (by show (Int32.toInt z1) = 0; omega)) ?_
      refine r_aload_n 37 2 C dX1_takeOperandOrOperator_37 rfl ?_
      refine r_get 38 C dX1_takeOperandOrOperator_38 (k := 0) 5 rfl rfl hiX1 (by decide) rfl (mg 2 rfl) (Or.inl rfl) rfl ?_
      refine r_iload_n 41 0 C dX1_takeOperandOrOperator_41 rfl ?_
      refine r_callVv 42 C dX1_takeOperandOrOperator_42 [] [(h1, .inr (2, [.ref h3, .int x3, .int x4, .ref h4, .ref h5, .ref h6])), (h3, .inl (gI g, 48, .inl fn0)), (h4, .inl (gI g, 6, .inl fn1)), (h5, .inl (gI g, 6, .inl fn2)), (h6, .inl (gI g, 6, .inl fn3))] [(h0, .inr (1, [.ref h1, .ref h8, .ref h2, .int z1, .long z2, .long y1, .int x1, .int x2, .long y2, .long y3])), (h2, .inr (4, [.ref h7, .int x5])), (h7, .inl (gB g, 1500, .inl fn4))] (fun sz => c71_X2_tell l g h1 h3 h4 h5 h6 r3 x3 x4 fn0 fn1 fn2 fn3 i_x3 i_x4 sz) gX1_takeOperandOrOperator_X2_tell rfl ⟨rfl, rfl⟩ 1 (by decide) ⟨Nat.le_of_ble_eq_true rfl, Nat.le_of_ble_eq_true rfl⟩ 0 rfl rfl [0, 1, 2, 3, 4] [5, 6, 7] rfl rfl (by decide) (by decide) (by decide) rfl rfl (Nat.le_of_ble_eq_true rfl) ⟨Nat.le_of_ble_eq_true rfl, Nat.le_of_ble_eq_true rfl⟩ (fun  u133 w132 => ?_)
      obtain ⟨f129, f130, f131⟩ := u133
      refine r_ws [(h0, .inr (1, [.ref h1, .ref h8, .ref h2, .int z1, .long z2, .long y1, .int x1, .int x2, .long y2, .long y3])), (h2, .inr (4, [.ref h7, .int x5])), (h7, .inl (gB g, 1500, .inl fn4)), (h1, .inr (2, [.ref h3, .int 0, .int 0, .ref h4, .ref h5, .ref h6])), (h3, .inl (gI g, 48, .inl fn0)), (h4, .inl (gI g, 6, .inl f129)), (h5, .inl (gI g, 6, .inl f130)), (h6, .inl (gI g, 6, .inl f131))] rfl ?_
      have p134 : (SC f129 f130 f131) = TEL (SC fn1 fn2 fn3) (Int32.toInt r3) (Int32.toInt x3) (NZ (Int32.toInt x3) 0 (fn0 0)) (NZ (Int32.toInt x3) 1 (fn0 1)) (Int32.toInt x4) := w132
      exact r_vret 45 Rt dX1_takeOperandOrOperator_45 (z1, z2, 0, 0, fn0, f129, f130, f131) (show 0 ≤ (Int32.toInt z1) ∧ (Int32.toInt z1) ≤ 2 ∧ -8589934592 ≤ (Int64.toInt z2) ∧ (Int64.toInt z2) ≤ 8589934592 ∧ 0 ≤ (Int32.toInt 0) ∧ (Int32.toInt 0) ≤ 48 ∧ 0 ≤ (Int32.toInt 0) ∧ (Int32.toInt 0) ≤ 1 ∧ CND ((Int64.toInt y1) ≤ (Int32.toInt x5) ∧ 0 ≤ (Int64.toInt y0) ∧ (Int64.toInt y0) < (Int64.toInt y1)) (SEQ (Int32.toInt x0) (Int32.toInt z1) (DST (GB fn4 (Int32.toInt x5)) (Int64.toInt y1) (Int64.toInt y0) (Int32.toInt x3) (NZ (Int32.toInt x3) 0 (fn0 0)) (NZ (Int32.toInt x3) 1 (fn0 1)) (Int32.toInt x4) (SC fn1 fn2 fn3)) (fun s => s = ((Int64.toInt z2), 0, (NZ 0 0 (fn0 0)), (NZ 0 1 (fn0 1)), 0, (SC f129 f130 f131)))) ∧ (¬ ((Int32.toInt z1) = 0) ∨ ((Int32.toInt x0) = 0 ∧ (Int64.toInt y0) < (Int64.toInt z2) ∧ (Int64.toInt z2) ≤ (Int32.toInt x5) ∧ 0 ≤ (Int64.toInt y0))) from ⟨(show _ ∧ _ from ⟨p8, p9⟩).1, (show _ ∧ _ from ⟨p8, p9⟩).2, (show _ ∧ _ from ⟨p10, p11⟩).1, (show _ ∧ _ from ⟨p10, p11⟩).2, (by ((repeat' apply And.intro) <;> first | trivial | rfl | assumption | omega | decide | exact Or.inl rfl | exact Or.inr (Or.inl rfl) | exact Or.inr (Or.inr rfl))), (by ((repeat' apply And.intro) <;> first | trivial | rfl | assumption | omega | decide | exact Or.inl rfl | exact Or.inr (Or.inl rfl) | exact Or.inr (Or.inr rfl))), (by ((repeat' apply And.intro) <;> first | trivial | rfl | assumption | omega | decide | exact Or.inl rfl | exact Or.inr (Or.inl rfl) | exact Or.inr (Or.inr rfl))), (by ((repeat' apply And.intro) <;> first | trivial | rfl | assumption | omega | decide | exact Or.inl rfl | exact Or.inr (Or.inl rfl) | exact Or.inr (Or.inr rfl))), (by exact fun h_7 => dst_op h_7 p12 (by omega) (by omega) (by omega) (tup0 rfl (by omega) (by omega) p134 rfl)), (by ((repeat' apply And.intro) <;> first | trivial | rfl | assumption | omega | decide | exact Or.inl rfl | exact Or.inr (Or.inl rfl) | exact Or.inr (Or.inr rfl)))⟩) [0, 3, 1, 4, 5, 6, 7, 2] (by decide) rfl (Nat.le_of_ble_eq_true rfl) (Nat.le_of_ble_eq_true rfl)
    · skip
      have k135 : (Int32.toInt r3) = 12 := (fa_eq r3 12).mp c127
      refine r_sipush 17 256 C dX1_takeOperandOrOperator_17 (by decide) ?_
      refine r_aload_n 20 1 C dX1_takeOperandOrOperator_20 rfl ?_
      refine r_callVi 21 C dX1_takeOperandOrOperator_21 [.int 256] [(h0, .inr (1, [.ref h1, .ref h8, .ref h2, .int z1, .long z2, .long y1, .int x1, .int x2, .long y2, .long y3])), (h2, .inr (4, [.ref h7, .int x5])), (h7, .inl (gB g, 1500, .inl fn4))] [(h1, .inr (2, [.ref h3, .int x3, .int x4, .ref h4, .ref h5, .ref h6])), (h3, .inl (gI g, 48, .inl fn0)), (h4, .inl (gI g, 6, .inl fn1)), (h5, .inl (gI g, 6, .inl fn2)), (h6, .inl (gI g, 6, .inl fn3))] (fun sz => c52_X1_take l g h0 h2 h7 h1 h8 z1 z2 y1 x1 x2 y2 y3 x5 fn4 ⟨p8, p9⟩ ⟨p10, p11⟩ i_x1 i_x2 i_y2 i_y3 i_x5 sz) gX1_takeOperandOrOperator_X1_take rfl ⟨rfl, rfl⟩ 0 (by decide) ⟨Nat.le_of_ble_eq_true rfl, Nat.le_of_ble_eq_true rfl⟩ 5 rfl rfl [5, 6, 7] [0, 1, 2, 3, 4] rfl rfl (by decide) (by decide) (by decide) rfl rfl (Nat.le_of_ble_eq_true rfl) ⟨Nat.le_of_ble_eq_true rfl, Nat.le_of_ble_eq_true rfl⟩ (fun r138 u140 w139 => ?_)
      obtain ⟨z136, z137⟩ := u140
      refine r_ws [(h1, .inr (2, [.ref h3, .int x3, .int x4, .ref h4, .ref h5, .ref h6])), (h3, .inl (gI g, 48, .inl fn0)), (h4, .inl (gI g, 6, .inl fn1)), (h5, .inl (gI g, 6, .inl fn2)), (h6, .inl (gI g, 6, .inl fn3)), (h0, .inr (1, [.ref h1, .ref h8, .ref h2, .int z136, .long z137, .long y1, .int x1, .int x2, .long y2, .long y3])), (h2, .inr (4, [.ref h7, .int x5])), (h7, .inl (gB g, 1500, .inl fn4))] rfl ?_
      have p141 : -1 ≤ (Int32.toInt r138) := w139.1
      have p142 : (Int32.toInt r138) ≤ 255 := w139.2.1
      have p143 : 0 ≤ (Int32.toInt z136) := w139.2.2.1
      have p144 : (Int32.toInt z136) ≤ 2 := w139.2.2.2.1
      have p145 : -8589934592 ≤ (Int64.toInt z137) := w139.2.2.2.2.1
      have p146 : (Int64.toInt z137) ≤ 8589934592 := w139.2.2.2.2.2.1
      have p147 : SEQ (Int32.toInt z1) (Int32.toInt z136) (BYT (GB fn4 (Int32.toInt x5)) (Int32.toInt x5) (Int64.toInt y1) (Int64.toInt z2)) (fun v => v = (Int32.toInt r138) ∧ (Int64.toInt z137) = (Int64.toInt z2) + 1) := w139.2.2.2.2.2.2.1
      have p148 : (((Int32.toInt r138) = -1 ∧ 1 ≤ (Int32.toInt z136) ∧ (Int64.toInt z137) = (Int64.toInt z2)) ∨ ((Int32.toInt z1) = 0 ∧ (Int32.toInt z136) = 0 ∧ 0 ≤ (Int64.toInt z2) ∧ (Int64.toInt z2) < (Int32.toInt x5) ∧ (Int64.toInt z2) < (Int64.toInt y1) ∧ (Int64.toInt z137) = (Int64.toInt z2) + 1 ∧ 0 ≤ (Int32.toInt r138))) := w139.2.2.2.2.2.2.2
      rcases p148 with ⟨k149, k150, k151⟩ | p148
      · skip
        obtain ⟨z152, ez152⟩ : ∃ z_9, 256 + r138 = z_9 := ⟨_, rfl⟩
        have tz152 : (Int32.toInt z152) = 256 + (Int32.toInt r138) := by rw [← ez152]; exact fb_addIv (a := 256) (b := 256) (c := (-1)) (d := 255) ⟨by decide, by decide⟩ ⟨p141, p142⟩ (by decide) (by decide)
        refine r_iadd 24 z152 C dX1_takeOperandOrOperator_24 ez152 ?_
        refine r_goto 25 29 C dX1_takeOperandOrOperator_25 (by decide) ?_
        refine r_istore_n 29 C dX1_takeOperandOrOperator_29 [(2, .int z152), (1, .int r3), (0, .ref h0)] (by decide) rfl ?_
        refine r_aload_n 30 2 C dX1_takeOperandOrOperator_30 rfl ?_
        refine r_get 31 C dX1_takeOperandOrOperator_31 (k := 3) 5 rfl rfl hiX1 (by decide) rfl (mg 1 rfl) (Or.inl rfl) rfl ?_
        refine r_if_ne_t 34 45 C dX1_takeOperandOrOperator_34 (by decide) (fun h_9 => by have h_8 : (Int32.toInt z136) = 0 := (fa_eq z136 0).mp h_9; omega) ?_
        exact r_vret 45 Rt dX1_takeOperandOrOperator_45 (z136, z137, x3, x4, fn0, fn1, fn2, fn3) (show 0 ≤ (Int32.toInt z136) ∧ (Int32.toInt z136) ≤ 2 ∧ -8589934592 ≤ (Int64.toInt z137) ∧ (Int64.toInt z137) ≤ 8589934592 ∧ 0 ≤ (Int32.toInt x3) ∧ (Int32.toInt x3) ≤ 48 ∧ 0 ≤ (Int32.toInt x4) ∧ (Int32.toInt x4) ≤ 1 ∧ CND ((Int64.toInt y1) ≤ (Int32.toInt x5) ∧ 0 ≤ (Int64.toInt y0) ∧ (Int64.toInt y0) < (Int64.toInt y1)) (SEQ (Int32.toInt x0) (Int32.toInt z136) (DST (GB fn4 (Int32.toInt x5)) (Int64.toInt y1) (Int64.toInt y0) (Int32.toInt x3) (NZ (Int32.toInt x3) 0 (fn0 0)) (NZ (Int32.toInt x3) 1 (fn0 1)) (Int32.toInt x4) (SC fn1 fn2 fn3)) (fun s => s = ((Int64.toInt z137), (Int32.toInt x3), (NZ (Int32.toInt x3) 0 (fn0 0)), (NZ (Int32.toInt x3) 1 (fn0 1)), (Int32.toInt x4), (SC fn1 fn2 fn3)))) ∧ (¬ ((Int32.toInt z136) = 0) ∨ ((Int32.toInt x0) = 0 ∧ (Int64.toInt y0) < (Int64.toInt z137) ∧ (Int64.toInt z137) ≤ (Int32.toInt x5) ∧ 0 ≤ (Int64.toInt y0))) from ⟨(show _ ∧ _ from ⟨p143, p144⟩).1, (show _ ∧ _ from ⟨p143, p144⟩).2, (show _ ∧ _ from ⟨p145, p146⟩).1, (show _ ∧ _ from ⟨p145, p146⟩).2, i_x3.1, i_x3.2, i_x4.1, i_x4.2, (by exact fun h_7 => dst_12 h_7 p12 (by omega) (by omega) p147 (fun h_8 => absurd h_8 (by omega))), (by ((repeat' apply And.intro) <;> first | trivial | rfl | assumption | omega | decide | exact Or.inl rfl | exact Or.inr (Or.inl rfl) | exact Or.inr (Or.inr rfl)))⟩) [5, 0, 6, 1, 2, 3, 4, 7] (by decide) rfl (Nat.le_of_ble_eq_true rfl) (Nat.le_of_ble_eq_true rfl)
      obtain ⟨k153, k154, k155, k156, k157, k158, k159⟩ := p148
      obtain ⟨z160, ez160⟩ : ∃ z_9, 256 + r138 = z_9 := ⟨_, rfl⟩
      have tz160 : (Int32.toInt z160) = 256 + (Int32.toInt r138) := by rw [← ez160]; exact fb_addIv (a := 256) (b := 256) (c := (-1)) (d := 255) ⟨by decide, by decide⟩ ⟨p141, p142⟩ (by decide) (by decide)
      refine r_iadd 24 z160 C dX1_takeOperandOrOperator_24 ez160 ?_
      refine r_goto 25 29 C dX1_takeOperandOrOperator_25 (by decide) ?_
      refine r_istore_n 29 C dX1_takeOperandOrOperator_29 [(2, .int z160), (1, .int r3), (0, .ref h0)] (by decide) rfl ?_
      refine r_aload_n 30 2 C dX1_takeOperandOrOperator_30 rfl ?_
      refine r_get 31 C dX1_takeOperandOrOperator_31 (k := 3) 5 rfl rfl hiX1 (by decide) rfl (mg 1 rfl) (Or.inl rfl) rfl ?_
      refine r_if_ne_f 34 45 C dX1_takeOperandOrOperator_34 (by decide) ((fa_eq z136 0).mpr (by show (Int32.toInt z136) = 0; omega)) ?_
      refine r_aload_n 37 2 C dX1_takeOperandOrOperator_37 rfl ?_
      refine r_get 38 C dX1_takeOperandOrOperator_38 (k := 0) 5 rfl rfl hiX1 (by decide) rfl (mg 2 rfl) (Or.inl rfl) rfl ?_
      refine r_iload_n 41 0 C dX1_takeOperandOrOperator_41 rfl ?_
      refine r_callVv 42 C dX1_takeOperandOrOperator_42 [] [(h1, .inr (2, [.ref h3, .int x3, .int x4, .ref h4, .ref h5, .ref h6])), (h3, .inl (gI g, 48, .inl fn0)), (h4, .inl (gI g, 6, .inl fn1)), (h5, .inl (gI g, 6, .inl fn2)), (h6, .inl (gI g, 6, .inl fn3))] [(h0, .inr (1, [.ref h1, .ref h8, .ref h2, .int z136, .long z137, .long y1, .int x1, .int x2, .long y2, .long y3])), (h2, .inr (4, [.ref h7, .int x5])), (h7, .inl (gB g, 1500, .inl fn4))] (fun sz => c71_X2_tell l g h1 h3 h4 h5 h6 z160 x3 x4 fn0 fn1 fn2 fn3 i_x3 i_x4 sz) gX1_takeOperandOrOperator_X2_tell rfl ⟨rfl, rfl⟩ 1 (by decide) ⟨Nat.le_of_ble_eq_true rfl, Nat.le_of_ble_eq_true rfl⟩ 0 rfl rfl [0, 1, 2, 3, 4] [5, 6, 7] rfl rfl (by decide) (by decide) (by decide) rfl rfl (Nat.le_of_ble_eq_true rfl) ⟨Nat.le_of_ble_eq_true rfl, Nat.le_of_ble_eq_true rfl⟩ (fun  u165 w164 => ?_)
      obtain ⟨f161, f162, f163⟩ := u165
      refine r_ws [(h0, .inr (1, [.ref h1, .ref h8, .ref h2, .int z136, .long z137, .long y1, .int x1, .int x2, .long y2, .long y3])), (h2, .inr (4, [.ref h7, .int x5])), (h7, .inl (gB g, 1500, .inl fn4)), (h1, .inr (2, [.ref h3, .int 0, .int 0, .ref h4, .ref h5, .ref h6])), (h3, .inl (gI g, 48, .inl fn0)), (h4, .inl (gI g, 6, .inl f161)), (h5, .inl (gI g, 6, .inl f162)), (h6, .inl (gI g, 6, .inl f163))] rfl ?_
      have p166 : (SC f161 f162 f163) = TEL (SC fn1 fn2 fn3) (Int32.toInt z160) (Int32.toInt x3) (NZ (Int32.toInt x3) 0 (fn0 0)) (NZ (Int32.toInt x3) 1 (fn0 1)) (Int32.toInt x4) := w164
      exact r_vret 45 Rt dX1_takeOperandOrOperator_45 (z136, z137, 0, 0, fn0, f161, f162, f163) (show 0 ≤ (Int32.toInt z136) ∧ (Int32.toInt z136) ≤ 2 ∧ -8589934592 ≤ (Int64.toInt z137) ∧ (Int64.toInt z137) ≤ 8589934592 ∧ 0 ≤ (Int32.toInt 0) ∧ (Int32.toInt 0) ≤ 48 ∧ 0 ≤ (Int32.toInt 0) ∧ (Int32.toInt 0) ≤ 1 ∧ CND ((Int64.toInt y1) ≤ (Int32.toInt x5) ∧ 0 ≤ (Int64.toInt y0) ∧ (Int64.toInt y0) < (Int64.toInt y1)) (SEQ (Int32.toInt x0) (Int32.toInt z136) (DST (GB fn4 (Int32.toInt x5)) (Int64.toInt y1) (Int64.toInt y0) (Int32.toInt x3) (NZ (Int32.toInt x3) 0 (fn0 0)) (NZ (Int32.toInt x3) 1 (fn0 1)) (Int32.toInt x4) (SC fn1 fn2 fn3)) (fun s => s = ((Int64.toInt z137), 0, (NZ 0 0 (fn0 0)), (NZ 0 1 (fn0 1)), 0, (SC f161 f162 f163)))) ∧ (¬ ((Int32.toInt z136) = 0) ∨ ((Int32.toInt x0) = 0 ∧ (Int64.toInt y0) < (Int64.toInt z137) ∧ (Int64.toInt z137) ≤ (Int32.toInt x5) ∧ 0 ≤ (Int64.toInt y0))) from ⟨(show _ ∧ _ from ⟨p143, p144⟩).1, (show _ ∧ _ from ⟨p143, p144⟩).2, (show _ ∧ _ from ⟨p145, p146⟩).1, (show _ ∧ _ from ⟨p145, p146⟩).2, (by ((repeat' apply And.intro) <;> first | trivial | rfl | assumption | omega | decide | exact Or.inl rfl | exact Or.inr (Or.inl rfl) | exact Or.inr (Or.inr rfl))), (by ((repeat' apply And.intro) <;> first | trivial | rfl | assumption | omega | decide | exact Or.inl rfl | exact Or.inr (Or.inl rfl) | exact Or.inr (Or.inr rfl))), (by ((repeat' apply And.intro) <;> first | trivial | rfl | assumption | omega | decide | exact Or.inl rfl | exact Or.inr (Or.inl rfl) | exact Or.inr (Or.inr rfl))), (by ((repeat' apply And.intro) <;> first | trivial | rfl | assumption | omega | decide | exact Or.inl rfl | exact Or.inr (Or.inl rfl) | exact Or.inr (Or.inr rfl))), (by exact fun h_7 => dst_12 h_7 p12 (by omega) (by omega) p147 (fun _ => tup0 rfl (by omega) (by omega) p166 (by omega))), (by ((repeat' apply And.intro) <;> first | trivial | rfl | assumption | omega | decide | exact Or.inl rfl | exact Or.inr (Or.inl rfl) | exact Or.inr (Or.inr rfl)))⟩) [0, 3, 1, 4, 5, 6, 7, 2] (by decide) rfl (Nat.le_of_ble_eq_true rfl) (Nat.le_of_ble_eq_true rfl)
set_option maxHeartbeats 4000000 in
set_option maxRecDepth 100000 in
theorem c73_X1_takeDict (l : Launch) (g : GD) (h0 : Nat) (h1 : Nat) (h2 : Nat) (h3 : Nat) (h4 : Nat) (h5 : Nat) (h6 : Nat) (h7 : Nat) (y0 : Int64) (y1 : Int64) (h8 : Nat) (x0 : Int32) (y2 : Int64) (y3 : Int64) (x1 : Int32) (x2 : Int32) (y4 : Int64) (y5 : Int64) (x3 : Int32) (x4 : Int32) (x5 : Int32) (fn0 : Nat → Int32) (fn1 : Nat → Int32) (fn2 : Nat → Int32) (fn3 : Nat → Int32) (fn4 : Nat → Int32) (i_y0 : (-8589934592 ≤ (Int64.toInt y0) ∧ (Int64.toInt y0) ≤ 8589934592)) (i_x0 : (0 ≤ (Int32.toInt x0) ∧ (Int32.toInt x0) ≤ 2)) (i_y2 : (-8589934592 ≤ (Int64.toInt y2) ∧ (Int64.toInt y2) ≤ 8589934592)) (i_x1 : (-257 ≤ (Int32.toInt x1) ∧ (Int32.toInt x1) ≤ 65535)) (i_x2 : (-1 ≤ (Int32.toInt x2) ∧ (Int32.toInt x2) ≤ 255)) (i_y4 : (-8589934592 ≤ (Int64.toInt y4) ∧ (Int64.toInt y4) ≤ 8589934592)) (i_y5 : (-8589934592 ≤ (Int64.toInt y5) ∧ (Int64.toInt y5) ≤ 8589934592)) (i_x3 : (0 ≤ (Int32.toInt x3) ∧ (Int32.toInt x3) ≤ 48)) (i_x4 : (0 ≤ (Int32.toInt x4) ∧ (Int32.toInt x4) ≤ 1)) (i_x5 : (0 ≤ (Int32.toInt x5) ∧ (Int32.toInt x5) ≤ 1500)) (pre0 : (¬ ((Int32.toInt x0) = 0) ∨ 0 ≤ (Int64.toInt y0))) (sz : Nat) : Met l yX1_takeDict wsX1_takeDict ({ frames := 4, cells := 0, slots := 0, locals := 90 }) (va_Pc [.ref h0, .long y0, .long y1] (PW g [(h0, .inr (1, [.ref h1, .ref h8, .ref h2, .int x0, .long y2, .long y3, .int x1, .int x2, .long y4, .long y5])), (h1, .inr (2, [.ref h3, .int x3, .int x4, .ref h4, .ref h5, .ref h6])), (h2, .inr (4, [.ref h7, .int x5])), (h3, .inl (gI g, 48, .inl fn0)), (h4, .inl (gI g, 6, .inl fn1)), (h5, .inl (gI g, 6, .inl fn2)), (h6, .inl (gI g, 6, .inl fn3)), (h7, .inl (gB g, 1500, .inl fn4))] sz)) (va_Qv (fun (u : (Int32) × (Int64) × (Int32) × (Int32) × (Nat → Int32) × (Nat → Int32) × (Nat → Int32) × (Nat → Int32)) => 0 ≤ (Int32.toInt (u.1)) ∧ (Int32.toInt (u.1)) ≤ 2 ∧ -8589934592 ≤ (Int64.toInt (u.2.1)) ∧ (Int64.toInt (u.2.1)) ≤ 8589934592 ∧ 0 ≤ (Int32.toInt (u.2.2.1)) ∧ (Int32.toInt (u.2.2.1)) ≤ 48 ∧ 0 ≤ (Int32.toInt (u.2.2.2.1)) ∧ (Int32.toInt (u.2.2.2.1)) ≤ 1 ∧ SEQ (Int32.toInt x0) (Int32.toInt (u.1)) (DICB (GB fn4 (Int32.toInt x5)) (Int32.toInt x5) (Int64.toInt y0) (Int64.toInt y1)) (fun S => S = (SC (u.2.2.2.2.2.1) (u.2.2.2.2.2.2.1) (u.2.2.2.2.2.2.2)))) (BW g (va_A [(h0, .inr (1, [.ref h1, .ref h8, .ref h2, .int x0, .long y2, .long y3, .int x1, .int x2, .long y4, .long y5])), (h1, .inr (2, [.ref h3, .int x3, .int x4, .ref h4, .ref h5, .ref h6])), (h2, .inr (4, [.ref h7, .int x5])), (h3, .inl (gI g, 48, .inl fn0)), (h4, .inl (gI g, 6, .inl fn1)), (h5, .inl (gI g, 6, .inl fn2)), (h6, .inl (gI g, 6, .inl fn3)), (h7, .inl (gB g, 1500, .inl fn4))] sz) (fun u : (Int32) × (Int64) × (Int32) × (Int32) × (Nat → Int32) × (Nat → Int32) × (Nat → Int32) × (Nat → Int32) => [(h0, .inr (1, [.ref h1, .ref h8, .ref h2, .int u.1, .long u.2.1, .long 9223372036854775807, .int x1, .int x2, .long y4, .long y5])), (h1, .inr (2, [.ref h3, .int u.2.2.1, .int u.2.2.2.1, .ref h4, .ref h5, .ref h6])), (h2, .inr (4, [.ref h7, .int x5])), (h3, .inl (gI g, 48, .inl u.2.2.2.2.1)), (h4, .inl (gI g, 6, .inl u.2.2.2.2.2.1)), (h5, .inl (gI g, 6, .inl u.2.2.2.2.2.2.1)), (h6, .inl (gI g, 6, .inl u.2.2.2.2.2.2.2)), (h7, .inl (gB g, 1500, .inl fn4))])) (va_A [(h0, .inr (1, [.ref h1, .ref h8, .ref h2, .int x0, .long y2, .long y3, .int x1, .int x2, .long y4, .long y5])), (h1, .inr (2, [.ref h3, .int x3, .int x4, .ref h4, .ref h5, .ref h6])), (h2, .inr (4, [.ref h7, .int x5])), (h3, .inl (gI g, 48, .inl fn0)), (h4, .inl (gI g, 6, .inl fn1)), (h5, .inl (gI g, 6, .inl fn2)), (h6, .inl (gI g, 6, .inl fn3)), (h7, .inl (gB g, 1500, .inl fn4))] sz)) 0 0 (va_A [(h0, .inr (1, [.ref h1, .ref h8, .ref h2, .int x0, .long y2, .long y3, .int x1, .int x2, .long y4, .long y5])), (h1, .inr (2, [.ref h3, .int x3, .int x4, .ref h4, .ref h5, .ref h6])), (h2, .inr (4, [.ref h7, .int x5])), (h3, .inl (gI g, 48, .inl fn0)), (h4, .inl (gI g, 6, .inl fn1)), (h5, .inl (gI g, 6, .inl fn2)), (h6, .inl (gI g, 6, .inl fn3)), (h7, .inl (gB g, 1500, .inl fn4))] sz) := by
  refine met_v RX1 (by decide) rfl rfl (Nat.le_of_ble_eq_true rfl) [(0, .ref h0), (1, .long y0), (3, .long y1)] rfl ?_
  intro p e s m args below meth c A Q C hnm Rt
  have gy1 := fb_rngL y1
  have hiX1 : ∀ w ∈ wsX10, w ∈ wsX1_takeDict := fun w h => List.mem_cons_of_mem _ (List.mem_append_left _ (List.mem_append_left _ (List.mem_append_right _ (h))))
  refine r_aload_n 0 0 C dX1_takeDict_0 rfl ?_
  refine r_get 1 C dX1_takeDict_1 (k := 0) 0 rfl rfl hiX1 (by decide) rfl (mg 1 rfl) (Or.inl rfl) rfl ?_
  refine r_callVv 4 C dX1_takeDict_4 [] [(h1, .inr (2, [.ref h3, .int x3, .int x4, .ref h4, .ref h5, .ref h6])), (h4, .inl (gI g, 6, .inl fn1))] [(h0, .inr (1, [.ref h1, .ref h8, .ref h2, .int x0, .long y2, .long y3, .int x1, .int x2, .long y4, .long y5])), (h2, .inr (4, [.ref h7, .int x5])), (h3, .inl (gI g, 48, .inl fn0)), (h5, .inl (gI g, 6, .inl fn2)), (h6, .inl (gI g, 6, .inl fn3)), (h7, .inl (gB g, 1500, .inl fn4))] (fun sz => c61_X2_clear l g h1 h4 h3 x3 x4 h5 h6 fn1 i_x3 i_x4 sz) gX1_takeDict_X2_clear rfl ⟨rfl, rfl⟩ 0 (by decide) ⟨Nat.le_of_ble_eq_true rfl, Nat.le_of_ble_eq_true rfl⟩ 1 rfl rfl [1, 4] [0, 2, 3, 5, 6, 7] rfl rfl (by decide) (by decide) (by decide) rfl rfl (Nat.le_of_ble_eq_true rfl) ⟨Nat.le_of_ble_eq_true rfl, Nat.le_of_ble_eq_true rfl⟩ (fun  f1 w2 => ?_)
  refine r_ws [(h0, .inr (1, [.ref h1, .ref h8, .ref h2, .int x0, .long y2, .long y3, .int x1, .int x2, .long y4, .long y5])), (h2, .inr (4, [.ref h7, .int x5])), (h3, .inl (gI g, 48, .inl fn0)), (h5, .inl (gI g, 6, .inl fn2)), (h6, .inl (gI g, 6, .inl fn3)), (h7, .inl (gB g, 1500, .inl fn4)), (h1, .inr (2, [.ref h3, .int 0, .int 0, .ref h4, .ref h5, .ref h6])), (h4, .inl (gI g, 6, .inl f1))] rfl ?_
  have p3 : FILLED f1 (-1) 6 := w2
  refine r_aload_n 7 0 C dX1_takeDict_7 rfl ?_
  refine r_lload_n 8 1 C dX1_takeDict_8 rfl ?_
  refine r_put 9 C dX1_takeDict_9 (k := 4) 0 rfl rfl hiX1 tyX1 tyX1_ok nmX1 (by decide) rfl (mg 2 rfl) (Or.inl rfl) rfl rfl rfl rfl (Nat.le_of_ble_eq_true rfl) [(h0, .inr (1, [.ref h1, .ref h8, .ref h2, .int x0, .long y0, .long y3, .int x1, .int x2, .long y4, .long y5])), (h2, .inr (4, [.ref h7, .int x5])), (h3, .inl (gI g, 48, .inl fn0)), (h5, .inl (gI g, 6, .inl fn2)), (h6, .inl (gI g, 6, .inl fn3)), (h7, .inl (gB g, 1500, .inl fn4)), (h1, .inr (2, [.ref h3, .int 0, .int 0, .ref h4, .ref h5, .ref h6])), (h4, .inl (gI g, 6, .inl f1))] rfl ?_
  refine r_aload_n 12 0 C dX1_takeDict_12 rfl ?_
  refine r_lload_n 13 2 C dX1_takeDict_13 rfl ?_
  refine r_put 14 C dX1_takeDict_14 (k := 5) 0 rfl rfl hiX1 tyX1 tyX1_ok nmX1 (by decide) rfl (mg 3 rfl) (Or.inl rfl) rfl rfl rfl rfl (Nat.le_of_ble_eq_true rfl) [(h0, .inr (1, [.ref h1, .ref h8, .ref h2, .int x0, .long y0, .long y1, .int x1, .int x2, .long y4, .long y5])), (h2, .inr (4, [.ref h7, .int x5])), (h3, .inl (gI g, 48, .inl fn0)), (h5, .inl (gI g, 6, .inl fn2)), (h6, .inl (gI g, 6, .inl fn3)), (h7, .inl (gB g, 1500, .inl fn4)), (h1, .inr (2, [.ref h3, .int 0, .int 0, .ref h4, .ref h5, .ref h6])), (h4, .inl (gI g, 6, .inl f1))] rfl ?_
  refine r_iconst 17 0 C dX1_takeDict_17 (by decide) ?_
  refine r_istore 18 C dX1_takeDict_18 [(5, .int 0), (0, .ref h0), (1, .long y0), (3, .long y1)] (by decide) rfl ?_
  have lp14 : ∀ (n13 : Nat) (z4 : Int32) (z5 : Int32) (z6 : Int64) (f7 : Nat → Int32) (f8 : Nat → Int32) (f9 : Nat → Int32) (z10 : Int32) (z11 : Int32) (f12 : Nat → Int32), (0 ≤ (Int32.toInt z4) ∧ (Int32.toInt z4) ≤ 1501) → (0 ≤ (Int32.toInt z5) ∧ (Int32.toInt z5) ≤ 2) → (-8589934592 ≤ (Int64.toInt z6) ∧ (Int64.toInt z6) ≤ 8589934592) → (0 ≤ (Int32.toInt z10) ∧ (Int32.toInt z10) ≤ 48) → (0 ≤ (Int32.toInt z11) ∧ (Int32.toInt z11) ≤ 1) → ((¬ ((Int32.toInt z5) = 0) ∨ ((Int32.toInt x0) = 0 ∧ 0 ≤ (Int64.toInt z6) ∧ (Int32.toInt z4) + (Int64.toInt y0) ≤ (Int64.toInt z6) ∧ (((Int64.toInt z6) = (Int64.toInt y0) ∧ (Int32.toInt z4) = 0) ∨ (Int64.toInt z6) ≤ (Int32.toInt x5))))) → (CND ((Int64.toInt y1) ≤ (Int32.toInt x5) ∨ (Int64.toInt y1) ≤ (Int64.toInt y0)) (LPQ (Int32.toInt x0) (Int32.toInt z5) (DIC (GB fn4 (Int32.toInt x5)) (Int64.toInt y0) (Int64.toInt y1)) (DCT (GB fn4 (Int32.toInt x5)) (Int64.toInt y1) (Int64.toInt z6) (Int32.toInt z10) (NZ (Int32.toInt z10) 0 (f7 0)) (NZ (Int32.toInt z10) 1 (f7 1)) (Int32.toInt z11) (SC f12 f8 f9)) True)) → Int.toNat (1501 - (Int32.toInt z4)) < n13 → WW p l e ({ frames := 4, cells := 0, slots := 0, locals := 90 } : Room) s m args below meth c A Q g 6 0 0 [(h0, .inr (1, [.ref h1, .ref h8, .ref h2, .int z5, .long z6, .long y1, .int x1, .int x2, .long y4, .long y5])), (h2, .inr (4, [.ref h7, .int x5])), (h3, .inl (gI g, 48, .inl f7)), (h5, .inl (gI g, 6, .inl f8)), (h6, .inl (gI g, 6, .inl f9)), (h7, .inl (gB g, 1500, .inl fn4)), (h1, .inr (2, [.ref h3, .int z10, .int z11, .ref h4, .ref h5, .ref h6])), (h4, .inl (gI g, 6, .inl f12))] 20 [(5, .int z4), (0, .ref h0), (1, .long y0), (3, .long y1)] [] := by
    intro n13
    induction n13 with
    | zero => intro z4 z5 z6 f7 f8 f9 z10 z11 f12 i17 i18 i19 i20 i21 j22 j23 hm16; exact absurd hm16 (Nat.not_lt_zero _)
    | succ n13 ih15 =>
      intro z4 z5 z6 f7 f8 f9 z10 z11 f12 i17 i18 i19 i20 i21 j22 j23 hm16
      obtain ⟨i17a, i17b⟩ := i17
      obtain ⟨i18a, i18b⟩ := i18
      obtain ⟨i19a, i19b⟩ := i19
      obtain ⟨i20a, i20b⟩ := i20
      obtain ⟨i21a, i21b⟩ := i21
      refine r_iload 20 0 C dX1_takeDict_20 rfl ?_
      refine r_sipush 22 1500 C dX1_takeDict_22 (by decide) ?_
      refine r_icmp_gt 25 57 C dX1_takeDict_25 (by decide) (fun c24 => ?_) (fun c24 => ?_)
      · skip
        have k25 : 1500 < (Int32.toInt z4) := (fa_lt 1500 z4).mp c24
        refine r_aload_n 57 1 C dX1_takeDict_57 rfl ?_
        refine r_aload_n 58 1 C dX1_takeDict_58 rfl ?_
        refine r_get 59 C dX1_takeDict_59 (k := 0) 0 rfl rfl hiX1 (by decide) rfl (mg 1 rfl) (Or.inl rfl) rfl ?_
        refine r_callVi 62 C dX1_takeDict_62 [.ref h0] [(h1, .inr (2, [.ref h3, .int z10, .int z11, .ref h4, .ref h5, .ref h6]))] [(h0, .inr (1, [.ref h1, .ref h8, .ref h2, .int z5, .long z6, .long y1, .int x1, .int x2, .long y4, .long y5])), (h2, .inr (4, [.ref h7, .int x5])), (h3, .inl (gI g, 48, .inl f7)), (h5, .inl (gI g, 6, .inl f8)), (h6, .inl (gI g, 6, .inl f9)), (h7, .inl (gB g, 1500, .inl fn4)), (h4, .inl (gI g, 6, .inl f12))] (fun sz => c62_X2_isBetween l g h1 h3 z10 z11 h4 h5 h6 ⟨i20a, i20b⟩ ⟨i21a, i21b⟩ sz) gX1_takeDict_X2_isBetween rfl ⟨rfl, rfl⟩ 0 (by decide) ⟨Nat.le_of_ble_eq_true rfl, Nat.le_of_ble_eq_true rfl⟩ 6 rfl rfl [6] [0, 1, 2, 3, 4, 5, 7] rfl rfl (by decide) (by decide) (by decide) rfl rfl (Nat.le_of_ble_eq_true rfl) ⟨Nat.le_of_ble_eq_true rfl, Nat.le_of_ble_eq_true rfl⟩ (fun r26 _ w27 => ?_)
        refine r_ws [(h0, .inr (1, [.ref h1, .ref h8, .ref h2, .int z5, .long z6, .long y1, .int x1, .int x2, .long y4, .long y5])), (h2, .inr (4, [.ref h7, .int x5])), (h3, .inl (gI g, 48, .inl f7)), (h5, .inl (gI g, 6, .inl f8)), (h6, .inl (gI g, 6, .inl f9)), (h7, .inl (gB g, 1500, .inl fn4)), (h4, .inl (gI g, 6, .inl f12)), (h1, .inr (2, [.ref h3, .int z10, .int z11, .ref h4, .ref h5, .ref h6]))] rfl ?_
        have p28 : 0 ≤ (Int32.toInt r26) := w27.1
        have p29 : (Int32.toInt r26) ≤ 1 := w27.2.1
        have p30 : (((Int32.toInt r26) = 1 ∧ (Int32.toInt z10) = 0) ∨ ((Int32.toInt r26) = 0 ∧ ¬ ((Int32.toInt z10) = 0))) := w27.2.2
        refine r_callVv 65 C dX1_takeDict_65 [] [(h0, .inr (1, [.ref h1, .ref h8, .ref h2, .int z5, .long z6, .long y1, .int x1, .int x2, .long y4, .long y5]))] [(h2, .inr (4, [.ref h7, .int x5])), (h3, .inl (gI g, 48, .inl f7)), (h5, .inl (gI g, 6, .inl f8)), (h6, .inl (gI g, 6, .inl f9)), (h7, .inl (gB g, 1500, .inl fn4)), (h4, .inl (gI g, 6, .inl f12)), (h1, .inr (2, [.ref h3, .int z10, .int z11, .ref h4, .ref h5, .ref h6]))] (fun sz => c53_X1_want l g h0 r26 h1 h8 h2 z5 z6 y1 x1 x2 y4 y5 ⟨p28, p29⟩ ⟨i18a, i18b⟩ ⟨i19a, i19b⟩ i_x1 i_x2 i_y4 i_y5 sz) gX1_takeDict_X1_want rfl ⟨rfl, rfl⟩ 1 (by decide) ⟨Nat.le_of_ble_eq_true rfl, Nat.le_of_ble_eq_true rfl⟩ 0 rfl rfl [0] [1, 2, 3, 4, 5, 6, 7] rfl rfl (by decide) (by decide) (by decide) rfl rfl (Nat.le_of_ble_eq_true rfl) ⟨Nat.le_of_ble_eq_true rfl, Nat.le_of_ble_eq_true rfl⟩ (fun  z31 w32 => ?_)
        refine r_ws [(h2, .inr (4, [.ref h7, .int x5])), (h3, .inl (gI g, 48, .inl f7)), (h5, .inl (gI g, 6, .inl f8)), (h6, .inl (gI g, 6, .inl f9)), (h7, .inl (gB g, 1500, .inl fn4)), (h4, .inl (gI g, 6, .inl f12)), (h1, .inr (2, [.ref h3, .int z10, .int z11, .ref h4, .ref h5, .ref h6])), (h0, .inr (1, [.ref h1, .ref h8, .ref h2, .int z31, .long z6, .long y1, .int x1, .int x2, .long y4, .long y5]))] rfl ?_
        have p33 : 0 ≤ (Int32.toInt z31) := w32.1
        have p34 : (Int32.toInt z31) ≤ 2 := w32.2.1
        have p35 : WNT (Int32.toInt r26) (Int32.toInt z5) (Int32.toInt z31) := w32.2.2.1
        have p36 : (((Int32.toInt r26) = 1 ∧ (Int32.toInt z31) = (Int32.toInt z5)) ∨ ((Int32.toInt r26) = 0 ∧ 1 ≤ (Int32.toInt z31))) := w32.2.2.2
        rcases p36 with ⟨k37, k38⟩ | p36
        · skip
          refine r_aload_n 68 1 C dX1_takeDict_68 rfl ?_
          refine r_ldc2 69 9223372036854775807 C dX1_takeDict_69 (mg 5 rfl) ?_
          refine r_put 72 C dX1_takeDict_72 (k := 5) 7 rfl rfl hiX1 tyX1 tyX1_ok nmX1 (by decide) rfl (mg 3 rfl) (Or.inl rfl) rfl rfl rfl rfl (Nat.le_of_ble_eq_true rfl) [(h2, .inr (4, [.ref h7, .int x5])), (h3, .inl (gI g, 48, .inl f7)), (h5, .inl (gI g, 6, .inl f8)), (h6, .inl (gI g, 6, .inl f9)), (h7, .inl (gB g, 1500, .inl fn4)), (h4, .inl (gI g, 6, .inl f12)), (h1, .inr (2, [.ref h3, .int z10, .int z11, .ref h4, .ref h5, .ref h6])), (h0, .inr (1, [.ref h1, .ref h8, .ref h2, .int z31, .long z6, .long 9223372036854775807, .int x1, .int x2, .long y4, .long y5]))] rfl ?_
          exact r_vret 75 Rt dX1_takeDict_75 (z31, z6, z10, z11, f7, f12, f8, f9) (show 0 ≤ (Int32.toInt z31) ∧ (Int32.toInt z31) ≤ 2 ∧ -8589934592 ≤ (Int64.toInt z6) ∧ (Int64.toInt z6) ≤ 8589934592 ∧ 0 ≤ (Int32.toInt z10) ∧ (Int32.toInt z10) ≤ 48 ∧ 0 ≤ (Int32.toInt z11) ∧ (Int32.toInt z11) ≤ 1 ∧ SEQ (Int32.toInt x0) (Int32.toInt z31) (DICB (GB fn4 (Int32.toInt x5)) (Int32.toInt x5) (Int64.toInt y0) (Int64.toInt y1)) (fun S => S = (SC f12 f8 f9)) from ⟨(show _ ∧ _ from ⟨p33, p34⟩).1, (show _ ∧ _ from ⟨p33, p34⟩).2, (show _ ∧ _ from ⟨i19a, i19b⟩).1, (show _ ∧ _ from ⟨i19a, i19b⟩).2, (show _ ∧ _ from ⟨i20a, i20b⟩).1, (show _ ∧ _ from ⟨i20a, i20b⟩).2, (show _ ∧ _ from ⟨i21a, i21b⟩).1, (show _ ∧ _ from ⟨i21a, i21b⟩).2, (by exact dict_end (show CND ((Int64.toInt y1) ≤ (Int32.toInt x5) ∨ (Int64.toInt y1) ≤ (Int64.toInt y0)) (LPQ (Int32.toInt x0) (Int32.toInt z5) (DIC (GB fn4 (Int32.toInt x5)) (Int64.toInt y0) (Int64.toInt y1)) (DCT (GB fn4 (Int32.toInt x5)) (Int64.toInt y1) (Int64.toInt z6) (Int32.toInt z10) (NZ (Int32.toInt z10) 0 (f7 0)) (NZ (Int32.toInt z10) 1 (f7 1)) (Int32.toInt z11) (SC f12 f8 f9)) True) by assumption) p35 (by omega) (by omega) (by omega) (by omega))⟩) [7, 6, 0, 1, 5, 2, 3, 4] (by decide) rfl (Nat.le_of_ble_eq_true rfl) (Nat.le_of_ble_eq_true rfl)
        obtain ⟨k39, k40⟩ := p36
        refine r_aload_n 68 1 C dX1_takeDict_68 rfl ?_
        refine r_ldc2 69 9223372036854775807 C dX1_takeDict_69 (mg 5 rfl) ?_
        refine r_put 72 C dX1_takeDict_72 (k := 5) 7 rfl rfl hiX1 tyX1 tyX1_ok nmX1 (by decide) rfl (mg 3 rfl) (Or.inl rfl) rfl rfl rfl rfl (Nat.le_of_ble_eq_true rfl) [(h2, .inr (4, [.ref h7, .int x5])), (h3, .inl (gI g, 48, .inl f7)), (h5, .inl (gI g, 6, .inl f8)), (h6, .inl (gI g, 6, .inl f9)), (h7, .inl (gB g, 1500, .inl fn4)), (h4, .inl (gI g, 6, .inl f12)), (h1, .inr (2, [.ref h3, .int z10, .int z11, .ref h4, .ref h5, .ref h6])), (h0, .inr (1, [.ref h1, .ref h8, .ref h2, .int z31, .long z6, .long 9223372036854775807, .int x1, .int x2, .long y4, .long y5]))] rfl ?_
        exact r_vret 75 Rt dX1_takeDict_75 (z31, z6, z10, z11, f7, f12, f8, f9) (show 0 ≤ (Int32.toInt z31) ∧ (Int32.toInt z31) ≤ 2 ∧ -8589934592 ≤ (Int64.toInt z6) ∧ (Int64.toInt z6) ≤ 8589934592 ∧ 0 ≤ (Int32.toInt z10) ∧ (Int32.toInt z10) ≤ 48 ∧ 0 ≤ (Int32.toInt z11) ∧ (Int32.toInt z11) ≤ 1 ∧ SEQ (Int32.toInt x0) (Int32.toInt z31) (DICB (GB fn4 (Int32.toInt x5)) (Int32.toInt x5) (Int64.toInt y0) (Int64.toInt y1)) (fun S => S = (SC f12 f8 f9)) from ⟨(show _ ∧ _ from ⟨p33, p34⟩).1, (show _ ∧ _ from ⟨p33, p34⟩).2, (show _ ∧ _ from ⟨i19a, i19b⟩).1, (show _ ∧ _ from ⟨i19a, i19b⟩).2, (show _ ∧ _ from ⟨i20a, i20b⟩).1, (show _ ∧ _ from ⟨i20a, i20b⟩).2, (show _ ∧ _ from ⟨i21a, i21b⟩).1, (show _ ∧ _ from ⟨i21a, i21b⟩).2, (by exact dict_end (show CND ((Int64.toInt y1) ≤ (Int32.toInt x5) ∨ (Int64.toInt y1) ≤ (Int64.toInt y0)) (LPQ (Int32.toInt x0) (Int32.toInt z5) (DIC (GB fn4 (Int32.toInt x5)) (Int64.toInt y0) (Int64.toInt y1)) (DCT (GB fn4 (Int32.toInt x5)) (Int64.toInt y1) (Int64.toInt z6) (Int32.toInt z10) (NZ (Int32.toInt z10) 0 (f7 0)) (NZ (Int32.toInt z10) 1 (f7 1)) (Int32.toInt z11) (SC f12 f8 f9)) True) by assumption) p35 (by omega) (by omega) (by omega) (by omega))⟩) [7, 6, 0, 1, 5, 2, 3, 4] (by decide) rfl (Nat.le_of_ble_eq_true rfl) (Nat.le_of_ble_eq_true rfl)
      · skip
        have k41 : ¬ (1500 < (Int32.toInt z4)) := fun h_9 => c24 ((fa_lt 1500 z4).mpr h_9)
        refine r_aload_n 28 1 C dX1_takeDict_28 rfl ?_
        refine r_get 29 C dX1_takeDict_29 (k := 3) 0 rfl rfl hiX1 (by decide) rfl (mg 4 rfl) (Or.inl rfl) rfl ?_
        refine r_if_ne 32 57 C dX1_takeDict_32 (by decide) (fun c42 => ?_) (fun c42 => ?_)
        · skip
          have k43 : ¬ ((Int32.toInt z5) = 0) := fun h_9 => c42 ((fa_eq z5 0).mpr h_9)
          refine r_aload_n 57 1 C dX1_takeDict_57 rfl ?_
          refine r_aload_n 58 1 C dX1_takeDict_58 rfl ?_
          refine r_get 59 C dX1_takeDict_59 (k := 0) 0 rfl rfl hiX1 (by decide) rfl (mg 1 rfl) (Or.inl rfl) rfl ?_
          refine r_callVi 62 C dX1_takeDict_62 [.ref h0] [(h1, .inr (2, [.ref h3, .int z10, .int z11, .ref h4, .ref h5, .ref h6]))] [(h0, .inr (1, [.ref h1, .ref h8, .ref h2, .int z5, .long z6, .long y1, .int x1, .int x2, .long y4, .long y5])), (h2, .inr (4, [.ref h7, .int x5])), (h3, .inl (gI g, 48, .inl f7)), (h5, .inl (gI g, 6, .inl f8)), (h6, .inl (gI g, 6, .inl f9)), (h7, .inl (gB g, 1500, .inl fn4)), (h4, .inl (gI g, 6, .inl f12))] (fun sz => c62_X2_isBetween l g h1 h3 z10 z11 h4 h5 h6 ⟨i20a, i20b⟩ ⟨i21a, i21b⟩ sz) gX1_takeDict_X2_isBetween rfl ⟨rfl, rfl⟩ 0 (by decide) ⟨Nat.le_of_ble_eq_true rfl, Nat.le_of_ble_eq_true rfl⟩ 6 rfl rfl [6] [0, 1, 2, 3, 4, 5, 7] rfl rfl (by decide) (by decide) (by decide) rfl rfl (Nat.le_of_ble_eq_true rfl) ⟨Nat.le_of_ble_eq_true rfl, Nat.le_of_ble_eq_true rfl⟩ (fun r44 _ w45 => ?_)
          refine r_ws [(h0, .inr (1, [.ref h1, .ref h8, .ref h2, .int z5, .long z6, .long y1, .int x1, .int x2, .long y4, .long y5])), (h2, .inr (4, [.ref h7, .int x5])), (h3, .inl (gI g, 48, .inl f7)), (h5, .inl (gI g, 6, .inl f8)), (h6, .inl (gI g, 6, .inl f9)), (h7, .inl (gB g, 1500, .inl fn4)), (h4, .inl (gI g, 6, .inl f12)), (h1, .inr (2, [.ref h3, .int z10, .int z11, .ref h4, .ref h5, .ref h6]))] rfl ?_
          have p46 : 0 ≤ (Int32.toInt r44) := w45.1
          have p47 : (Int32.toInt r44) ≤ 1 := w45.2.1
          have p48 : (((Int32.toInt r44) = 1 ∧ (Int32.toInt z10) = 0) ∨ ((Int32.toInt r44) = 0 ∧ ¬ ((Int32.toInt z10) = 0))) := w45.2.2
          refine r_callVv 65 C dX1_takeDict_65 [] [(h0, .inr (1, [.ref h1, .ref h8, .ref h2, .int z5, .long z6, .long y1, .int x1, .int x2, .long y4, .long y5]))] [(h2, .inr (4, [.ref h7, .int x5])), (h3, .inl (gI g, 48, .inl f7)), (h5, .inl (gI g, 6, .inl f8)), (h6, .inl (gI g, 6, .inl f9)), (h7, .inl (gB g, 1500, .inl fn4)), (h4, .inl (gI g, 6, .inl f12)), (h1, .inr (2, [.ref h3, .int z10, .int z11, .ref h4, .ref h5, .ref h6]))] (fun sz => c53_X1_want l g h0 r44 h1 h8 h2 z5 z6 y1 x1 x2 y4 y5 ⟨p46, p47⟩ ⟨i18a, i18b⟩ ⟨i19a, i19b⟩ i_x1 i_x2 i_y4 i_y5 sz) gX1_takeDict_X1_want rfl ⟨rfl, rfl⟩ 1 (by decide) ⟨Nat.le_of_ble_eq_true rfl, Nat.le_of_ble_eq_true rfl⟩ 0 rfl rfl [0] [1, 2, 3, 4, 5, 6, 7] rfl rfl (by decide) (by decide) (by decide) rfl rfl (Nat.le_of_ble_eq_true rfl) ⟨Nat.le_of_ble_eq_true rfl, Nat.le_of_ble_eq_true rfl⟩ (fun  z49 w50 => ?_)
          refine r_ws [(h2, .inr (4, [.ref h7, .int x5])), (h3, .inl (gI g, 48, .inl f7)), (h5, .inl (gI g, 6, .inl f8)), (h6, .inl (gI g, 6, .inl f9)), (h7, .inl (gB g, 1500, .inl fn4)), (h4, .inl (gI g, 6, .inl f12)), (h1, .inr (2, [.ref h3, .int z10, .int z11, .ref h4, .ref h5, .ref h6])), (h0, .inr (1, [.ref h1, .ref h8, .ref h2, .int z49, .long z6, .long y1, .int x1, .int x2, .long y4, .long y5]))] rfl ?_
          have p51 : 0 ≤ (Int32.toInt z49) := w50.1
          have p52 : (Int32.toInt z49) ≤ 2 := w50.2.1
          have p53 : WNT (Int32.toInt r44) (Int32.toInt z5) (Int32.toInt z49) := w50.2.2.1
          have p54 : (((Int32.toInt r44) = 1 ∧ (Int32.toInt z49) = (Int32.toInt z5)) ∨ ((Int32.toInt r44) = 0 ∧ 1 ≤ (Int32.toInt z49))) := w50.2.2.2
          rcases p54 with ⟨k55, k56⟩ | p54
          · skip
            refine r_aload_n 68 1 C dX1_takeDict_68 rfl ?_
            refine r_ldc2 69 9223372036854775807 C dX1_takeDict_69 (mg 5 rfl) ?_
            refine r_put 72 C dX1_takeDict_72 (k := 5) 7 rfl rfl hiX1 tyX1 tyX1_ok nmX1 (by decide) rfl (mg 3 rfl) (Or.inl rfl) rfl rfl rfl rfl (Nat.le_of_ble_eq_true rfl) [(h2, .inr (4, [.ref h7, .int x5])), (h3, .inl (gI g, 48, .inl f7)), (h5, .inl (gI g, 6, .inl f8)), (h6, .inl (gI g, 6, .inl f9)), (h7, .inl (gB g, 1500, .inl fn4)), (h4, .inl (gI g, 6, .inl f12)), (h1, .inr (2, [.ref h3, .int z10, .int z11, .ref h4, .ref h5, .ref h6])), (h0, .inr (1, [.ref h1, .ref h8, .ref h2, .int z49, .long z6, .long 9223372036854775807, .int x1, .int x2, .long y4, .long y5]))] rfl ?_
            exact r_vret 75 Rt dX1_takeDict_75 (z49, z6, z10, z11, f7, f12, f8, f9) (show 0 ≤ (Int32.toInt z49) ∧ (Int32.toInt z49) ≤ 2 ∧ -8589934592 ≤ (Int64.toInt z6) ∧ (Int64.toInt z6) ≤ 8589934592 ∧ 0 ≤ (Int32.toInt z10) ∧ (Int32.toInt z10) ≤ 48 ∧ 0 ≤ (Int32.toInt z11) ∧ (Int32.toInt z11) ≤ 1 ∧ SEQ (Int32.toInt x0) (Int32.toInt z49) (DICB (GB fn4 (Int32.toInt x5)) (Int32.toInt x5) (Int64.toInt y0) (Int64.toInt y1)) (fun S => S = (SC f12 f8 f9)) from ⟨(show _ ∧ _ from ⟨p51, p52⟩).1, (show _ ∧ _ from ⟨p51, p52⟩).2, (show _ ∧ _ from ⟨i19a, i19b⟩).1, (show _ ∧ _ from ⟨i19a, i19b⟩).2, (show _ ∧ _ from ⟨i20a, i20b⟩).1, (show _ ∧ _ from ⟨i20a, i20b⟩).2, (show _ ∧ _ from ⟨i21a, i21b⟩).1, (show _ ∧ _ from ⟨i21a, i21b⟩).2, (by exact dict_end (show CND ((Int64.toInt y1) ≤ (Int32.toInt x5) ∨ (Int64.toInt y1) ≤ (Int64.toInt y0)) (LPQ (Int32.toInt x0) (Int32.toInt z5) (DIC (GB fn4 (Int32.toInt x5)) (Int64.toInt y0) (Int64.toInt y1)) (DCT (GB fn4 (Int32.toInt x5)) (Int64.toInt y1) (Int64.toInt z6) (Int32.toInt z10) (NZ (Int32.toInt z10) 0 (f7 0)) (NZ (Int32.toInt z10) 1 (f7 1)) (Int32.toInt z11) (SC f12 f8 f9)) True) by assumption) p53 (by omega) (by omega) (by omega) (by omega))⟩) [7, 6, 0, 1, 5, 2, 3, 4] (by decide) rfl (Nat.le_of_ble_eq_true rfl) (Nat.le_of_ble_eq_true rfl)
          obtain ⟨k57, k58⟩ := p54
          refine r_aload_n 68 1 C dX1_takeDict_68 rfl ?_
          refine r_ldc2 69 9223372036854775807 C dX1_takeDict_69 (mg 5 rfl) ?_
          refine r_put 72 C dX1_takeDict_72 (k := 5) 7 rfl rfl hiX1 tyX1 tyX1_ok nmX1 (by decide) rfl (mg 3 rfl) (Or.inl rfl) rfl rfl rfl rfl (Nat.le_of_ble_eq_true rfl) [(h2, .inr (4, [.ref h7, .int x5])), (h3, .inl (gI g, 48, .inl f7)), (h5, .inl (gI g, 6, .inl f8)), (h6, .inl (gI g, 6, .inl f9)), (h7, .inl (gB g, 1500, .inl fn4)), (h4, .inl (gI g, 6, .inl f12)), (h1, .inr (2, [.ref h3, .int z10, .int z11, .ref h4, .ref h5, .ref h6])), (h0, .inr (1, [.ref h1, .ref h8, .ref h2, .int z49, .long z6, .long 9223372036854775807, .int x1, .int x2, .long y4, .long y5]))] rfl ?_
          exact r_vret 75 Rt dX1_takeDict_75 (z49, z6, z10, z11, f7, f12, f8, f9) (show 0 ≤ (Int32.toInt z49) ∧ (Int32.toInt z49) ≤ 2 ∧ -8589934592 ≤ (Int64.toInt z6) ∧ (Int64.toInt z6) ≤ 8589934592 ∧ 0 ≤ (Int32.toInt z10) ∧ (Int32.toInt z10) ≤ 48 ∧ 0 ≤ (Int32.toInt z11) ∧ (Int32.toInt z11) ≤ 1 ∧ SEQ (Int32.toInt x0) (Int32.toInt z49) (DICB (GB fn4 (Int32.toInt x5)) (Int32.toInt x5) (Int64.toInt y0) (Int64.toInt y1)) (fun S => S = (SC f12 f8 f9)) from ⟨(show _ ∧ _ from ⟨p51, p52⟩).1, (show _ ∧ _ from ⟨p51, p52⟩).2, (show _ ∧ _ from ⟨i19a, i19b⟩).1, (show _ ∧ _ from ⟨i19a, i19b⟩).2, (show _ ∧ _ from ⟨i20a, i20b⟩).1, (show _ ∧ _ from ⟨i20a, i20b⟩).2, (show _ ∧ _ from ⟨i21a, i21b⟩).1, (show _ ∧ _ from ⟨i21a, i21b⟩).2, (by exact dict_end (show CND ((Int64.toInt y1) ≤ (Int32.toInt x5) ∨ (Int64.toInt y1) ≤ (Int64.toInt y0)) (LPQ (Int32.toInt x0) (Int32.toInt z5) (DIC (GB fn4 (Int32.toInt x5)) (Int64.toInt y0) (Int64.toInt y1)) (DCT (GB fn4 (Int32.toInt x5)) (Int64.toInt y1) (Int64.toInt z6) (Int32.toInt z10) (NZ (Int32.toInt z10) 0 (f7 0)) (NZ (Int32.toInt z10) 1 (f7 1)) (Int32.toInt z11) (SC f12 f8 f9)) True) by assumption) p53 (by omega) (by omega) (by omega) (by omega))⟩) [7, 6, 0, 1, 5, 2, 3, 4] (by decide) rfl (Nat.le_of_ble_eq_true rfl) (Nat.le_of_ble_eq_true rfl)
        · skip
          have k59 : (Int32.toInt z5) = 0 := (fa_eq z5 0).mp c42
          refine r_aload_n 35 1 C dX1_takeDict_35 rfl ?_
          refine r_get 36 C dX1_takeDict_36 (k := 4) 0 rfl rfl hiX1 (by decide) rfl (mg 2 rfl) (Or.inl rfl) rfl ?_
          refine r_aload_n 39 1 C dX1_takeDict_39 rfl ?_
          refine r_get 40 C dX1_takeDict_40 (k := 5) 0 rfl rfl hiX1 (by decide) rfl (mg 3 rfl) (Or.inl rfl) rfl ?_
          obtain ⟨z60, ez60⟩ : ∃ z_9, lg_cmp z6 y1 = z_9 := ⟨_, rfl⟩
          have l1z60 : (Int32.toInt z60) < 0 ↔ (Int64.toInt z6) < (Int64.toInt y1) := by rw [← ez60]; exact lgI1 z6 y1
          have l2z60 : 0 < (Int32.toInt z60) ↔ (Int64.toInt y1) < (Int64.toInt z6) := by rw [← ez60]; exact lgI2 z6 y1
          refine r_lcmp 43 z60 C dX1_takeDict_43 ez60 ?_
          refine r_if_ge 44 57 C dX1_takeDict_44 (by decide) (fun c61 => ?_) (fun c61 => ?_)
          · skip
            have k62 : 0 ≤ (Int32.toInt z60) := (fa_le 0 z60).mp c61
            refine r_aload_n 57 1 C dX1_takeDict_57 rfl ?_
            refine r_aload_n 58 1 C dX1_takeDict_58 rfl ?_
            refine r_get 59 C dX1_takeDict_59 (k := 0) 0 rfl rfl hiX1 (by decide) rfl (mg 1 rfl) (Or.inl rfl) rfl ?_
            refine r_callVi 62 C dX1_takeDict_62 [.ref h0] [(h1, .inr (2, [.ref h3, .int z10, .int z11, .ref h4, .ref h5, .ref h6]))] [(h0, .inr (1, [.ref h1, .ref h8, .ref h2, .int z5, .long z6, .long y1, .int x1, .int x2, .long y4, .long y5])), (h2, .inr (4, [.ref h7, .int x5])), (h3, .inl (gI g, 48, .inl f7)), (h5, .inl (gI g, 6, .inl f8)), (h6, .inl (gI g, 6, .inl f9)), (h7, .inl (gB g, 1500, .inl fn4)), (h4, .inl (gI g, 6, .inl f12))] (fun sz => c62_X2_isBetween l g h1 h3 z10 z11 h4 h5 h6 ⟨i20a, i20b⟩ ⟨i21a, i21b⟩ sz) gX1_takeDict_X2_isBetween rfl ⟨rfl, rfl⟩ 0 (by decide) ⟨Nat.le_of_ble_eq_true rfl, Nat.le_of_ble_eq_true rfl⟩ 6 rfl rfl [6] [0, 1, 2, 3, 4, 5, 7] rfl rfl (by decide) (by decide) (by decide) rfl rfl (Nat.le_of_ble_eq_true rfl) ⟨Nat.le_of_ble_eq_true rfl, Nat.le_of_ble_eq_true rfl⟩ (fun r63 _ w64 => ?_)
            refine r_ws [(h0, .inr (1, [.ref h1, .ref h8, .ref h2, .int z5, .long z6, .long y1, .int x1, .int x2, .long y4, .long y5])), (h2, .inr (4, [.ref h7, .int x5])), (h3, .inl (gI g, 48, .inl f7)), (h5, .inl (gI g, 6, .inl f8)), (h6, .inl (gI g, 6, .inl f9)), (h7, .inl (gB g, 1500, .inl fn4)), (h4, .inl (gI g, 6, .inl f12)), (h1, .inr (2, [.ref h3, .int z10, .int z11, .ref h4, .ref h5, .ref h6]))] rfl ?_
            have p65 : 0 ≤ (Int32.toInt r63) := w64.1
            have p66 : (Int32.toInt r63) ≤ 1 := w64.2.1
            have p67 : (((Int32.toInt r63) = 1 ∧ (Int32.toInt z10) = 0) ∨ ((Int32.toInt r63) = 0 ∧ ¬ ((Int32.toInt z10) = 0))) := w64.2.2
            refine r_callVv 65 C dX1_takeDict_65 [] [(h0, .inr (1, [.ref h1, .ref h8, .ref h2, .int z5, .long z6, .long y1, .int x1, .int x2, .long y4, .long y5]))] [(h2, .inr (4, [.ref h7, .int x5])), (h3, .inl (gI g, 48, .inl f7)), (h5, .inl (gI g, 6, .inl f8)), (h6, .inl (gI g, 6, .inl f9)), (h7, .inl (gB g, 1500, .inl fn4)), (h4, .inl (gI g, 6, .inl f12)), (h1, .inr (2, [.ref h3, .int z10, .int z11, .ref h4, .ref h5, .ref h6]))] (fun sz => c53_X1_want l g h0 r63 h1 h8 h2 z5 z6 y1 x1 x2 y4 y5 ⟨p65, p66⟩ ⟨i18a, i18b⟩ ⟨i19a, i19b⟩ i_x1 i_x2 i_y4 i_y5 sz) gX1_takeDict_X1_want rfl ⟨rfl, rfl⟩ 1 (by decide) ⟨Nat.le_of_ble_eq_true rfl, Nat.le_of_ble_eq_true rfl⟩ 0 rfl rfl [0] [1, 2, 3, 4, 5, 6, 7] rfl rfl (by decide) (by decide) (by decide) rfl rfl (Nat.le_of_ble_eq_true rfl) ⟨Nat.le_of_ble_eq_true rfl, Nat.le_of_ble_eq_true rfl⟩ (fun  z68 w69 => ?_)
            refine r_ws [(h2, .inr (4, [.ref h7, .int x5])), (h3, .inl (gI g, 48, .inl f7)), (h5, .inl (gI g, 6, .inl f8)), (h6, .inl (gI g, 6, .inl f9)), (h7, .inl (gB g, 1500, .inl fn4)), (h4, .inl (gI g, 6, .inl f12)), (h1, .inr (2, [.ref h3, .int z10, .int z11, .ref h4, .ref h5, .ref h6])), (h0, .inr (1, [.ref h1, .ref h8, .ref h2, .int z68, .long z6, .long y1, .int x1, .int x2, .long y4, .long y5]))] rfl ?_
            have p70 : 0 ≤ (Int32.toInt z68) := w69.1
            have p71 : (Int32.toInt z68) ≤ 2 := w69.2.1
            have p72 : WNT (Int32.toInt r63) (Int32.toInt z5) (Int32.toInt z68) := w69.2.2.1
            have p73 : (((Int32.toInt r63) = 1 ∧ (Int32.toInt z68) = (Int32.toInt z5)) ∨ ((Int32.toInt r63) = 0 ∧ 1 ≤ (Int32.toInt z68))) := w69.2.2.2
            rcases p73 with ⟨k74, k75⟩ | p73
            · skip
              refine r_aload_n 68 1 C dX1_takeDict_68 rfl ?_
              refine r_ldc2 69 9223372036854775807 C dX1_takeDict_69 (mg 5 rfl) ?_
              refine r_put 72 C dX1_takeDict_72 (k := 5) 7 rfl rfl hiX1 tyX1 tyX1_ok nmX1 (by decide) rfl (mg 3 rfl) (Or.inl rfl) rfl rfl rfl rfl (Nat.le_of_ble_eq_true rfl) [(h2, .inr (4, [.ref h7, .int x5])), (h3, .inl (gI g, 48, .inl f7)), (h5, .inl (gI g, 6, .inl f8)), (h6, .inl (gI g, 6, .inl f9)), (h7, .inl (gB g, 1500, .inl fn4)), (h4, .inl (gI g, 6, .inl f12)), (h1, .inr (2, [.ref h3, .int z10, .int z11, .ref h4, .ref h5, .ref h6])), (h0, .inr (1, [.ref h1, .ref h8, .ref h2, .int z68, .long z6, .long 9223372036854775807, .int x1, .int x2, .long y4, .long y5]))] rfl ?_
              exact r_vret 75 Rt dX1_takeDict_75 (z68, z6, z10, z11, f7, f12, f8, f9) (show 0 ≤ (Int32.toInt z68) ∧ (Int32.toInt z68) ≤ 2 ∧ -8589934592 ≤ (Int64.toInt z6) ∧ (Int64.toInt z6) ≤ 8589934592 ∧ 0 ≤ (Int32.toInt z10) ∧ (Int32.toInt z10) ≤ 48 ∧ 0 ≤ (Int32.toInt z11) ∧ (Int32.toInt z11) ≤ 1 ∧ SEQ (Int32.toInt x0) (Int32.toInt z68) (DICB (GB fn4 (Int32.toInt x5)) (Int32.toInt x5) (Int64.toInt y0) (Int64.toInt y1)) (fun S => S = (SC f12 f8 f9)) from ⟨(show _ ∧ _ from ⟨p70, p71⟩).1, (show _ ∧ _ from ⟨p70, p71⟩).2, (show _ ∧ _ from ⟨i19a, i19b⟩).1, (show _ ∧ _ from ⟨i19a, i19b⟩).2, (show _ ∧ _ from ⟨i20a, i20b⟩).1, (show _ ∧ _ from ⟨i20a, i20b⟩).2, (show _ ∧ _ from ⟨i21a, i21b⟩).1, (show _ ∧ _ from ⟨i21a, i21b⟩).2, (by exact dict_end (show CND ((Int64.toInt y1) ≤ (Int32.toInt x5) ∨ (Int64.toInt y1) ≤ (Int64.toInt y0)) (LPQ (Int32.toInt x0) (Int32.toInt z5) (DIC (GB fn4 (Int32.toInt x5)) (Int64.toInt y0) (Int64.toInt y1)) (DCT (GB fn4 (Int32.toInt x5)) (Int64.toInt y1) (Int64.toInt z6) (Int32.toInt z10) (NZ (Int32.toInt z10) 0 (f7 0)) (NZ (Int32.toInt z10) 1 (f7 1)) (Int32.toInt z11) (SC f12 f8 f9)) True) by assumption) p72 (by omega) (by omega) (by omega) (by omega))⟩) [7, 6, 0, 1, 5, 2, 3, 4] (by decide) rfl (Nat.le_of_ble_eq_true rfl) (Nat.le_of_ble_eq_true rfl)
            obtain ⟨k76, k77⟩ := p73
            refine r_aload_n 68 1 C dX1_takeDict_68 rfl ?_
            refine r_ldc2 69 9223372036854775807 C dX1_takeDict_69 (mg 5 rfl) ?_
            refine r_put 72 C dX1_takeDict_72 (k := 5) 7 rfl rfl hiX1 tyX1 tyX1_ok nmX1 (by decide) rfl (mg 3 rfl) (Or.inl rfl) rfl rfl rfl rfl (Nat.le_of_ble_eq_true rfl) [(h2, .inr (4, [.ref h7, .int x5])), (h3, .inl (gI g, 48, .inl f7)), (h5, .inl (gI g, 6, .inl f8)), (h6, .inl (gI g, 6, .inl f9)), (h7, .inl (gB g, 1500, .inl fn4)), (h4, .inl (gI g, 6, .inl f12)), (h1, .inr (2, [.ref h3, .int z10, .int z11, .ref h4, .ref h5, .ref h6])), (h0, .inr (1, [.ref h1, .ref h8, .ref h2, .int z68, .long z6, .long 9223372036854775807, .int x1, .int x2, .long y4, .long y5]))] rfl ?_
            exact r_vret 75 Rt dX1_takeDict_75 (z68, z6, z10, z11, f7, f12, f8, f9) (show 0 ≤ (Int32.toInt z68) ∧ (Int32.toInt z68) ≤ 2 ∧ -8589934592 ≤ (Int64.toInt z6) ∧ (Int64.toInt z6) ≤ 8589934592 ∧ 0 ≤ (Int32.toInt z10) ∧ (Int32.toInt z10) ≤ 48 ∧ 0 ≤ (Int32.toInt z11) ∧ (Int32.toInt z11) ≤ 1 ∧ SEQ (Int32.toInt x0) (Int32.toInt z68) (DICB (GB fn4 (Int32.toInt x5)) (Int32.toInt x5) (Int64.toInt y0) (Int64.toInt y1)) (fun S => S = (SC f12 f8 f9)) from ⟨(show _ ∧ _ from ⟨p70, p71⟩).1, (show _ ∧ _ from ⟨p70, p71⟩).2, (show _ ∧ _ from ⟨i19a, i19b⟩).1, (show _ ∧ _ from ⟨i19a, i19b⟩).2, (show _ ∧ _ from ⟨i20a, i20b⟩).1, (show _ ∧ _ from ⟨i20a, i20b⟩).2, (show _ ∧ _ from ⟨i21a, i21b⟩).1, (show _ ∧ _ from ⟨i21a, i21b⟩).2, (by exact dict_end (show CND ((Int64.toInt y1) ≤ (Int32.toInt x5) ∨ (Int64.toInt y1) ≤ (Int64.toInt y0)) (LPQ (Int32.toInt x0) (Int32.toInt z5) (DIC (GB fn4 (Int32.toInt x5)) (Int64.toInt y0) (Int64.toInt y1)) (DCT (GB fn4 (Int32.toInt x5)) (Int64.toInt y1) (Int64.toInt z6) (Int32.toInt z10) (NZ (Int32.toInt z10) 0 (f7 0)) (NZ (Int32.toInt z10) 1 (f7 1)) (Int32.toInt z11) (SC f12 f8 f9)) True) by assumption) p72 (by omega) (by omega) (by omega) (by omega))⟩) [7, 6, 0, 1, 5, 2, 3, 4] (by decide) rfl (Nat.le_of_ble_eq_true rfl) (Nat.le_of_ble_eq_true rfl)
          · skip
            have k78 : ¬ (0 ≤ (Int32.toInt z60)) := fun h_9 => c61 ((fa_le 0 z60).mpr h_9)
            refine r_aload_n 47 1 C dX1_takeDict_47 rfl ?_
            refine r_callVv 48 C dX1_takeDict_48 [] [(h0, .inr (1, [.ref h1, .ref h8, .ref h2, .int z5, .long z6, .long y1, .int x1, .int x2, .long y4, .long y5])), (h1, .inr (2, [.ref h3, .int z10, .int z11, .ref h4, .ref h5, .ref h6])), (h2, .inr (4, [.ref h7, .int x5])), (h3, .inl (gI g, 48, .inl f7)), (h4, .inl (gI g, 6, .inl f12)), (h5, .inl (gI g, 6, .inl f8)), (h6, .inl (gI g, 6, .inl f9)), (h7, .inl (gB g, 1500, .inl fn4))] [] (fun sz => c72_X1_takeOperandOrOperator l g h0 h1 h2 h3 h4 h5 h6 h7 h8 z5 z6 y1 x1 x2 y4 y5 z10 z11 x5 f7 f12 f8 f9 fn4 ⟨i18a, i18b⟩ ⟨i19a, i19b⟩ i_x1 i_x2 i_y4 i_y5 ⟨i20a, i20b⟩ ⟨i21a, i21b⟩ i_x5 sz) gX1_takeDict_X1_takeOperandOrOperator rfl ⟨rfl, rfl⟩ 0 (by decide) ⟨Nat.le_of_ble_eq_true rfl, Nat.le_of_ble_eq_true rfl⟩ 0 rfl rfl [0, 6, 1, 2, 7, 3, 4, 5] [] rfl rfl (by decide) (by decide) (by decide) rfl rfl (Nat.le_of_ble_eq_true rfl) ⟨Nat.le_of_ble_eq_true rfl, Nat.le_of_ble_eq_true rfl⟩ (fun  u88 w87 => ?_)
            obtain ⟨z79, z80, z81, z82, f83, f84, f85, f86⟩ := u88
            refine r_ws [(h0, .inr (1, [.ref h1, .ref h8, .ref h2, .int z79, .long z80, .long y1, .int x1, .int x2, .long y4, .long y5])), (h1, .inr (2, [.ref h3, .int z81, .int z82, .ref h4, .ref h5, .ref h6])), (h2, .inr (4, [.ref h7, .int x5])), (h3, .inl (gI g, 48, .inl f83)), (h4, .inl (gI g, 6, .inl f84)), (h5, .inl (gI g, 6, .inl f85)), (h6, .inl (gI g, 6, .inl f86)), (h7, .inl (gB g, 1500, .inl fn4))] rfl ?_
            have p89 : 0 ≤ (Int32.toInt z79) := w87.1
            have p90 : (Int32.toInt z79) ≤ 2 := w87.2.1
            have p91 : -8589934592 ≤ (Int64.toInt z80) := w87.2.2.1
            have p92 : (Int64.toInt z80) ≤ 8589934592 := w87.2.2.2.1
            have p93 : 0 ≤ (Int32.toInt z81) := w87.2.2.2.2.1
            have p94 : (Int32.toInt z81) ≤ 48 := w87.2.2.2.2.2.1
            have p95 : 0 ≤ (Int32.toInt z82) := w87.2.2.2.2.2.2.1
            have p96 : (Int32.toInt z82) ≤ 1 := w87.2.2.2.2.2.2.2.1
            have p97 : CND ((Int64.toInt y1) ≤ (Int32.toInt x5) ∧ 0 ≤ (Int64.toInt z6) ∧ (Int64.toInt z6) < (Int64.toInt y1)) (SEQ (Int32.toInt z5) (Int32.toInt z79) (DST (GB fn4 (Int32.toInt x5)) (Int64.toInt y1) (Int64.toInt z6) (Int32.toInt z10) (NZ (Int32.toInt z10) 0 (f7 0)) (NZ (Int32.toInt z10) 1 (f7 1)) (Int32.toInt z11) (SC f12 f8 f9)) (fun s => s = ((Int64.toInt z80), (Int32.toInt z81), (NZ (Int32.toInt z81) 0 (f83 0)), (NZ (Int32.toInt z81) 1 (f83 1)), (Int32.toInt z82), (SC f84 f85 f86)))) := w87.2.2.2.2.2.2.2.2.1
            have p98 : (¬ ((Int32.toInt z79) = 0) ∨ ((Int32.toInt z5) = 0 ∧ (Int64.toInt z6) < (Int64.toInt z80) ∧ (Int64.toInt z80) ≤ (Int32.toInt x5) ∧ 0 ≤ (Int64.toInt z6))) := w87.2.2.2.2.2.2.2.2.2
            obtain ⟨z99, ez99⟩ : ∃ z_9, z4 + Int32.ofInt 1 = z_9 := ⟨_, rfl⟩
            have tz99 : (Int32.toInt z99) = (Int32.toInt z4) + 1 := by rw [← ez99]; exact fb_addIv (a := 0) (b := 1501) (c := 1) (d := 1) ⟨i17a, i17b⟩ ⟨by decide, by decide⟩ (by decide) (by decide)
            refine r_iinc 51 0 z99 C dX1_takeDict_51 rfl ez99 [(5, .int z99), (0, .ref h0), (1, .long y0), (3, .long y1)] (by decide) rfl ?_
            refine r_goto 54 20 C dX1_takeDict_54 (by decide) ?_
            refine r_pick [(h0, .inr (1, [.ref h1, .ref h8, .ref h2, .int z79, .long z80, .long y1, .int x1, .int x2, .long y4, .long y5])), (h2, .inr (4, [.ref h7, .int x5])), (h3, .inl (gI g, 48, .inl f83)), (h5, .inl (gI g, 6, .inl f85)), (h6, .inl (gI g, 6, .inl f86)), (h7, .inl (gB g, 1500, .inl fn4)), (h1, .inr (2, [.ref h3, .int z81, .int z82, .ref h4, .ref h5, .ref h6])), (h4, .inl (gI g, 6, .inl f84))] [0, 2, 3, 5, 6, 7, 1, 4] (by decide) rfl ?_
            exact ih15 z99 z79 z80 f83 f85 f86 z81 z82 f84 ⟨by omega, by omega⟩ ⟨p89, p90⟩ ⟨p91, p92⟩ ⟨p93, p94⟩ ⟨p95, p96⟩ (by show (¬ ((Int32.toInt z79) = 0) ∨ ((Int32.toInt x0) = 0 ∧ 0 ≤ (Int64.toInt z80) ∧ (Int32.toInt z99) + (Int64.toInt y0) ≤ (Int64.toInt z80) ∧ (((Int64.toInt z80) = (Int64.toInt y0) ∧ (Int32.toInt z99) = 0) ∨ (Int64.toInt z80) ≤ (Int32.toInt x5)))); omega) (show CND ((Int64.toInt y1) ≤ (Int32.toInt x5) ∨ (Int64.toInt y1) ≤ (Int64.toInt y0)) (LPQ (Int32.toInt x0) (Int32.toInt z79) (DIC (GB fn4 (Int32.toInt x5)) (Int64.toInt y0) (Int64.toInt y1)) (DCT (GB fn4 (Int32.toInt x5)) (Int64.toInt y1) (Int64.toInt z80) (Int32.toInt z81) (NZ (Int32.toInt z81) 0 (f83 0)) (NZ (Int32.toInt z81) 1 (f83 1)) (Int32.toInt z82) (SC f84 f85 f86)) True) from fun h_7 => dct_step (by omega) (by omega) ((show CND ((Int64.toInt y1) ≤ (Int32.toInt x5) ∨ (Int64.toInt y1) ≤ (Int64.toInt y0)) (LPQ (Int32.toInt x0) (Int32.toInt z5) (DIC (GB fn4 (Int32.toInt x5)) (Int64.toInt y0) (Int64.toInt y1)) (DCT (GB fn4 (Int32.toInt x5)) (Int64.toInt y1) (Int64.toInt z6) (Int32.toInt z10) (NZ (Int32.toInt z10) 0 (f7 0)) (NZ (Int32.toInt z10) 1 (f7 1)) (Int32.toInt z11) (SC f12 f8 f9)) True) by assumption) h_7) (p97 ⟨by omega, by omega, by omega⟩)) (by omega)
  exact lp14 _ 0 x0 y0 fn0 fn2 fn3 0 0 f1 (by decide) i_x0 i_y0 (by decide) (by decide) (by show (¬ ((Int32.toInt x0) = 0) ∨ ((Int32.toInt x0) = 0 ∧ 0 ≤ (Int64.toInt y0) ∧ (0 : Int) + (Int64.toInt y0) ≤ (Int64.toInt y0) ∧ (((Int64.toInt y0) = (Int64.toInt y0) ∧ (0 : Int) = 0) ∨ (Int64.toInt y0) ≤ (Int32.toInt x5)))); omega) (show CND ((Int64.toInt y1) ≤ (Int32.toInt x5) ∨ (Int64.toInt y1) ≤ (Int64.toInt y0)) (LPQ (Int32.toInt x0) (Int32.toInt x0) (DIC (GB fn4 (Int32.toInt x5)) (Int64.toInt y0) (Int64.toInt y1)) (DCT (GB fn4 (Int32.toInt x5)) (Int64.toInt y1) (Int64.toInt y0) (0 : Int) (NZ (0 : Int) 0 (fn0 0)) (NZ (0 : Int) 1 (fn0 1)) (0 : Int) (SC f1 fn2 fn3)) True) from fun _ => dct_0 p3) (Nat.lt_succ_self _)
set_option maxHeartbeats 4000000 in
set_option maxRecDepth 100000 in
theorem c74_X2_slotOf (l : Launch) (g : GD) (sz : Nat) : Met l yX2_slotOf wsX2_slotOf ({ frames := 0, cells := 0, slots := 0, locals := 0 }) (va_Pc [.int 17] (PW g [] sz)) (va_Qi (fun (r : Int32) (_ : Unit) => r = 0) (BW g (va_A [] sz) (fun _ : Unit => [])) (va_A [] sz)) 0 0 (va_A [] sz) := by
  refine met_i RX2 (by decide) rfl rfl (Nat.le_of_ble_eq_true rfl) [(0, .int 17)] rfl ?_
  intro p e s m args below meth c A Q C hnm Rt
  refine r_iload_n 0 0 C dX2_slotOf_0 rfl ?_
  refine r_lookup 1 60 (off := 59) C dX2_slotOf_1 (by decide) (by decide) (by decide) ?_
  refine r_iconst 60 0 C dX2_slotOf_60 (by decide) ?_
  exact r_iret 61 Rt dX2_slotOf_61 () (show 0 = 0 from (by ((repeat' apply And.intro) <;> first | trivial | rfl | assumption | omega | decide | exact Or.inl rfl | exact Or.inr (Or.inl rfl) | exact Or.inr (Or.inr rfl)))) [] (by decide) rfl (Nat.le_of_ble_eq_true rfl) (Nat.le_of_ble_eq_true rfl)
set_option maxHeartbeats 4000000 in
set_option maxRecDepth 100000 in
theorem c75_X2_isTold (l : Launch) (g : GD) (h0 : Nat) (h1 : Nat) (h2 : Nat) (x0 : Int32) (x1 : Int32) (h3 : Nat) (h4 : Nat) (fn0 : Nat → Int32) (i_x0 : (0 ≤ (Int32.toInt x0) ∧ (Int32.toInt x0) ≤ 48)) (i_x1 : (0 ≤ (Int32.toInt x1) ∧ (Int32.toInt x1) ≤ 1)) (sz : Nat) : Met l yX2_isTold wsX2_isTold ({ frames := 1, cells := 0, slots := 0, locals := 20 }) (va_Pc [.ref h0, .int 17] (PW g [(h0, .inr (2, [.ref h2, .int x0, .int x1, .ref h1, .ref h3, .ref h4])), (h1, .inl (gI g, 6, .inl fn0))] sz)) (va_Qi (fun (r : Int32) (_ : Unit) => 0 ≤ (Int32.toInt r) ∧ (Int32.toInt r) ≤ 1 ∧ TOL (Int32.toInt r) (Int32.toInt (fn0 (Int32.toNatClampNeg 0)))) (BW g (va_A [(h0, .inr (2, [.ref h2, .int x0, .int x1, .ref h1, .ref h3, .ref h4])), (h1, .inl (gI g, 6, .inl fn0))] sz) (fun _ : Unit => [(h0, .inr (2, [.ref h2, .int x0, .int x1, .ref h1, .ref h3, .ref h4])), (h1, .inl (gI g, 6, .inl fn0))])) (va_A [(h0, .inr (2, [.ref h2, .int x0, .int x1, .ref h1, .ref h3, .ref h4])), (h1, .inl (gI g, 6, .inl fn0))] sz)) 0 0 (va_A [(h0, .inr (2, [.ref h2, .int x0, .int x1, .ref h1, .ref h3, .ref h4])), (h1, .inl (gI g, 6, .inl fn0))] sz) := by
  refine met_z RX2 (by decide) rfl rfl (Nat.le_of_ble_eq_true rfl) [(0, .ref h0), (1, .int 17)] rfl ?_
  intro p e s m args below meth c A Q C hnm Rt
  have hiX2 : ∀ w ∈ wsX20, w ∈ wsX2_isTold := fun w h => List.mem_cons_of_mem _ (List.mem_append_right _ (h))
  refine r_iload_n 0 1 C dX2_isTold_0 rfl ?_
  refine r_callSi 1 C dX2_isTold_1 [] [] [(h0, .inr (2, [.ref h2, .int x0, .int x1, .ref h1, .ref h3, .ref h4])), (h1, .inl (gI g, 6, .inl fn0))] (fun sz => c74_X2_slotOf l g   sz) gX2_isTold_X2_slotOf rfl ⟨rfl, rfl⟩ 1 (by decide) ⟨Nat.le_of_ble_eq_true rfl, Nat.le_of_ble_eq_true rfl⟩ [] [0, 1] rfl rfl (by decide) (by decide) (by decide) rfl rfl (Nat.le_of_ble_eq_true rfl) ⟨Nat.le_of_ble_eq_true rfl, Nat.le_of_ble_eq_true rfl⟩ (fun r1 _ w2 => ?_)
  refine r_ws [(h0, .inr (2, [.ref h2, .int x0, .int x1, .ref h1, .ref h3, .ref h4])), (h1, .inl (gI g, 6, .inl fn0))] rfl ?_
  have p3 : 0 = r1 := (w2).symm
  subst p3
  refine r_istore_n 4 C dX2_isTold_4 [(2, .int 0), (0, .ref h0), (1, .int 17)] (by decide) rfl ?_
  refine r_iload_n 5 0 C dX2_isTold_5 rfl ?_
  refine r_iconst 6 (-1) C dX2_isTold_6 (by decide) ?_
  refine r_icmp_eq_f 7 24 C dX2_isTold_7 (by decide) (by decide) ?_
  refine r_aload_n 10 1 C dX2_isTold_10 rfl ?_
  refine r_get 11 C dX2_isTold_11 (k := 3) 0 rfl rfl hiX2 (by decide) rfl (mg 1 rfl) (Or.inl rfl) rfl ?_
  refine r_iload_n 14 0 C dX2_isTold_14 rfl ?_
  obtain ⟨z4, ez4⟩ : ∃ z_9, fn0 (Int32.toNatClampNeg 0) = z_9 := ⟨_, rfl⟩
  have vz4 : Int32.toInt (fn0 (Int32.toNatClampNeg 0)) = Int32.toInt z4 := congrArg _ ez4
  refine r_iald 15 z4 C dX2_isTold_15 1 rfl (vin (by decide)) ez4 ?_
  have gz4 := fb_rng z4
  refine r_iconst 16 (-1) C dX2_isTold_16 (by decide) ?_
  refine r_icmp_eq 17 24 C dX2_isTold_17 (by decide) (fun c5 => ?_) (fun c5 => ?_)
  · skip
    have k6 : (Int32.toInt z4) = (-1) := (fa_eq z4 (-1)).mp c5
    refine r_iconst 24 0 C dX2_isTold_24 (by decide) ?_
    exact r_zret 25 Rt dX2_isTold_25 (by decide) () (show 0 ≤ (Int32.toInt 0) ∧ (Int32.toInt 0) ≤ 1 ∧ TOL 0 (Int32.toInt (fn0 (Int32.toNatClampNeg 0))) from ⟨(by ((repeat' apply And.intro) <;> first | trivial | rfl | assumption | omega | decide | exact Or.inl rfl | exact Or.inr (Or.inl rfl) | exact Or.inr (Or.inr rfl))), (by ((repeat' apply And.intro) <;> first | trivial | rfl | assumption | omega | decide | exact Or.inl rfl | exact Or.inr (Or.inl rfl) | exact Or.inr (Or.inr rfl))), (by unfold TOL; omega)⟩) [0, 1] (by decide) rfl (Nat.le_of_ble_eq_true rfl) (Nat.le_of_ble_eq_true rfl)
  · skip
    have k7 : ¬ ((Int32.toInt z4) = (-1)) := fun h_9 => c5 ((fa_eq z4 (-1)).mpr h_9)
    refine r_iconst 20 1 C dX2_isTold_20 (by decide) ?_
    refine r_goto 21 25 C dX2_isTold_21 (by decide) ?_
    exact r_zret 25 Rt dX2_isTold_25 (by decide) () (show 0 ≤ (Int32.toInt 1) ∧ (Int32.toInt 1) ≤ 1 ∧ TOL 1 (Int32.toInt (fn0 (Int32.toNatClampNeg 0))) from ⟨(by ((repeat' apply And.intro) <;> first | trivial | rfl | assumption | omega | decide | exact Or.inl rfl | exact Or.inr (Or.inl rfl) | exact Or.inr (Or.inr rfl))), (by ((repeat' apply And.intro) <;> first | trivial | rfl | assumption | omega | decide | exact Or.inl rfl | exact Or.inr (Or.inl rfl) | exact Or.inr (Or.inr rfl))), (by unfold TOL; omega)⟩) [0, 1] (by decide) rfl (Nat.le_of_ble_eq_true rfl) (Nat.le_of_ble_eq_true rfl)
set_option maxHeartbeats 4000000 in
set_option maxRecDepth 100000 in
theorem c76_X2_slotOf (l : Launch) (g : GD) (sz : Nat) : Met l yX2_slotOf wsX2_slotOf ({ frames := 0, cells := 0, slots := 0, locals := 0 }) (va_Pc [.int 18] (PW g [] sz)) (va_Qi (fun (r : Int32) (_ : Unit) => r = 1) (BW g (va_A [] sz) (fun _ : Unit => [])) (va_A [] sz)) 0 0 (va_A [] sz) := by
  refine met_i RX2 (by decide) rfl rfl (Nat.le_of_ble_eq_true rfl) [(0, .int 18)] rfl ?_
  intro p e s m args below meth c A Q C hnm Rt
  refine r_iload_n 0 0 C dX2_slotOf_0 rfl ?_
  refine r_lookup 1 62 (off := 61) C dX2_slotOf_1 (by decide) (by decide) (by decide) ?_
  refine r_iconst 62 1 C dX2_slotOf_62 (by decide) ?_
  exact r_iret 63 Rt dX2_slotOf_63 () (show 1 = 1 from (by ((repeat' apply And.intro) <;> first | trivial | rfl | assumption | omega | decide | exact Or.inl rfl | exact Or.inr (Or.inl rfl) | exact Or.inr (Or.inr rfl)))) [] (by decide) rfl (Nat.le_of_ble_eq_true rfl) (Nat.le_of_ble_eq_true rfl)
set_option maxHeartbeats 4000000 in
set_option maxRecDepth 100000 in
theorem c77_X2_fits (l : Launch) (g : GD) (h0 : Nat) (h1 : Nat) (x0 : Int32) (h2 : Nat) (x1 : Int32) (x2 : Int32) (h3 : Nat) (h4 : Nat) (fn0 : Nat → Int32) (i_x1 : (0 ≤ (Int32.toInt x1) ∧ (Int32.toInt x1) ≤ 48)) (i_x2 : (0 ≤ (Int32.toInt x2) ∧ (Int32.toInt x2) ≤ 1)) (sz : Nat) : Met l yX2_fits wsX2_fits ({ frames := 1, cells := 0, slots := 0, locals := 20 }) (va_Pc [.ref h0, .int 18, .int x0] (PW g [(h0, .inr (2, [.ref h2, .int x1, .int x2, .ref h1, .ref h3, .ref h4])), (h1, .inl (gI g, 6, .inl fn0))] sz)) (va_Qi (fun (r : Int32) (_ : Unit) => 0 ≤ (Int32.toInt r) ∧ (Int32.toInt r) ≤ 1 ∧ FTS (Int32.toInt r) (Int32.toInt (fn0 (Int32.toNatClampNeg 1))) (Int32.toInt x0)) (BW g (va_A [(h0, .inr (2, [.ref h2, .int x1, .int x2, .ref h1, .ref h3, .ref h4])), (h1, .inl (gI g, 6, .inl fn0))] sz) (fun _ : Unit => [(h0, .inr (2, [.ref h2, .int x1, .int x2, .ref h1, .ref h3, .ref h4])), (h1, .inl (gI g, 6, .inl fn0))])) (va_A [(h0, .inr (2, [.ref h2, .int x1, .int x2, .ref h1, .ref h3, .ref h4])), (h1, .inl (gI g, 6, .inl fn0))] sz)) 0 0 (va_A [(h0, .inr (2, [.ref h2, .int x1, .int x2, .ref h1, .ref h3, .ref h4])), (h1, .inl (gI g, 6, .inl fn0))] sz) := by
  refine met_z RX2 (by decide) rfl rfl (Nat.le_of_ble_eq_true rfl) [(0, .ref h0), (1, .int 18), (2, .int x0)] rfl ?_
  intro p e s m args below meth c A Q C hnm Rt
  have gx0 := fb_rng x0
  have hiX2 : ∀ w ∈ wsX20, w ∈ wsX2_fits := fun w h => List.mem_cons_of_mem _ (List.mem_append_right _ (h))
  refine r_iload_n 0 1 C dX2_fits_0 rfl ?_
  refine r_callSi 1 C dX2_fits_1 [] [] [(h0, .inr (2, [.ref h2, .int x1, .int x2, .ref h1, .ref h3, .ref h4])), (h1, .inl (gI g, 6, .inl fn0))] (fun sz => c76_X2_slotOf l g   sz) gX2_fits_X2_slotOf rfl ⟨rfl, rfl⟩ 1 (by decide) ⟨Nat.le_of_ble_eq_true rfl, Nat.le_of_ble_eq_true rfl⟩ [] [0, 1] rfl rfl (by decide) (by decide) (by decide) rfl rfl (Nat.le_of_ble_eq_true rfl) ⟨Nat.le_of_ble_eq_true rfl, Nat.le_of_ble_eq_true rfl⟩ (fun r1 _ w2 => ?_)
  refine r_ws [(h0, .inr (2, [.ref h2, .int x1, .int x2, .ref h1, .ref h3, .ref h4])), (h1, .inl (gI g, 6, .inl fn0))] rfl ?_
  have p3 : 1 = r1 := (w2).symm
  subst p3
  refine r_istore_n 4 C dX2_fits_4 [(3, .int 1), (0, .ref h0), (1, .int 18), (2, .int x0)] (by decide) rfl ?_
  refine r_iload_n 5 0 C dX2_fits_5 rfl ?_
  refine r_iconst 6 (-1) C dX2_fits_6 (by decide) ?_
  refine r_icmp_eq_f 7 30 C dX2_fits_7 (by decide) (by decide) ?_
  refine r_aload_n 10 1 C dX2_fits_10 rfl ?_
  refine r_get 11 C dX2_fits_11 (k := 3) 0 rfl rfl hiX2 (by decide) rfl (mg 1 rfl) (Or.inl rfl) rfl ?_
  refine r_iload_n 14 0 C dX2_fits_14 rfl ?_
  obtain ⟨z4, ez4⟩ : ∃ z_9, fn0 (Int32.toNatClampNeg 1) = z_9 := ⟨_, rfl⟩
  have vz4 : Int32.toInt (fn0 (Int32.toNatClampNeg 1)) = Int32.toInt z4 := congrArg _ ez4
  refine r_iald 15 z4 C dX2_fits_15 1 rfl (vin (by decide)) ez4 ?_
  have gz4 := fb_rng z4
  refine r_iconst 16 (-1) C dX2_fits_16 (by decide) ?_
  refine r_icmp_eq 17 30 C dX2_fits_17 (by decide) (fun c5 => ?_) (fun c5 => ?_)
  · skip
    have k6 : (Int32.toInt z4) = (-1) := (fa_eq z4 (-1)).mp c5
    refine r_iconst 30 1 C dX2_fits_30 (by decide) ?_
    refine r_goto 31 35 C dX2_fits_31 (by decide) ?_
    exact r_zret 35 Rt dX2_fits_35 (by decide) () (show 0 ≤ (Int32.toInt 1) ∧ (Int32.toInt 1) ≤ 1 ∧ FTS 1 (Int32.toInt (fn0 (Int32.toNatClampNeg 1))) (Int32.toInt x0) from ⟨(by ((repeat' apply And.intro) <;> first | trivial | rfl | assumption | omega | decide | exact Or.inl rfl | exact Or.inr (Or.inl rfl) | exact Or.inr (Or.inr rfl))), (by ((repeat' apply And.intro) <;> first | trivial | rfl | assumption | omega | decide | exact Or.inl rfl | exact Or.inr (Or.inl rfl) | exact Or.inr (Or.inr rfl))), (by unfold FTS; omega)⟩) [0, 1] (by decide) rfl (Nat.le_of_ble_eq_true rfl) (Nat.le_of_ble_eq_true rfl)
  · skip
    have k7 : ¬ ((Int32.toInt z4) = (-1)) := fun h_9 => c5 ((fa_eq z4 (-1)).mpr h_9)
    refine r_aload_n 20 1 C dX2_fits_20 rfl ?_
    refine r_get 21 C dX2_fits_21 (k := 3) 0 rfl rfl hiX2 (by decide) rfl (mg 1 rfl) (Or.inl rfl) rfl ?_
    refine r_iload_n 24 0 C dX2_fits_24 rfl ?_
    obtain ⟨z8, ez8⟩ : ∃ z_9, fn0 (Int32.toNatClampNeg 1) = z_9 := ⟨_, rfl⟩
    have vz8 : Int32.toInt (fn0 (Int32.toNatClampNeg 1)) = Int32.toInt z8 := congrArg _ ez8
    refine r_iald 25 z8 C dX2_fits_25 1 rfl (vin (by decide)) ez8 ?_
    have gz8 := fb_rng z8
    refine r_iload_n 26 3 C dX2_fits_26 rfl ?_
    refine r_icmp_ne 27 34 C dX2_fits_27 (by decide) (fun c9 => ?_) (fun c9 => ?_)
    · skip
      have k10 : ¬ ((Int32.toInt z8) = (Int32.toInt x0)) := fun h_9 => c9 ((fa_eq z8 x0).mpr h_9)
      refine r_iconst 34 0 C dX2_fits_34 (by decide) ?_
      exact r_zret 35 Rt dX2_fits_35 (by decide) () (show 0 ≤ (Int32.toInt 0) ∧ (Int32.toInt 0) ≤ 1 ∧ FTS 0 (Int32.toInt (fn0 (Int32.toNatClampNeg 1))) (Int32.toInt x0) from ⟨(by ((repeat' apply And.intro) <;> first | trivial | rfl | assumption | omega | decide | exact Or.inl rfl | exact Or.inr (Or.inl rfl) | exact Or.inr (Or.inr rfl))), (by ((repeat' apply And.intro) <;> first | trivial | rfl | assumption | omega | decide | exact Or.inl rfl | exact Or.inr (Or.inl rfl) | exact Or.inr (Or.inr rfl))), (by unfold FTS; omega)⟩) [0, 1] (by decide) rfl (Nat.le_of_ble_eq_true rfl) (Nat.le_of_ble_eq_true rfl)
    · skip
      have k11 : (Int32.toInt z8) = (Int32.toInt x0) := (fa_eq z8 x0).mp c9
      refine r_iconst 30 1 C dX2_fits_30 (by decide) ?_
      refine r_goto 31 35 C dX2_fits_31 (by decide) ?_
      exact r_zret 35 Rt dX2_fits_35 (by decide) () (show 0 ≤ (Int32.toInt 1) ∧ (Int32.toInt 1) ≤ 1 ∧ FTS 1 (Int32.toInt (fn0 (Int32.toNatClampNeg 1))) (Int32.toInt x0) from ⟨(by ((repeat' apply And.intro) <;> first | trivial | rfl | assumption | omega | decide | exact Or.inl rfl | exact Or.inr (Or.inl rfl) | exact Or.inr (Or.inr rfl))), (by ((repeat' apply And.intro) <;> first | trivial | rfl | assumption | omega | decide | exact Or.inl rfl | exact Or.inr (Or.inl rfl) | exact Or.inr (Or.inr rfl))), (by unfold FTS; omega)⟩) [0, 1] (by decide) rfl (Nat.le_of_ble_eq_true rfl) (Nat.le_of_ble_eq_true rfl)
set_option maxHeartbeats 4000000 in
set_option maxRecDepth 100000 in
theorem c78_X2_slotOf (l : Launch) (g : GD) (sz : Nat) : Met l yX2_slotOf wsX2_slotOf ({ frames := 0, cells := 0, slots := 0, locals := 0 }) (va_Pc [.int 262] (PW g [] sz)) (va_Qi (fun (r : Int32) (_ : Unit) => r = 2) (BW g (va_A [] sz) (fun _ : Unit => [])) (va_A [] sz)) 0 0 (va_A [] sz) := by
  refine met_i RX2 (by decide) rfl rfl (Nat.le_of_ble_eq_true rfl) [(0, .int 262)] rfl ?_
  intro p e s m args below meth c A Q C hnm Rt
  refine r_iload_n 0 0 C dX2_slotOf_0 rfl ?_
  refine r_lookup 1 64 (off := 63) C dX2_slotOf_1 (by decide) (by decide) (by decide) ?_
  refine r_iconst 64 2 C dX2_slotOf_64 (by decide) ?_
  exact r_iret 65 Rt dX2_slotOf_65 () (show 2 = 2 from (by ((repeat' apply And.intro) <;> first | trivial | rfl | assumption | omega | decide | exact Or.inl rfl | exact Or.inr (Or.inl rfl) | exact Or.inr (Or.inr rfl)))) [] (by decide) rfl (Nat.le_of_ble_eq_true rfl) (Nat.le_of_ble_eq_true rfl)
set_option maxHeartbeats 4000000 in
set_option maxRecDepth 100000 in
theorem c79_X2_fits (l : Launch) (g : GD) (h0 : Nat) (h1 : Nat) (x0 : Int32) (h2 : Nat) (x1 : Int32) (x2 : Int32) (h3 : Nat) (h4 : Nat) (fn0 : Nat → Int32) (i_x1 : (0 ≤ (Int32.toInt x1) ∧ (Int32.toInt x1) ≤ 48)) (i_x2 : (0 ≤ (Int32.toInt x2) ∧ (Int32.toInt x2) ≤ 1)) (sz : Nat) : Met l yX2_fits wsX2_fits ({ frames := 1, cells := 0, slots := 0, locals := 20 }) (va_Pc [.ref h0, .int 262, .int x0] (PW g [(h0, .inr (2, [.ref h2, .int x1, .int x2, .ref h1, .ref h3, .ref h4])), (h1, .inl (gI g, 6, .inl fn0))] sz)) (va_Qi (fun (r : Int32) (_ : Unit) => 0 ≤ (Int32.toInt r) ∧ (Int32.toInt r) ≤ 1 ∧ FTS (Int32.toInt r) (Int32.toInt (fn0 (Int32.toNatClampNeg 2))) (Int32.toInt x0)) (BW g (va_A [(h0, .inr (2, [.ref h2, .int x1, .int x2, .ref h1, .ref h3, .ref h4])), (h1, .inl (gI g, 6, .inl fn0))] sz) (fun _ : Unit => [(h0, .inr (2, [.ref h2, .int x1, .int x2, .ref h1, .ref h3, .ref h4])), (h1, .inl (gI g, 6, .inl fn0))])) (va_A [(h0, .inr (2, [.ref h2, .int x1, .int x2, .ref h1, .ref h3, .ref h4])), (h1, .inl (gI g, 6, .inl fn0))] sz)) 0 0 (va_A [(h0, .inr (2, [.ref h2, .int x1, .int x2, .ref h1, .ref h3, .ref h4])), (h1, .inl (gI g, 6, .inl fn0))] sz) := by
  refine met_z RX2 (by decide) rfl rfl (Nat.le_of_ble_eq_true rfl) [(0, .ref h0), (1, .int 262), (2, .int x0)] rfl ?_
  intro p e s m args below meth c A Q C hnm Rt
  have gx0 := fb_rng x0
  have hiX2 : ∀ w ∈ wsX20, w ∈ wsX2_fits := fun w h => List.mem_cons_of_mem _ (List.mem_append_right _ (h))
  refine r_iload_n 0 1 C dX2_fits_0 rfl ?_
  refine r_callSi 1 C dX2_fits_1 [] [] [(h0, .inr (2, [.ref h2, .int x1, .int x2, .ref h1, .ref h3, .ref h4])), (h1, .inl (gI g, 6, .inl fn0))] (fun sz => c78_X2_slotOf l g   sz) gX2_fits_X2_slotOf rfl ⟨rfl, rfl⟩ 1 (by decide) ⟨Nat.le_of_ble_eq_true rfl, Nat.le_of_ble_eq_true rfl⟩ [] [0, 1] rfl rfl (by decide) (by decide) (by decide) rfl rfl (Nat.le_of_ble_eq_true rfl) ⟨Nat.le_of_ble_eq_true rfl, Nat.le_of_ble_eq_true rfl⟩ (fun r1 _ w2 => ?_)
  refine r_ws [(h0, .inr (2, [.ref h2, .int x1, .int x2, .ref h1, .ref h3, .ref h4])), (h1, .inl (gI g, 6, .inl fn0))] rfl ?_
  have p3 : 2 = r1 := (w2).symm
  subst p3
  refine r_istore_n 4 C dX2_fits_4 [(3, .int 2), (0, .ref h0), (1, .int 262), (2, .int x0)] (by decide) rfl ?_
  refine r_iload_n 5 0 C dX2_fits_5 rfl ?_
  refine r_iconst 6 (-1) C dX2_fits_6 (by decide) ?_
  refine r_icmp_eq_f 7 30 C dX2_fits_7 (by decide) (by decide) ?_
  refine r_aload_n 10 1 C dX2_fits_10 rfl ?_
  refine r_get 11 C dX2_fits_11 (k := 3) 0 rfl rfl hiX2 (by decide) rfl (mg 1 rfl) (Or.inl rfl) rfl ?_
  refine r_iload_n 14 0 C dX2_fits_14 rfl ?_
  obtain ⟨z4, ez4⟩ : ∃ z_9, fn0 (Int32.toNatClampNeg 2) = z_9 := ⟨_, rfl⟩
  have vz4 : Int32.toInt (fn0 (Int32.toNatClampNeg 2)) = Int32.toInt z4 := congrArg _ ez4
  refine r_iald 15 z4 C dX2_fits_15 1 rfl (vin (by decide)) ez4 ?_
  have gz4 := fb_rng z4
  refine r_iconst 16 (-1) C dX2_fits_16 (by decide) ?_
  refine r_icmp_eq 17 30 C dX2_fits_17 (by decide) (fun c5 => ?_) (fun c5 => ?_)
  · skip
    have k6 : (Int32.toInt z4) = (-1) := (fa_eq z4 (-1)).mp c5
    refine r_iconst 30 1 C dX2_fits_30 (by decide) ?_
    refine r_goto 31 35 C dX2_fits_31 (by decide) ?_
    exact r_zret 35 Rt dX2_fits_35 (by decide) () (show 0 ≤ (Int32.toInt 1) ∧ (Int32.toInt 1) ≤ 1 ∧ FTS 1 (Int32.toInt (fn0 (Int32.toNatClampNeg 2))) (Int32.toInt x0) from ⟨(by ((repeat' apply And.intro) <;> first | trivial | rfl | assumption | omega | decide | exact Or.inl rfl | exact Or.inr (Or.inl rfl) | exact Or.inr (Or.inr rfl))), (by ((repeat' apply And.intro) <;> first | trivial | rfl | assumption | omega | decide | exact Or.inl rfl | exact Or.inr (Or.inl rfl) | exact Or.inr (Or.inr rfl))), (by unfold FTS; omega)⟩) [0, 1] (by decide) rfl (Nat.le_of_ble_eq_true rfl) (Nat.le_of_ble_eq_true rfl)
  · skip
    have k7 : ¬ ((Int32.toInt z4) = (-1)) := fun h_9 => c5 ((fa_eq z4 (-1)).mpr h_9)
    refine r_aload_n 20 1 C dX2_fits_20 rfl ?_
    refine r_get 21 C dX2_fits_21 (k := 3) 0 rfl rfl hiX2 (by decide) rfl (mg 1 rfl) (Or.inl rfl) rfl ?_
    refine r_iload_n 24 0 C dX2_fits_24 rfl ?_
    obtain ⟨z8, ez8⟩ : ∃ z_9, fn0 (Int32.toNatClampNeg 2) = z_9 := ⟨_, rfl⟩
    have vz8 : Int32.toInt (fn0 (Int32.toNatClampNeg 2)) = Int32.toInt z8 := congrArg _ ez8
    refine r_iald 25 z8 C dX2_fits_25 1 rfl (vin (by decide)) ez8 ?_
    have gz8 := fb_rng z8
    refine r_iload_n 26 3 C dX2_fits_26 rfl ?_
    refine r_icmp_ne 27 34 C dX2_fits_27 (by decide) (fun c9 => ?_) (fun c9 => ?_)
    · skip
      have k10 : ¬ ((Int32.toInt z8) = (Int32.toInt x0)) := fun h_9 => c9 ((fa_eq z8 x0).mpr h_9)
      refine r_iconst 34 0 C dX2_fits_34 (by decide) ?_
      exact r_zret 35 Rt dX2_fits_35 (by decide) () (show 0 ≤ (Int32.toInt 0) ∧ (Int32.toInt 0) ≤ 1 ∧ FTS 0 (Int32.toInt (fn0 (Int32.toNatClampNeg 2))) (Int32.toInt x0) from ⟨(by ((repeat' apply And.intro) <;> first | trivial | rfl | assumption | omega | decide | exact Or.inl rfl | exact Or.inr (Or.inl rfl) | exact Or.inr (Or.inr rfl))), (by ((repeat' apply And.intro) <;> first | trivial | rfl | assumption | omega | decide | exact Or.inl rfl | exact Or.inr (Or.inl rfl) | exact Or.inr (Or.inr rfl))), (by unfold FTS; omega)⟩) [0, 1] (by decide) rfl (Nat.le_of_ble_eq_true rfl) (Nat.le_of_ble_eq_true rfl)
    · skip
      have k11 : (Int32.toInt z8) = (Int32.toInt x0) := (fa_eq z8 x0).mp c9
      refine r_iconst 30 1 C dX2_fits_30 (by decide) ?_
      refine r_goto 31 35 C dX2_fits_31 (by decide) ?_
      exact r_zret 35 Rt dX2_fits_35 (by decide) () (show 0 ≤ (Int32.toInt 1) ∧ (Int32.toInt 1) ≤ 1 ∧ FTS 1 (Int32.toInt (fn0 (Int32.toNatClampNeg 2))) (Int32.toInt x0) from ⟨(by ((repeat' apply And.intro) <;> first | trivial | rfl | assumption | omega | decide | exact Or.inl rfl | exact Or.inr (Or.inl rfl) | exact Or.inr (Or.inr rfl))), (by ((repeat' apply And.intro) <;> first | trivial | rfl | assumption | omega | decide | exact Or.inl rfl | exact Or.inr (Or.inl rfl) | exact Or.inr (Or.inr rfl))), (by unfold FTS; omega)⟩) [0, 1] (by decide) rfl (Nat.le_of_ble_eq_true rfl) (Nat.le_of_ble_eq_true rfl)
set_option maxHeartbeats 4000000 in
set_option maxRecDepth 100000 in
theorem c80_X2_isTold (l : Launch) (g : GD) (h0 : Nat) (h1 : Nat) (h2 : Nat) (x0 : Int32) (x1 : Int32) (h3 : Nat) (h4 : Nat) (fn0 : Nat → Int32) (i_x0 : (0 ≤ (Int32.toInt x0) ∧ (Int32.toInt x0) ≤ 48)) (i_x1 : (0 ≤ (Int32.toInt x1) ∧ (Int32.toInt x1) ≤ 1)) (sz : Nat) : Met l yX2_isTold wsX2_isTold ({ frames := 1, cells := 0, slots := 0, locals := 20 }) (va_Pc [.ref h0, .int 262] (PW g [(h0, .inr (2, [.ref h2, .int x0, .int x1, .ref h1, .ref h3, .ref h4])), (h1, .inl (gI g, 6, .inl fn0))] sz)) (va_Qi (fun (r : Int32) (_ : Unit) => 0 ≤ (Int32.toInt r) ∧ (Int32.toInt r) ≤ 1 ∧ TOL (Int32.toInt r) (Int32.toInt (fn0 (Int32.toNatClampNeg 2)))) (BW g (va_A [(h0, .inr (2, [.ref h2, .int x0, .int x1, .ref h1, .ref h3, .ref h4])), (h1, .inl (gI g, 6, .inl fn0))] sz) (fun _ : Unit => [(h0, .inr (2, [.ref h2, .int x0, .int x1, .ref h1, .ref h3, .ref h4])), (h1, .inl (gI g, 6, .inl fn0))])) (va_A [(h0, .inr (2, [.ref h2, .int x0, .int x1, .ref h1, .ref h3, .ref h4])), (h1, .inl (gI g, 6, .inl fn0))] sz)) 0 0 (va_A [(h0, .inr (2, [.ref h2, .int x0, .int x1, .ref h1, .ref h3, .ref h4])), (h1, .inl (gI g, 6, .inl fn0))] sz) := by
  refine met_z RX2 (by decide) rfl rfl (Nat.le_of_ble_eq_true rfl) [(0, .ref h0), (1, .int 262)] rfl ?_
  intro p e s m args below meth c A Q C hnm Rt
  have hiX2 : ∀ w ∈ wsX20, w ∈ wsX2_isTold := fun w h => List.mem_cons_of_mem _ (List.mem_append_right _ (h))
  refine r_iload_n 0 1 C dX2_isTold_0 rfl ?_
  refine r_callSi 1 C dX2_isTold_1 [] [] [(h0, .inr (2, [.ref h2, .int x0, .int x1, .ref h1, .ref h3, .ref h4])), (h1, .inl (gI g, 6, .inl fn0))] (fun sz => c78_X2_slotOf l g   sz) gX2_isTold_X2_slotOf rfl ⟨rfl, rfl⟩ 1 (by decide) ⟨Nat.le_of_ble_eq_true rfl, Nat.le_of_ble_eq_true rfl⟩ [] [0, 1] rfl rfl (by decide) (by decide) (by decide) rfl rfl (Nat.le_of_ble_eq_true rfl) ⟨Nat.le_of_ble_eq_true rfl, Nat.le_of_ble_eq_true rfl⟩ (fun r1 _ w2 => ?_)
  refine r_ws [(h0, .inr (2, [.ref h2, .int x0, .int x1, .ref h1, .ref h3, .ref h4])), (h1, .inl (gI g, 6, .inl fn0))] rfl ?_
  have p3 : 2 = r1 := (w2).symm
  subst p3
  refine r_istore_n 4 C dX2_isTold_4 [(2, .int 2), (0, .ref h0), (1, .int 262)] (by decide) rfl ?_
  refine r_iload_n 5 0 C dX2_isTold_5 rfl ?_
  refine r_iconst 6 (-1) C dX2_isTold_6 (by decide) ?_
  refine r_icmp_eq_f 7 24 C dX2_isTold_7 (by decide) (by decide) ?_
  refine r_aload_n 10 1 C dX2_isTold_10 rfl ?_
  refine r_get 11 C dX2_isTold_11 (k := 3) 0 rfl rfl hiX2 (by decide) rfl (mg 1 rfl) (Or.inl rfl) rfl ?_
  refine r_iload_n 14 0 C dX2_isTold_14 rfl ?_
  obtain ⟨z4, ez4⟩ : ∃ z_9, fn0 (Int32.toNatClampNeg 2) = z_9 := ⟨_, rfl⟩
  have vz4 : Int32.toInt (fn0 (Int32.toNatClampNeg 2)) = Int32.toInt z4 := congrArg _ ez4
  refine r_iald 15 z4 C dX2_isTold_15 1 rfl (vin (by decide)) ez4 ?_
  have gz4 := fb_rng z4
  refine r_iconst 16 (-1) C dX2_isTold_16 (by decide) ?_
  refine r_icmp_eq 17 24 C dX2_isTold_17 (by decide) (fun c5 => ?_) (fun c5 => ?_)
  · skip
    have k6 : (Int32.toInt z4) = (-1) := (fa_eq z4 (-1)).mp c5
    refine r_iconst 24 0 C dX2_isTold_24 (by decide) ?_
    exact r_zret 25 Rt dX2_isTold_25 (by decide) () (show 0 ≤ (Int32.toInt 0) ∧ (Int32.toInt 0) ≤ 1 ∧ TOL 0 (Int32.toInt (fn0 (Int32.toNatClampNeg 2))) from ⟨(by ((repeat' apply And.intro) <;> first | trivial | rfl | assumption | omega | decide | exact Or.inl rfl | exact Or.inr (Or.inl rfl) | exact Or.inr (Or.inr rfl))), (by ((repeat' apply And.intro) <;> first | trivial | rfl | assumption | omega | decide | exact Or.inl rfl | exact Or.inr (Or.inl rfl) | exact Or.inr (Or.inr rfl))), (by unfold TOL; omega)⟩) [0, 1] (by decide) rfl (Nat.le_of_ble_eq_true rfl) (Nat.le_of_ble_eq_true rfl)
  · skip
    have k7 : ¬ ((Int32.toInt z4) = (-1)) := fun h_9 => c5 ((fa_eq z4 (-1)).mpr h_9)
    refine r_iconst 20 1 C dX2_isTold_20 (by decide) ?_
    refine r_goto 21 25 C dX2_isTold_21 (by decide) ?_
    exact r_zret 25 Rt dX2_isTold_25 (by decide) () (show 0 ≤ (Int32.toInt 1) ∧ (Int32.toInt 1) ≤ 1 ∧ TOL 1 (Int32.toInt (fn0 (Int32.toNatClampNeg 2))) from ⟨(by ((repeat' apply And.intro) <;> first | trivial | rfl | assumption | omega | decide | exact Or.inl rfl | exact Or.inr (Or.inl rfl) | exact Or.inr (Or.inr rfl))), (by ((repeat' apply And.intro) <;> first | trivial | rfl | assumption | omega | decide | exact Or.inl rfl | exact Or.inr (Or.inl rfl) | exact Or.inr (Or.inr rfl))), (by unfold TOL; omega)⟩) [0, 1] (by decide) rfl (Nat.le_of_ble_eq_true rfl) (Nat.le_of_ble_eq_true rfl)
set_option maxHeartbeats 4000000 in
set_option maxRecDepth 100000 in
theorem c81_X2_first (l : Launch) (g : GD) (h0 : Nat) (h1 : Nat) (h2 : Nat) (h3 : Nat) (x0 : Int32) (x1 : Int32) (h4 : Nat) (fn0 : Nat → Int32) (fn1 : Nat → Int32) (i_x0 : (0 ≤ (Int32.toInt x0) ∧ (Int32.toInt x0) ≤ 48)) (i_x1 : (0 ≤ (Int32.toInt x1) ∧ (Int32.toInt x1) ≤ 1)) (sz : Nat) : Met l yX2_first wsX2_first ({ frames := 2, cells := 0, slots := 0, locals := 42 }) (va_Pc [.ref h0, .int 262] (PW g [(h0, .inr (2, [.ref h3, .int x0, .int x1, .ref h1, .ref h2, .ref h4])), (h1, .inl (gI g, 6, .inl fn0)), (h2, .inl (gI g, 6, .inl fn1))] sz)) (va_Qi (fun (r : Int32) (_ : Unit) => FST (Int32.toInt r) (Int32.toInt (fn0 (Int32.toNatClampNeg 2))) (Int32.toInt (fn1 (Int32.toNatClampNeg 2)))) (BW g (va_A [(h0, .inr (2, [.ref h3, .int x0, .int x1, .ref h1, .ref h2, .ref h4])), (h1, .inl (gI g, 6, .inl fn0)), (h2, .inl (gI g, 6, .inl fn1))] sz) (fun _ : Unit => [(h0, .inr (2, [.ref h3, .int x0, .int x1, .ref h1, .ref h2, .ref h4])), (h1, .inl (gI g, 6, .inl fn0)), (h2, .inl (gI g, 6, .inl fn1))])) (va_A [(h0, .inr (2, [.ref h3, .int x0, .int x1, .ref h1, .ref h2, .ref h4])), (h1, .inl (gI g, 6, .inl fn0)), (h2, .inl (gI g, 6, .inl fn1))] sz)) 0 0 (va_A [(h0, .inr (2, [.ref h3, .int x0, .int x1, .ref h1, .ref h2, .ref h4])), (h1, .inl (gI g, 6, .inl fn0)), (h2, .inl (gI g, 6, .inl fn1))] sz) := by
  refine met_i RX2 (by decide) rfl rfl (Nat.le_of_ble_eq_true rfl) [(0, .ref h0), (1, .int 262)] rfl ?_
  intro p e s m args below meth c A Q C hnm Rt
  have hiX2 : ∀ w ∈ wsX20, w ∈ wsX2_first := fun w h => List.mem_cons_of_mem _ (List.mem_append_right _ (h))
  refine r_aload_n 0 0 C dX2_first_0 rfl ?_
  refine r_iload_n 1 1 C dX2_first_1 rfl ?_
  refine r_callVi 2 C dX2_first_2 [] [(h0, .inr (2, [.ref h3, .int x0, .int x1, .ref h1, .ref h2, .ref h4])), (h1, .inl (gI g, 6, .inl fn0))] [(h2, .inl (gI g, 6, .inl fn1))] (fun sz => c80_X2_isTold l g h0 h1 h3 x0 x1 h2 h4 fn0 i_x0 i_x1 sz) gX2_first_X2_isTold rfl ⟨rfl, rfl⟩ 1 (by decide) ⟨Nat.le_of_ble_eq_true rfl, Nat.le_of_ble_eq_true rfl⟩ 0 rfl rfl [0, 1] [2] rfl rfl (by decide) (by decide) (by decide) rfl rfl (Nat.le_of_ble_eq_true rfl) ⟨Nat.le_of_ble_eq_true rfl, Nat.le_of_ble_eq_true rfl⟩ (fun r1 _ w2 => ?_)
  refine r_ws [(h2, .inl (gI g, 6, .inl fn1)), (h0, .inr (2, [.ref h3, .int x0, .int x1, .ref h1, .ref h2, .ref h4])), (h1, .inl (gI g, 6, .inl fn0))] rfl ?_
  have p3 : 0 ≤ (Int32.toInt r1) := w2.1
  have p4 : (Int32.toInt r1) ≤ 1 := w2.2.1
  have p5 : TOL (Int32.toInt r1) (Int32.toInt (fn0 (Int32.toNatClampNeg 2))) := w2.2.2
  refine r_if_eq 5 20 C dX2_first_5 (by decide) (fun c6 => ?_) (fun c6 => ?_)
  · skip
    have k7 : (Int32.toInt r1) = 0 := (fa_eq r1 0).mp c6
    refine r_iconst 20 0 C dX2_first_20 (by decide) ?_
    exact r_iret 21 Rt dX2_first_21 () (show FST 0 (Int32.toInt (fn0 (Int32.toNatClampNeg 2))) (Int32.toInt (fn1 (Int32.toNatClampNeg 2))) from (by have h_9 := p5; unfold TOL at h_9; unfold FST; omega)) [1, 2, 0] (by decide) rfl (Nat.le_of_ble_eq_true rfl) (Nat.le_of_ble_eq_true rfl)
  · skip
    have k8 : ¬ ((Int32.toInt r1) = 0) := fun h_9 => c6 ((fa_eq r1 0).mpr h_9)
    refine r_aload_n 8 0 C dX2_first_8 rfl ?_
    refine r_get 9 C dX2_first_9 (k := 4) 1 rfl rfl hiX2 (by decide) rfl (mg 1 rfl) (Or.inl rfl) rfl ?_
    refine r_iload_n 12 1 C dX2_first_12 rfl ?_
    refine r_callSi 13 C dX2_first_13 [.ref h2] [] [(h2, .inl (gI g, 6, .inl fn1)), (h0, .inr (2, [.ref h3, .int x0, .int x1, .ref h1, .ref h2, .ref h4])), (h1, .inl (gI g, 6, .inl fn0))] (fun sz => c78_X2_slotOf l g   sz) gX2_first_X2_slotOf rfl ⟨rfl, rfl⟩ 1 (by decide) ⟨Nat.le_of_ble_eq_true rfl, Nat.le_of_ble_eq_true rfl⟩ [] [0, 1, 2] rfl rfl (by decide) (by decide) (by decide) rfl rfl (Nat.le_of_ble_eq_true rfl) ⟨Nat.le_of_ble_eq_true rfl, Nat.le_of_ble_eq_true rfl⟩ (fun r9 _ w10 => ?_)
    refine r_ws [(h2, .inl (gI g, 6, .inl fn1)), (h0, .inr (2, [.ref h3, .int x0, .int x1, .ref h1, .ref h2, .ref h4])), (h1, .inl (gI g, 6, .inl fn0))] rfl ?_
    have p11 : 2 = r9 := (w10).symm
    subst p11
    obtain ⟨z12, ez12⟩ : ∃ z_9, fn1 (Int32.toNatClampNeg 2) = z_9 := ⟨_, rfl⟩
    have vz12 : Int32.toInt (fn1 (Int32.toNatClampNeg 2)) = Int32.toInt z12 := congrArg _ ez12
    refine r_iald 16 z12 C dX2_first_16 0 rfl (vin (by decide)) ez12 ?_
    have gz12 := fb_rng z12
    refine r_goto 17 21 C dX2_first_17 (by decide) ?_
    exact r_iret 21 Rt dX2_first_21 () (show FST (Int32.toInt z12) (Int32.toInt (fn0 (Int32.toNatClampNeg 2))) (Int32.toInt (fn1 (Int32.toNatClampNeg 2))) from (by have h_9 := p5; unfold TOL at h_9; unfold FST; omega)) [1, 2, 0] (by decide) rfl (Nat.le_of_ble_eq_true rfl) (Nat.le_of_ble_eq_true rfl)
set_option maxHeartbeats 4000000 in
set_option maxRecDepth 100000 in
theorem c82_X2_fits (l : Launch) (g : GD) (h0 : Nat) (h1 : Nat) (x0 : Int32) (h2 : Nat) (x1 : Int32) (x2 : Int32) (h3 : Nat) (h4 : Nat) (fn0 : Nat → Int32) (i_x1 : (0 ≤ (Int32.toInt x1) ∧ (Int32.toInt x1) ≤ 48)) (i_x2 : (0 ≤ (Int32.toInt x2) ∧ (Int32.toInt x2) ≤ 1)) (sz : Nat) : Met l yX2_fits wsX2_fits ({ frames := 1, cells := 0, slots := 0, locals := 20 }) (va_Pc [.ref h0, .int 17, .int x0] (PW g [(h0, .inr (2, [.ref h2, .int x1, .int x2, .ref h1, .ref h3, .ref h4])), (h1, .inl (gI g, 6, .inl fn0))] sz)) (va_Qi (fun (r : Int32) (_ : Unit) => 0 ≤ (Int32.toInt r) ∧ (Int32.toInt r) ≤ 1 ∧ FTS (Int32.toInt r) (Int32.toInt (fn0 (Int32.toNatClampNeg 0))) (Int32.toInt x0)) (BW g (va_A [(h0, .inr (2, [.ref h2, .int x1, .int x2, .ref h1, .ref h3, .ref h4])), (h1, .inl (gI g, 6, .inl fn0))] sz) (fun _ : Unit => [(h0, .inr (2, [.ref h2, .int x1, .int x2, .ref h1, .ref h3, .ref h4])), (h1, .inl (gI g, 6, .inl fn0))])) (va_A [(h0, .inr (2, [.ref h2, .int x1, .int x2, .ref h1, .ref h3, .ref h4])), (h1, .inl (gI g, 6, .inl fn0))] sz)) 0 0 (va_A [(h0, .inr (2, [.ref h2, .int x1, .int x2, .ref h1, .ref h3, .ref h4])), (h1, .inl (gI g, 6, .inl fn0))] sz) := by
  refine met_z RX2 (by decide) rfl rfl (Nat.le_of_ble_eq_true rfl) [(0, .ref h0), (1, .int 17), (2, .int x0)] rfl ?_
  intro p e s m args below meth c A Q C hnm Rt
  have gx0 := fb_rng x0
  have hiX2 : ∀ w ∈ wsX20, w ∈ wsX2_fits := fun w h => List.mem_cons_of_mem _ (List.mem_append_right _ (h))
  refine r_iload_n 0 1 C dX2_fits_0 rfl ?_
  refine r_callSi 1 C dX2_fits_1 [] [] [(h0, .inr (2, [.ref h2, .int x1, .int x2, .ref h1, .ref h3, .ref h4])), (h1, .inl (gI g, 6, .inl fn0))] (fun sz => c74_X2_slotOf l g   sz) gX2_fits_X2_slotOf rfl ⟨rfl, rfl⟩ 1 (by decide) ⟨Nat.le_of_ble_eq_true rfl, Nat.le_of_ble_eq_true rfl⟩ [] [0, 1] rfl rfl (by decide) (by decide) (by decide) rfl rfl (Nat.le_of_ble_eq_true rfl) ⟨Nat.le_of_ble_eq_true rfl, Nat.le_of_ble_eq_true rfl⟩ (fun r1 _ w2 => ?_)
  refine r_ws [(h0, .inr (2, [.ref h2, .int x1, .int x2, .ref h1, .ref h3, .ref h4])), (h1, .inl (gI g, 6, .inl fn0))] rfl ?_
  have p3 : 0 = r1 := (w2).symm
  subst p3
  refine r_istore_n 4 C dX2_fits_4 [(3, .int 0), (0, .ref h0), (1, .int 17), (2, .int x0)] (by decide) rfl ?_
  refine r_iload_n 5 0 C dX2_fits_5 rfl ?_
  refine r_iconst 6 (-1) C dX2_fits_6 (by decide) ?_
  refine r_icmp_eq_f 7 30 C dX2_fits_7 (by decide) (by decide) ?_
  refine r_aload_n 10 1 C dX2_fits_10 rfl ?_
  refine r_get 11 C dX2_fits_11 (k := 3) 0 rfl rfl hiX2 (by decide) rfl (mg 1 rfl) (Or.inl rfl) rfl ?_
  refine r_iload_n 14 0 C dX2_fits_14 rfl ?_
  obtain ⟨z4, ez4⟩ : ∃ z_9, fn0 (Int32.toNatClampNeg 0) = z_9 := ⟨_, rfl⟩
  have vz4 : Int32.toInt (fn0 (Int32.toNatClampNeg 0)) = Int32.toInt z4 := congrArg _ ez4
  refine r_iald 15 z4 C dX2_fits_15 1 rfl (vin (by decide)) ez4 ?_
  have gz4 := fb_rng z4
  refine r_iconst 16 (-1) C dX2_fits_16 (by decide) ?_
  refine r_icmp_eq 17 30 C dX2_fits_17 (by decide) (fun c5 => ?_) (fun c5 => ?_)
  · skip
    have k6 : (Int32.toInt z4) = (-1) := (fa_eq z4 (-1)).mp c5
    refine r_iconst 30 1 C dX2_fits_30 (by decide) ?_
    refine r_goto 31 35 C dX2_fits_31 (by decide) ?_
    exact r_zret 35 Rt dX2_fits_35 (by decide) () (show 0 ≤ (Int32.toInt 1) ∧ (Int32.toInt 1) ≤ 1 ∧ FTS 1 (Int32.toInt (fn0 (Int32.toNatClampNeg 0))) (Int32.toInt x0) from ⟨(by ((repeat' apply And.intro) <;> first | trivial | rfl | assumption | omega | decide | exact Or.inl rfl | exact Or.inr (Or.inl rfl) | exact Or.inr (Or.inr rfl))), (by ((repeat' apply And.intro) <;> first | trivial | rfl | assumption | omega | decide | exact Or.inl rfl | exact Or.inr (Or.inl rfl) | exact Or.inr (Or.inr rfl))), (by unfold FTS; omega)⟩) [0, 1] (by decide) rfl (Nat.le_of_ble_eq_true rfl) (Nat.le_of_ble_eq_true rfl)
  · skip
    have k7 : ¬ ((Int32.toInt z4) = (-1)) := fun h_9 => c5 ((fa_eq z4 (-1)).mpr h_9)
    refine r_aload_n 20 1 C dX2_fits_20 rfl ?_
    refine r_get 21 C dX2_fits_21 (k := 3) 0 rfl rfl hiX2 (by decide) rfl (mg 1 rfl) (Or.inl rfl) rfl ?_
    refine r_iload_n 24 0 C dX2_fits_24 rfl ?_
    obtain ⟨z8, ez8⟩ : ∃ z_9, fn0 (Int32.toNatClampNeg 0) = z_9 := ⟨_, rfl⟩
    have vz8 : Int32.toInt (fn0 (Int32.toNatClampNeg 0)) = Int32.toInt z8 := congrArg _ ez8
    refine r_iald 25 z8 C dX2_fits_25 1 rfl (vin (by decide)) ez8 ?_
    have gz8 := fb_rng z8
    refine r_iload_n 26 3 C dX2_fits_26 rfl ?_
    refine r_icmp_ne 27 34 C dX2_fits_27 (by decide) (fun c9 => ?_) (fun c9 => ?_)
    · skip
      have k10 : ¬ ((Int32.toInt z8) = (Int32.toInt x0)) := fun h_9 => c9 ((fa_eq z8 x0).mpr h_9)
      refine r_iconst 34 0 C dX2_fits_34 (by decide) ?_
      exact r_zret 35 Rt dX2_fits_35 (by decide) () (show 0 ≤ (Int32.toInt 0) ∧ (Int32.toInt 0) ≤ 1 ∧ FTS 0 (Int32.toInt (fn0 (Int32.toNatClampNeg 0))) (Int32.toInt x0) from ⟨(by ((repeat' apply And.intro) <;> first | trivial | rfl | assumption | omega | decide | exact Or.inl rfl | exact Or.inr (Or.inl rfl) | exact Or.inr (Or.inr rfl))), (by ((repeat' apply And.intro) <;> first | trivial | rfl | assumption | omega | decide | exact Or.inl rfl | exact Or.inr (Or.inl rfl) | exact Or.inr (Or.inr rfl))), (by unfold FTS; omega)⟩) [0, 1] (by decide) rfl (Nat.le_of_ble_eq_true rfl) (Nat.le_of_ble_eq_true rfl)
    · skip
      have k11 : (Int32.toInt z8) = (Int32.toInt x0) := (fa_eq z8 x0).mp c9
      refine r_iconst 30 1 C dX2_fits_30 (by decide) ?_
      refine r_goto 31 35 C dX2_fits_31 (by decide) ?_
      exact r_zret 35 Rt dX2_fits_35 (by decide) () (show 0 ≤ (Int32.toInt 1) ∧ (Int32.toInt 1) ≤ 1 ∧ FTS 1 (Int32.toInt (fn0 (Int32.toNatClampNeg 0))) (Int32.toInt x0) from ⟨(by ((repeat' apply And.intro) <;> first | trivial | rfl | assumption | omega | decide | exact Or.inl rfl | exact Or.inr (Or.inl rfl) | exact Or.inr (Or.inr rfl))), (by ((repeat' apply And.intro) <;> first | trivial | rfl | assumption | omega | decide | exact Or.inl rfl | exact Or.inr (Or.inl rfl) | exact Or.inr (Or.inr rfl))), (by unfold FTS; omega)⟩) [0, 1] (by decide) rfl (Nat.le_of_ble_eq_true rfl) (Nat.le_of_ble_eq_true rfl)
set_option maxHeartbeats 4000000 in
set_option maxRecDepth 100000 in
theorem c83_X1_takeTop (l : Launch) (g : GD) (h0 : Nat) (h1 : Nat) (h2 : Nat) (h3 : Nat) (h4 : Nat) (h5 : Nat) (h6 : Nat) (h7 : Nat) (y0 : Int64) (y1 : Int64) (h8 : Nat) (x0 : Int32) (y2 : Int64) (y3 : Int64) (x1 : Int32) (x2 : Int32) (y4 : Int64) (y5 : Int64) (x3 : Int32) (x4 : Int32) (x5 : Int32) (fn0 : Nat → Int32) (fn1 : Nat → Int32) (fn2 : Nat → Int32) (fn3 : Nat → Int32) (fn4 : Nat → Int32) (i_y0 : (-8589934592 ≤ (Int64.toInt y0) ∧ (Int64.toInt y0) ≤ 8589934592)) (i_x0 : (0 ≤ (Int32.toInt x0) ∧ (Int32.toInt x0) ≤ 2)) (i_y2 : (-8589934592 ≤ (Int64.toInt y2) ∧ (Int64.toInt y2) ≤ 8589934592)) (i_x1 : (-257 ≤ (Int32.toInt x1) ∧ (Int32.toInt x1) ≤ 65535)) (i_x2 : (-1 ≤ (Int32.toInt x2) ∧ (Int32.toInt x2) ≤ 255)) (i_y4 : (-8589934592 ≤ (Int64.toInt y4) ∧ (Int64.toInt y4) ≤ 8589934592)) (i_y5 : (-8589934592 ≤ (Int64.toInt y5) ∧ (Int64.toInt y5) ≤ 8589934592)) (i_x3 : (0 ≤ (Int32.toInt x3) ∧ (Int32.toInt x3) ≤ 48)) (i_x4 : (0 ≤ (Int32.toInt x4) ∧ (Int32.toInt x4) ≤ 1)) (i_x5 : (0 ≤ (Int32.toInt x5) ∧ (Int32.toInt x5) ≤ 1500)) (pre0 : (¬ ((Int32.toInt x0) = 0) ∨ 0 ≤ (Int64.toInt y0))) (sz : Nat) : Met l yX1_takeTop wsX1_takeTop ({ frames := 5, cells := 0, slots := 0, locals := 115 }) (va_Pc [.ref h0, .long y0, .long y1] (PW g [(h0, .inr (1, [.ref h1, .ref h8, .ref h2, .int x0, .long y2, .long y3, .int x1, .int x2, .long y4, .long y5])), (h1, .inr (2, [.ref h3, .int x3, .int x4, .ref h4, .ref h5, .ref h6])), (h2, .inr (4, [.ref h7, .int x5])), (h3, .inl (gI g, 48, .inl fn0)), (h4, .inl (gI g, 6, .inl fn1)), (h5, .inl (gI g, 6, .inl fn2)), (h6, .inl (gI g, 6, .inl fn3)), (h7, .inl (gB g, 1500, .inl fn4))] sz)) (va_Qv (fun (u : (Int32) × (Int64) × (Int32) × (Int32) × (Nat → Int32) × (Nat → Int32) × (Nat → Int32) × (Nat → Int32)) => 0 ≤ (Int32.toInt (u.1)) ∧ (Int32.toInt (u.1)) ≤ 2 ∧ -8589934592 ≤ (Int64.toInt (u.2.1)) ∧ (Int64.toInt (u.2.1)) ≤ 8589934592 ∧ 0 ≤ (Int32.toInt (u.2.2.1)) ∧ (Int32.toInt (u.2.2.1)) ≤ 48 ∧ 0 ≤ (Int32.toInt (u.2.2.2.1)) ∧ (Int32.toInt (u.2.2.2.1)) ≤ 1 ∧ SEQ (Int32.toInt x0) (Int32.toInt (u.1)) (TOPO (GB fn4 (Int32.toInt x5)) (Int32.toInt x5) (Int64.toInt y0) (Int64.toInt y1)) (fun S => S = (SC (u.2.2.2.2.2.1) (u.2.2.2.2.2.2.1) (u.2.2.2.2.2.2.2)))) (BW g (va_A [(h0, .inr (1, [.ref h1, .ref h8, .ref h2, .int x0, .long y2, .long y3, .int x1, .int x2, .long y4, .long y5])), (h1, .inr (2, [.ref h3, .int x3, .int x4, .ref h4, .ref h5, .ref h6])), (h2, .inr (4, [.ref h7, .int x5])), (h3, .inl (gI g, 48, .inl fn0)), (h4, .inl (gI g, 6, .inl fn1)), (h5, .inl (gI g, 6, .inl fn2)), (h6, .inl (gI g, 6, .inl fn3)), (h7, .inl (gB g, 1500, .inl fn4))] sz) (fun u : (Int32) × (Int64) × (Int32) × (Int32) × (Nat → Int32) × (Nat → Int32) × (Nat → Int32) × (Nat → Int32) => [(h0, .inr (1, [.ref h1, .ref h8, .ref h2, .int u.1, .long u.2.1, .long 9223372036854775807, .int x1, .int x2, .long y4, .long y5])), (h1, .inr (2, [.ref h3, .int u.2.2.1, .int u.2.2.2.1, .ref h4, .ref h5, .ref h6])), (h2, .inr (4, [.ref h7, .int x5])), (h3, .inl (gI g, 48, .inl u.2.2.2.2.1)), (h4, .inl (gI g, 6, .inl u.2.2.2.2.2.1)), (h5, .inl (gI g, 6, .inl u.2.2.2.2.2.2.1)), (h6, .inl (gI g, 6, .inl u.2.2.2.2.2.2.2)), (h7, .inl (gB g, 1500, .inl fn4))])) (va_A [(h0, .inr (1, [.ref h1, .ref h8, .ref h2, .int x0, .long y2, .long y3, .int x1, .int x2, .long y4, .long y5])), (h1, .inr (2, [.ref h3, .int x3, .int x4, .ref h4, .ref h5, .ref h6])), (h2, .inr (4, [.ref h7, .int x5])), (h3, .inl (gI g, 48, .inl fn0)), (h4, .inl (gI g, 6, .inl fn1)), (h5, .inl (gI g, 6, .inl fn2)), (h6, .inl (gI g, 6, .inl fn3)), (h7, .inl (gB g, 1500, .inl fn4))] sz)) 0 0 (va_A [(h0, .inr (1, [.ref h1, .ref h8, .ref h2, .int x0, .long y2, .long y3, .int x1, .int x2, .long y4, .long y5])), (h1, .inr (2, [.ref h3, .int x3, .int x4, .ref h4, .ref h5, .ref h6])), (h2, .inr (4, [.ref h7, .int x5])), (h3, .inl (gI g, 48, .inl fn0)), (h4, .inl (gI g, 6, .inl fn1)), (h5, .inl (gI g, 6, .inl fn2)), (h6, .inl (gI g, 6, .inl fn3)), (h7, .inl (gB g, 1500, .inl fn4))] sz) := by
  refine met_v RX1 (by decide) rfl rfl (Nat.le_of_ble_eq_true rfl) [(0, .ref h0), (1, .long y0), (3, .long y1)] rfl ?_
  intro p e s m args below meth c A Q C hnm Rt
  have gy1 := fb_rngL y1
  have hiX1 : ∀ w ∈ wsX10, w ∈ wsX1_takeTop := fun w h => List.mem_cons_of_mem _ (List.mem_append_left _ (List.mem_append_left _ (List.mem_append_right _ (h))))
  refine r_aload_n 0 0 C dX1_takeTop_0 rfl ?_
  refine r_lload_n 1 1 C dX1_takeTop_1 rfl ?_
  refine r_lload_n 2 2 C dX1_takeTop_2 rfl ?_
  refine r_callVv 3 C dX1_takeTop_3 [] [(h0, .inr (1, [.ref h1, .ref h8, .ref h2, .int x0, .long y2, .long y3, .int x1, .int x2, .long y4, .long y5])), (h1, .inr (2, [.ref h3, .int x3, .int x4, .ref h4, .ref h5, .ref h6])), (h2, .inr (4, [.ref h7, .int x5])), (h3, .inl (gI g, 48, .inl fn0)), (h4, .inl (gI g, 6, .inl fn1)), (h5, .inl (gI g, 6, .inl fn2)), (h6, .inl (gI g, 6, .inl fn3)), (h7, .inl (gB g, 1500, .inl fn4))] [] (fun sz => c73_X1_takeDict l g h0 h1 h2 h3 h4 h5 h6 h7 y0 y1 h8 x0 y2 y3 x1 x2 y4 y5 x3 x4 x5 fn0 fn1 fn2 fn3 fn4 i_y0 i_x0 i_y2 i_x1 i_x2 i_y4 i_y5 i_x3 i_x4 i_x5 (by show (¬ ((Int32.toInt x0) = 0) ∨ 0 ≤ (Int64.toInt y0)); first | assumption | omega) sz) gX1_takeTop_X1_takeDict rfl ⟨rfl, rfl⟩ 2 (by decide) ⟨Nat.le_of_ble_eq_true rfl, Nat.le_of_ble_eq_true rfl⟩ 0 rfl rfl [0, 1, 2, 3, 4, 5, 6, 7] [] rfl rfl (by decide) (by decide) (by decide) rfl rfl (Nat.le_of_ble_eq_true rfl) ⟨Nat.le_of_ble_eq_true rfl, Nat.le_of_ble_eq_true rfl⟩ (fun  u10 w9 => ?_)
  obtain ⟨z1, z2, z3, z4, f5, f6, f7, f8⟩ := u10
  refine r_ws [(h0, .inr (1, [.ref h1, .ref h8, .ref h2, .int z1, .long z2, .long 9223372036854775807, .int x1, .int x2, .long y4, .long y5])), (h1, .inr (2, [.ref h3, .int z3, .int z4, .ref h4, .ref h5, .ref h6])), (h2, .inr (4, [.ref h7, .int x5])), (h3, .inl (gI g, 48, .inl f5)), (h4, .inl (gI g, 6, .inl f6)), (h5, .inl (gI g, 6, .inl f7)), (h6, .inl (gI g, 6, .inl f8)), (h7, .inl (gB g, 1500, .inl fn4))] rfl ?_
  have p11 : 0 ≤ (Int32.toInt z1) := w9.1
  have p12 : (Int32.toInt z1) ≤ 2 := w9.2.1
  have p13 : -8589934592 ≤ (Int64.toInt z2) := w9.2.2.1
  have p14 : (Int64.toInt z2) ≤ 8589934592 := w9.2.2.2.1
  have p15 : 0 ≤ (Int32.toInt z3) := w9.2.2.2.2.1
  have p16 : (Int32.toInt z3) ≤ 48 := w9.2.2.2.2.2.1
  have p17 : 0 ≤ (Int32.toInt z4) := w9.2.2.2.2.2.2.1
  have p18 : (Int32.toInt z4) ≤ 1 := w9.2.2.2.2.2.2.2.1
  have p19 : SEQ (Int32.toInt x0) (Int32.toInt z1) (DICB (GB fn4 (Int32.toInt x5)) (Int32.toInt x5) (Int64.toInt y0) (Int64.toInt y1)) (fun S => S = (SC f6 f7 f8)) := w9.2.2.2.2.2.2.2.2
  refine r_aload_n 6 0 C dX1_takeTop_6 rfl ?_
  refine r_aload_n 7 0 C dX1_takeTop_7 rfl ?_
  refine r_get 8 C dX1_takeTop_8 (k := 0) 0 rfl rfl hiX1 (by decide) rfl (mg 1 rfl) (Or.inl rfl) rfl ?_
  refine r_bipush 11 17 C dX1_takeTop_11 (by decide) ?_
  refine r_callVi 13 C dX1_takeTop_13 [.ref h0] [(h1, .inr (2, [.ref h3, .int z3, .int z4, .ref h4, .ref h5, .ref h6])), (h4, .inl (gI g, 6, .inl f6))] [(h0, .inr (1, [.ref h1, .ref h8, .ref h2, .int z1, .long z2, .long 9223372036854775807, .int x1, .int x2, .long y4, .long y5])), (h2, .inr (4, [.ref h7, .int x5])), (h3, .inl (gI g, 48, .inl f5)), (h5, .inl (gI g, 6, .inl f7)), (h6, .inl (gI g, 6, .inl f8)), (h7, .inl (gB g, 1500, .inl fn4))] (fun sz => c75_X2_isTold l g h1 h4 h3 z3 z4 h5 h6 f6 ⟨p15, p16⟩ ⟨p17, p18⟩ sz) gX1_takeTop_X2_isTold rfl ⟨rfl, rfl⟩ 1 (by decide) ⟨Nat.le_of_ble_eq_true rfl, Nat.le_of_ble_eq_true rfl⟩ 1 rfl rfl [1, 4] [0, 2, 3, 5, 6, 7] rfl rfl (by decide) (by decide) (by decide) rfl rfl (Nat.le_of_ble_eq_true rfl) ⟨Nat.le_of_ble_eq_true rfl, Nat.le_of_ble_eq_true rfl⟩ (fun r20 _ w21 => ?_)
  refine r_ws [(h0, .inr (1, [.ref h1, .ref h8, .ref h2, .int z1, .long z2, .long 9223372036854775807, .int x1, .int x2, .long y4, .long y5])), (h2, .inr (4, [.ref h7, .int x5])), (h3, .inl (gI g, 48, .inl f5)), (h5, .inl (gI g, 6, .inl f7)), (h6, .inl (gI g, 6, .inl f8)), (h7, .inl (gB g, 1500, .inl fn4)), (h1, .inr (2, [.ref h3, .int z3, .int z4, .ref h4, .ref h5, .ref h6])), (h4, .inl (gI g, 6, .inl f6))] rfl ?_
  have p22 : 0 ≤ (Int32.toInt r20) := w21.1
  have p23 : (Int32.toInt r20) ≤ 1 := w21.2.1
  have p24 : TOL (Int32.toInt r20) (Int32.toInt (f6 (Int32.toNatClampNeg 0))) := w21.2.2
  refine r_if_eq 16 36 C dX1_takeTop_16 (by decide) (fun c25 => ?_) (fun c25 => ?_)
  · skip
    have k26 : (Int32.toInt r20) = 0 := (fa_eq r20 0).mp c25
    refine r_iconst 36 0 C dX1_takeTop_36 (by decide) ?_
    refine r_callVv 37 C dX1_takeTop_37 [] [(h0, .inr (1, [.ref h1, .ref h8, .ref h2, .int z1, .long z2, .long 9223372036854775807, .int x1, .int x2, .long y4, .long y5]))] [(h2, .inr (4, [.ref h7, .int x5])), (h3, .inl (gI g, 48, .inl f5)), (h5, .inl (gI g, 6, .inl f7)), (h6, .inl (gI g, 6, .inl f8)), (h7, .inl (gB g, 1500, .inl fn4)), (h1, .inr (2, [.ref h3, .int z3, .int z4, .ref h4, .ref h5, .ref h6])), (h4, .inl (gI g, 6, .inl f6))] (fun sz => c53_X1_want l g h0 0 h1 h8 h2 z1 z2 9223372036854775807 x1 x2 y4 y5 (by decide) ⟨p11, p12⟩ ⟨p13, p14⟩ i_x1 i_x2 i_y4 i_y5 sz) gX1_takeTop_X1_want rfl ⟨rfl, rfl⟩ 1 (by decide) ⟨Nat.le_of_ble_eq_true rfl, Nat.le_of_ble_eq_true rfl⟩ 0 rfl rfl [0] [1, 2, 3, 4, 5, 6, 7] rfl rfl (by decide) (by decide) (by decide) rfl rfl (Nat.le_of_ble_eq_true rfl) ⟨Nat.le_of_ble_eq_true rfl, Nat.le_of_ble_eq_true rfl⟩ (fun  z27 w28 => ?_)
    refine r_ws [(h2, .inr (4, [.ref h7, .int x5])), (h3, .inl (gI g, 48, .inl f5)), (h5, .inl (gI g, 6, .inl f7)), (h6, .inl (gI g, 6, .inl f8)), (h7, .inl (gB g, 1500, .inl fn4)), (h1, .inr (2, [.ref h3, .int z3, .int z4, .ref h4, .ref h5, .ref h6])), (h4, .inl (gI g, 6, .inl f6)), (h0, .inr (1, [.ref h1, .ref h8, .ref h2, .int z27, .long z2, .long 9223372036854775807, .int x1, .int x2, .long y4, .long y5]))] rfl ?_
    have p29 : 0 ≤ (Int32.toInt z27) := w28.1
    have p30 : (Int32.toInt z27) ≤ 2 := w28.2.1
    have p31 : WNT (0 : Int) (Int32.toInt z1) (Int32.toInt z27) := w28.2.2.1
    have p32 : (((0 : Int) = 1 ∧ (Int32.toInt z27) = (Int32.toInt z1)) ∨ ((0 : Int) = 0 ∧ 1 ≤ (Int32.toInt z27))) := w28.2.2.2
    clear p32
    refine r_aload_n 40 0 C dX1_takeTop_40 rfl ?_
    refine r_aload_n 41 0 C dX1_takeTop_41 rfl ?_
    refine r_get 42 C dX1_takeTop_42 (k := 0) 7 rfl rfl hiX1 (by decide) rfl (mg 1 rfl) (Or.inl rfl) rfl ?_
    refine r_bipush 45 18 C dX1_takeTop_45 (by decide) ?_
    refine r_iconst 47 2 C dX1_takeTop_47 (by decide) ?_
    refine r_callVi 48 C dX1_takeTop_48 [.ref h0] [(h1, .inr (2, [.ref h3, .int z3, .int z4, .ref h4, .ref h5, .ref h6])), (h4, .inl (gI g, 6, .inl f6))] [(h2, .inr (4, [.ref h7, .int x5])), (h3, .inl (gI g, 48, .inl f5)), (h5, .inl (gI g, 6, .inl f7)), (h6, .inl (gI g, 6, .inl f8)), (h7, .inl (gB g, 1500, .inl fn4)), (h0, .inr (1, [.ref h1, .ref h8, .ref h2, .int z27, .long z2, .long 9223372036854775807, .int x1, .int x2, .long y4, .long y5]))] (fun sz => c77_X2_fits l g h1 h4 2 h3 z3 z4 h5 h6 f6 ⟨p15, p16⟩ ⟨p17, p18⟩ sz) gX1_takeTop_X2_fits rfl ⟨rfl, rfl⟩ 2 (by decide) ⟨Nat.le_of_ble_eq_true rfl, Nat.le_of_ble_eq_true rfl⟩ 5 rfl rfl [5, 6] [0, 1, 2, 3, 4, 7] rfl rfl (by decide) (by decide) (by decide) rfl rfl (Nat.le_of_ble_eq_true rfl) ⟨Nat.le_of_ble_eq_true rfl, Nat.le_of_ble_eq_true rfl⟩ (fun r33 _ w34 => ?_)
    refine r_ws [(h2, .inr (4, [.ref h7, .int x5])), (h3, .inl (gI g, 48, .inl f5)), (h5, .inl (gI g, 6, .inl f7)), (h6, .inl (gI g, 6, .inl f8)), (h7, .inl (gB g, 1500, .inl fn4)), (h0, .inr (1, [.ref h1, .ref h8, .ref h2, .int z27, .long z2, .long 9223372036854775807, .int x1, .int x2, .long y4, .long y5])), (h1, .inr (2, [.ref h3, .int z3, .int z4, .ref h4, .ref h5, .ref h6])), (h4, .inl (gI g, 6, .inl f6))] rfl ?_
    have p35 : 0 ≤ (Int32.toInt r33) := w34.1
    have p36 : (Int32.toInt r33) ≤ 1 := w34.2.1
    have p37 : FTS (Int32.toInt r33) (Int32.toInt (f6 (Int32.toNatClampNeg 1))) (2 : Int) := w34.2.2
    refine r_callVv 51 C dX1_takeTop_51 [] [(h0, .inr (1, [.ref h1, .ref h8, .ref h2, .int z27, .long z2, .long 9223372036854775807, .int x1, .int x2, .long y4, .long y5]))] [(h2, .inr (4, [.ref h7, .int x5])), (h3, .inl (gI g, 48, .inl f5)), (h5, .inl (gI g, 6, .inl f7)), (h6, .inl (gI g, 6, .inl f8)), (h7, .inl (gB g, 1500, .inl fn4)), (h1, .inr (2, [.ref h3, .int z3, .int z4, .ref h4, .ref h5, .ref h6])), (h4, .inl (gI g, 6, .inl f6))] (fun sz => c53_X1_want l g h0 r33 h1 h8 h2 z27 z2 9223372036854775807 x1 x2 y4 y5 ⟨p35, p36⟩ ⟨p29, p30⟩ ⟨p13, p14⟩ i_x1 i_x2 i_y4 i_y5 sz) gX1_takeTop_X1_want rfl ⟨rfl, rfl⟩ 1 (by decide) ⟨Nat.le_of_ble_eq_true rfl, Nat.le_of_ble_eq_true rfl⟩ 5 rfl rfl [5] [0, 1, 2, 3, 4, 6, 7] rfl rfl (by decide) (by decide) (by decide) rfl rfl (Nat.le_of_ble_eq_true rfl) ⟨Nat.le_of_ble_eq_true rfl, Nat.le_of_ble_eq_true rfl⟩ (fun  z38 w39 => ?_)
    refine r_ws [(h2, .inr (4, [.ref h7, .int x5])), (h3, .inl (gI g, 48, .inl f5)), (h5, .inl (gI g, 6, .inl f7)), (h6, .inl (gI g, 6, .inl f8)), (h7, .inl (gB g, 1500, .inl fn4)), (h1, .inr (2, [.ref h3, .int z3, .int z4, .ref h4, .ref h5, .ref h6])), (h4, .inl (gI g, 6, .inl f6)), (h0, .inr (1, [.ref h1, .ref h8, .ref h2, .int z38, .long z2, .long 9223372036854775807, .int x1, .int x2, .long y4, .long y5]))] rfl ?_
    have p40 : 0 ≤ (Int32.toInt z38) := w39.1
    have p41 : (Int32.toInt z38) ≤ 2 := w39.2.1
    have p42 : WNT (Int32.toInt r33) (Int32.toInt z27) (Int32.toInt z38) := w39.2.2.1
    have p43 : (((Int32.toInt r33) = 1 ∧ (Int32.toInt z38) = (Int32.toInt z27)) ∨ ((Int32.toInt r33) = 0 ∧ 1 ≤ (Int32.toInt z38))) := w39.2.2.2
    clear p43
    refine r_aload_n 54 0 C dX1_takeTop_54 rfl ?_
    refine r_aload_n 55 0 C dX1_takeTop_55 rfl ?_
    refine r_get 56 C dX1_takeTop_56 (k := 0) 7 rfl rfl hiX1 (by decide) rfl (mg 1 rfl) (Or.inl rfl) rfl ?_
    refine r_sipush 59 262 C dX1_takeTop_59 (by decide) ?_
    refine r_iconst 62 1 C dX1_takeTop_62 (by decide) ?_
    refine r_callVi 63 C dX1_takeTop_63 [.ref h0] [(h1, .inr (2, [.ref h3, .int z3, .int z4, .ref h4, .ref h5, .ref h6])), (h4, .inl (gI g, 6, .inl f6))] [(h2, .inr (4, [.ref h7, .int x5])), (h3, .inl (gI g, 48, .inl f5)), (h5, .inl (gI g, 6, .inl f7)), (h6, .inl (gI g, 6, .inl f8)), (h7, .inl (gB g, 1500, .inl fn4)), (h0, .inr (1, [.ref h1, .ref h8, .ref h2, .int z38, .long z2, .long 9223372036854775807, .int x1, .int x2, .long y4, .long y5]))] (fun sz => c79_X2_fits l g h1 h4 1 h3 z3 z4 h5 h6 f6 ⟨p15, p16⟩ ⟨p17, p18⟩ sz) gX1_takeTop_X2_fits rfl ⟨rfl, rfl⟩ 2 (by decide) ⟨Nat.le_of_ble_eq_true rfl, Nat.le_of_ble_eq_true rfl⟩ 5 rfl rfl [5, 6] [0, 1, 2, 3, 4, 7] rfl rfl (by decide) (by decide) (by decide) rfl rfl (Nat.le_of_ble_eq_true rfl) ⟨Nat.le_of_ble_eq_true rfl, Nat.le_of_ble_eq_true rfl⟩ (fun r44 _ w45 => ?_)
    refine r_ws [(h2, .inr (4, [.ref h7, .int x5])), (h3, .inl (gI g, 48, .inl f5)), (h5, .inl (gI g, 6, .inl f7)), (h6, .inl (gI g, 6, .inl f8)), (h7, .inl (gB g, 1500, .inl fn4)), (h0, .inr (1, [.ref h1, .ref h8, .ref h2, .int z38, .long z2, .long 9223372036854775807, .int x1, .int x2, .long y4, .long y5])), (h1, .inr (2, [.ref h3, .int z3, .int z4, .ref h4, .ref h5, .ref h6])), (h4, .inl (gI g, 6, .inl f6))] rfl ?_
    have p46 : 0 ≤ (Int32.toInt r44) := w45.1
    have p47 : (Int32.toInt r44) ≤ 1 := w45.2.1
    have p48 : FTS (Int32.toInt r44) (Int32.toInt (f6 (Int32.toNatClampNeg 2))) (1 : Int) := w45.2.2
    refine r_callVv 66 C dX1_takeTop_66 [] [(h0, .inr (1, [.ref h1, .ref h8, .ref h2, .int z38, .long z2, .long 9223372036854775807, .int x1, .int x2, .long y4, .long y5]))] [(h2, .inr (4, [.ref h7, .int x5])), (h3, .inl (gI g, 48, .inl f5)), (h5, .inl (gI g, 6, .inl f7)), (h6, .inl (gI g, 6, .inl f8)), (h7, .inl (gB g, 1500, .inl fn4)), (h1, .inr (2, [.ref h3, .int z3, .int z4, .ref h4, .ref h5, .ref h6])), (h4, .inl (gI g, 6, .inl f6))] (fun sz => c53_X1_want l g h0 r44 h1 h8 h2 z38 z2 9223372036854775807 x1 x2 y4 y5 ⟨p46, p47⟩ ⟨p40, p41⟩ ⟨p13, p14⟩ i_x1 i_x2 i_y4 i_y5 sz) gX1_takeTop_X1_want rfl ⟨rfl, rfl⟩ 1 (by decide) ⟨Nat.le_of_ble_eq_true rfl, Nat.le_of_ble_eq_true rfl⟩ 5 rfl rfl [5] [0, 1, 2, 3, 4, 6, 7] rfl rfl (by decide) (by decide) (by decide) rfl rfl (Nat.le_of_ble_eq_true rfl) ⟨Nat.le_of_ble_eq_true rfl, Nat.le_of_ble_eq_true rfl⟩ (fun  z49 w50 => ?_)
    refine r_ws [(h2, .inr (4, [.ref h7, .int x5])), (h3, .inl (gI g, 48, .inl f5)), (h5, .inl (gI g, 6, .inl f7)), (h6, .inl (gI g, 6, .inl f8)), (h7, .inl (gB g, 1500, .inl fn4)), (h1, .inr (2, [.ref h3, .int z3, .int z4, .ref h4, .ref h5, .ref h6])), (h4, .inl (gI g, 6, .inl f6)), (h0, .inr (1, [.ref h1, .ref h8, .ref h2, .int z49, .long z2, .long 9223372036854775807, .int x1, .int x2, .long y4, .long y5]))] rfl ?_
    have p51 : 0 ≤ (Int32.toInt z49) := w50.1
    have p52 : (Int32.toInt z49) ≤ 2 := w50.2.1
    have p53 : WNT (Int32.toInt r44) (Int32.toInt z38) (Int32.toInt z49) := w50.2.2.1
    have p54 : (((Int32.toInt r44) = 1 ∧ (Int32.toInt z49) = (Int32.toInt z38)) ∨ ((Int32.toInt r44) = 0 ∧ 1 ≤ (Int32.toInt z49))) := w50.2.2.2
    clear p54
    refine r_aload_n 69 0 C dX1_takeTop_69 rfl ?_
    refine r_aload_n 70 0 C dX1_takeTop_70 rfl ?_
    refine r_get 71 C dX1_takeTop_71 (k := 0) 7 rfl rfl hiX1 (by decide) rfl (mg 1 rfl) (Or.inl rfl) rfl ?_
    refine r_sipush 74 262 C dX1_takeTop_74 (by decide) ?_
    refine r_callVi 77 C dX1_takeTop_77 [.ref h0] [(h1, .inr (2, [.ref h3, .int z3, .int z4, .ref h4, .ref h5, .ref h6])), (h4, .inl (gI g, 6, .inl f6))] [(h2, .inr (4, [.ref h7, .int x5])), (h3, .inl (gI g, 48, .inl f5)), (h5, .inl (gI g, 6, .inl f7)), (h6, .inl (gI g, 6, .inl f8)), (h7, .inl (gB g, 1500, .inl fn4)), (h0, .inr (1, [.ref h1, .ref h8, .ref h2, .int z49, .long z2, .long 9223372036854775807, .int x1, .int x2, .long y4, .long y5]))] (fun sz => c80_X2_isTold l g h1 h4 h3 z3 z4 h5 h6 f6 ⟨p15, p16⟩ ⟨p17, p18⟩ sz) gX1_takeTop_X2_isTold rfl ⟨rfl, rfl⟩ 1 (by decide) ⟨Nat.le_of_ble_eq_true rfl, Nat.le_of_ble_eq_true rfl⟩ 5 rfl rfl [5, 6] [0, 1, 2, 3, 4, 7] rfl rfl (by decide) (by decide) (by decide) rfl rfl (Nat.le_of_ble_eq_true rfl) ⟨Nat.le_of_ble_eq_true rfl, Nat.le_of_ble_eq_true rfl⟩ (fun r55 _ w56 => ?_)
    refine r_ws [(h2, .inr (4, [.ref h7, .int x5])), (h3, .inl (gI g, 48, .inl f5)), (h5, .inl (gI g, 6, .inl f7)), (h6, .inl (gI g, 6, .inl f8)), (h7, .inl (gB g, 1500, .inl fn4)), (h0, .inr (1, [.ref h1, .ref h8, .ref h2, .int z49, .long z2, .long 9223372036854775807, .int x1, .int x2, .long y4, .long y5])), (h1, .inr (2, [.ref h3, .int z3, .int z4, .ref h4, .ref h5, .ref h6])), (h4, .inl (gI g, 6, .inl f6))] rfl ?_
    have p57 : 0 ≤ (Int32.toInt r55) := w56.1
    have p58 : (Int32.toInt r55) ≤ 1 := w56.2.1
    have p59 : TOL (Int32.toInt r55) (Int32.toInt (f6 (Int32.toNatClampNeg 2))) := w56.2.2
    refine r_if_eq 80 97 C dX1_takeTop_80 (by decide) (fun c60 => ?_) (fun c60 => ?_)
    · skip
      have k61 : (Int32.toInt r55) = 0 := (fa_eq r55 0).mp c60
      refine r_iconst 97 1 C dX1_takeTop_97 (by decide) ?_
      refine r_goto 98 102 C dX1_takeTop_98 (by decide) ?_
      refine r_callVv 102 C dX1_takeTop_102 [] [(h0, .inr (1, [.ref h1, .ref h8, .ref h2, .int z49, .long z2, .long 9223372036854775807, .int x1, .int x2, .long y4, .long y5]))] [(h2, .inr (4, [.ref h7, .int x5])), (h3, .inl (gI g, 48, .inl f5)), (h5, .inl (gI g, 6, .inl f7)), (h6, .inl (gI g, 6, .inl f8)), (h7, .inl (gB g, 1500, .inl fn4)), (h1, .inr (2, [.ref h3, .int z3, .int z4, .ref h4, .ref h5, .ref h6])), (h4, .inl (gI g, 6, .inl f6))] (fun sz => c53_X1_want l g h0 1 h1 h8 h2 z49 z2 9223372036854775807 x1 x2 y4 y5 (by decide) ⟨p51, p52⟩ ⟨p13, p14⟩ i_x1 i_x2 i_y4 i_y5 sz) gX1_takeTop_X1_want rfl ⟨rfl, rfl⟩ 1 (by decide) ⟨Nat.le_of_ble_eq_true rfl, Nat.le_of_ble_eq_true rfl⟩ 5 rfl rfl [5] [0, 1, 2, 3, 4, 6, 7] rfl rfl (by decide) (by decide) (by decide) rfl rfl (Nat.le_of_ble_eq_true rfl) ⟨Nat.le_of_ble_eq_true rfl, Nat.le_of_ble_eq_true rfl⟩ (fun  z62 w63 => ?_)
      refine r_ws [(h2, .inr (4, [.ref h7, .int x5])), (h3, .inl (gI g, 48, .inl f5)), (h5, .inl (gI g, 6, .inl f7)), (h6, .inl (gI g, 6, .inl f8)), (h7, .inl (gB g, 1500, .inl fn4)), (h1, .inr (2, [.ref h3, .int z3, .int z4, .ref h4, .ref h5, .ref h6])), (h4, .inl (gI g, 6, .inl f6)), (h0, .inr (1, [.ref h1, .ref h8, .ref h2, .int z62, .long z2, .long 9223372036854775807, .int x1, .int x2, .long y4, .long y5]))] rfl ?_
      have p64 : 0 ≤ (Int32.toInt z62) := w63.1
      have p65 : (Int32.toInt z62) ≤ 2 := w63.2.1
      have p66 : WNT (1 : Int) (Int32.toInt z49) (Int32.toInt z62) := w63.2.2.1
      have p67 : (((1 : Int) = 1 ∧ (Int32.toInt z62) = (Int32.toInt z49)) ∨ ((1 : Int) = 0 ∧ 1 ≤ (Int32.toInt z62))) := w63.2.2.2
      clear p67
      exact r_vret 105 Rt dX1_takeTop_105 (z62, z2, z3, z4, f5, f6, f7, f8) (show 0 ≤ (Int32.toInt z62) ∧ (Int32.toInt z62) ≤ 2 ∧ -8589934592 ≤ (Int64.toInt z2) ∧ (Int64.toInt z2) ≤ 8589934592 ∧ 0 ≤ (Int32.toInt z3) ∧ (Int32.toInt z3) ≤ 48 ∧ 0 ≤ (Int32.toInt z4) ∧ (Int32.toInt z4) ≤ 1 ∧ SEQ (Int32.toInt x0) (Int32.toInt z62) (TOPO (GB fn4 (Int32.toInt x5)) (Int32.toInt x5) (Int64.toInt y0) (Int64.toInt y1)) (fun S => S = (SC f6 f7 f8)) from ⟨(show _ ∧ _ from ⟨p64, p65⟩).1, (show _ ∧ _ from ⟨p64, p65⟩).2, (show _ ∧ _ from ⟨p13, p14⟩).1, (show _ ∧ _ from ⟨p13, p14⟩).2, (show _ ∧ _ from ⟨p15, p16⟩).1, (show _ ∧ _ from ⟨p15, p16⟩).2, (show _ ∧ _ from ⟨p17, p18⟩).1, (show _ ∧ _ from ⟨p17, p18⟩).2, (by exact top_pf p19 p31 p42 p53 p66 (by have h_1 := p24; unfold TOL at h_1; omega) (by have h_1 := p37; unfold FTS at h_1; omega) (by have h_1 := p48; unfold FTS at h_1; omega) (by have h_1 := p59; unfold TOL at h_1; omega))⟩) [7, 5, 0, 1, 6, 2, 3, 4] (by decide) rfl (Nat.le_of_ble_eq_true rfl) (Nat.le_of_ble_eq_true rfl)
    · skip
      have k68 : ¬ ((Int32.toInt r55) = 0) := fun h_9 => c60 ((fa_eq r55 0).mpr h_9)
      refine r_aload_n 83 0 C dX1_takeTop_83 rfl ?_
      refine r_get 84 C dX1_takeTop_84 (k := 0) 5 rfl rfl hiX1 (by decide) rfl (mg 1 rfl) (Or.inl rfl) rfl ?_
      refine r_sipush 87 262 C dX1_takeTop_87 (by decide) ?_
      refine r_callVi 90 C dX1_takeTop_90 [.ref h0] [(h1, .inr (2, [.ref h3, .int z3, .int z4, .ref h4, .ref h5, .ref h6])), (h4, .inl (gI g, 6, .inl f6)), (h5, .inl (gI g, 6, .inl f7))] [(h2, .inr (4, [.ref h7, .int x5])), (h3, .inl (gI g, 48, .inl f5)), (h6, .inl (gI g, 6, .inl f8)), (h7, .inl (gB g, 1500, .inl fn4)), (h0, .inr (1, [.ref h1, .ref h8, .ref h2, .int z49, .long z2, .long 9223372036854775807, .int x1, .int x2, .long y4, .long y5]))] (fun sz => c81_X2_first l g h1 h4 h5 h3 z3 z4 h6 f6 f7 ⟨p15, p16⟩ ⟨p17, p18⟩ sz) gX1_takeTop_X2_first rfl ⟨rfl, rfl⟩ 1 (by decide) ⟨Nat.le_of_ble_eq_true rfl, Nat.le_of_ble_eq_true rfl⟩ 6 rfl rfl [6, 7, 2] [0, 1, 3, 4, 5] rfl rfl (by decide) (by decide) (by decide) rfl rfl (Nat.le_of_ble_eq_true rfl) ⟨Nat.le_of_ble_eq_true rfl, Nat.le_of_ble_eq_true rfl⟩ (fun r69 _ w70 => ?_)
      refine r_ws [(h2, .inr (4, [.ref h7, .int x5])), (h3, .inl (gI g, 48, .inl f5)), (h6, .inl (gI g, 6, .inl f8)), (h7, .inl (gB g, 1500, .inl fn4)), (h0, .inr (1, [.ref h1, .ref h8, .ref h2, .int z49, .long z2, .long 9223372036854775807, .int x1, .int x2, .long y4, .long y5])), (h1, .inr (2, [.ref h3, .int z3, .int z4, .ref h4, .ref h5, .ref h6])), (h4, .inl (gI g, 6, .inl f6)), (h5, .inl (gI g, 6, .inl f7))] rfl ?_
      have p71 : FST (Int32.toInt r69) (Int32.toInt (f6 (Int32.toNatClampNeg 2))) (Int32.toInt (f7 (Int32.toNatClampNeg 2))) := w70
      have gr69 := fb_rng r69
      refine r_iconst 93 2 C dX1_takeTop_93 (by decide) ?_
      refine r_icmp_ne 94 101 C dX1_takeTop_94 (by decide) (fun c72 => ?_) (fun c72 => ?_)
      · skip
        have k73 : ¬ ((Int32.toInt r69) = 2) := fun h_9 => c72 ((fa_eq r69 2).mpr h_9)
        refine r_iconst 101 0 C dX1_takeTop_101 (by decide) ?_
        refine r_callVv 102 C dX1_takeTop_102 [] [(h0, .inr (1, [.ref h1, .ref h8, .ref h2, .int z49, .long z2, .long 9223372036854775807, .int x1, .int x2, .long y4, .long y5]))] [(h2, .inr (4, [.ref h7, .int x5])), (h3, .inl (gI g, 48, .inl f5)), (h6, .inl (gI g, 6, .inl f8)), (h7, .inl (gB g, 1500, .inl fn4)), (h1, .inr (2, [.ref h3, .int z3, .int z4, .ref h4, .ref h5, .ref h6])), (h4, .inl (gI g, 6, .inl f6)), (h5, .inl (gI g, 6, .inl f7))] (fun sz => c53_X1_want l g h0 0 h1 h8 h2 z49 z2 9223372036854775807 x1 x2 y4 y5 (by decide) ⟨p51, p52⟩ ⟨p13, p14⟩ i_x1 i_x2 i_y4 i_y5 sz) gX1_takeTop_X1_want rfl ⟨rfl, rfl⟩ 1 (by decide) ⟨Nat.le_of_ble_eq_true rfl, Nat.le_of_ble_eq_true rfl⟩ 4 rfl rfl [4] [0, 1, 2, 3, 5, 6, 7] rfl rfl (by decide) (by decide) (by decide) rfl rfl (Nat.le_of_ble_eq_true rfl) ⟨Nat.le_of_ble_eq_true rfl, Nat.le_of_ble_eq_true rfl⟩ (fun  z74 w75 => ?_)
        refine r_ws [(h2, .inr (4, [.ref h7, .int x5])), (h3, .inl (gI g, 48, .inl f5)), (h6, .inl (gI g, 6, .inl f8)), (h7, .inl (gB g, 1500, .inl fn4)), (h1, .inr (2, [.ref h3, .int z3, .int z4, .ref h4, .ref h5, .ref h6])), (h4, .inl (gI g, 6, .inl f6)), (h5, .inl (gI g, 6, .inl f7)), (h0, .inr (1, [.ref h1, .ref h8, .ref h2, .int z74, .long z2, .long 9223372036854775807, .int x1, .int x2, .long y4, .long y5]))] rfl ?_
        have p76 : 0 ≤ (Int32.toInt z74) := w75.1
        have p77 : (Int32.toInt z74) ≤ 2 := w75.2.1
        have p78 : WNT (0 : Int) (Int32.toInt z49) (Int32.toInt z74) := w75.2.2.1
        have p79 : (((0 : Int) = 1 ∧ (Int32.toInt z74) = (Int32.toInt z49)) ∨ ((0 : Int) = 0 ∧ 1 ≤ (Int32.toInt z74))) := w75.2.2.2
        clear p79
        exact r_vret 105 Rt dX1_takeTop_105 (z74, z2, z3, z4, f5, f6, f7, f8) (show 0 ≤ (Int32.toInt z74) ∧ (Int32.toInt z74) ≤ 2 ∧ -8589934592 ≤ (Int64.toInt z2) ∧ (Int64.toInt z2) ≤ 8589934592 ∧ 0 ≤ (Int32.toInt z3) ∧ (Int32.toInt z3) ≤ 48 ∧ 0 ≤ (Int32.toInt z4) ∧ (Int32.toInt z4) ≤ 1 ∧ SEQ (Int32.toInt x0) (Int32.toInt z74) (TOPO (GB fn4 (Int32.toInt x5)) (Int32.toInt x5) (Int64.toInt y0) (Int64.toInt y1)) (fun S => S = (SC f6 f7 f8)) from ⟨(show _ ∧ _ from ⟨p76, p77⟩).1, (show _ ∧ _ from ⟨p76, p77⟩).2, (show _ ∧ _ from ⟨p13, p14⟩).1, (show _ ∧ _ from ⟨p13, p14⟩).2, (show _ ∧ _ from ⟨p15, p16⟩).1, (show _ ∧ _ from ⟨p15, p16⟩).2, (show _ ∧ _ from ⟨p17, p18⟩).1, (show _ ∧ _ from ⟨p17, p18⟩).2, (by exact top_pf p19 p31 p42 p53 p78 (by have h_1 := p24; unfold TOL at h_1; omega) (by have h_1 := p37; unfold FTS at h_1; omega) (by have h_1 := p48; unfold FTS at h_1; omega) (by have h_1 := p59; unfold TOL at h_1; have h_2 := p71; unfold FST at h_2; omega))⟩) [7, 4, 0, 1, 5, 6, 2, 3] (by decide) rfl (Nat.le_of_ble_eq_true rfl) (Nat.le_of_ble_eq_true rfl)
      · skip
        have k80 : (Int32.toInt r69) = 2 := (fa_eq r69 2).mp c72
        refine r_iconst 97 1 C dX1_takeTop_97 (by decide) ?_
        refine r_goto 98 102 C dX1_takeTop_98 (by decide) ?_
        refine r_callVv 102 C dX1_takeTop_102 [] [(h0, .inr (1, [.ref h1, .ref h8, .ref h2, .int z49, .long z2, .long 9223372036854775807, .int x1, .int x2, .long y4, .long y5]))] [(h2, .inr (4, [.ref h7, .int x5])), (h3, .inl (gI g, 48, .inl f5)), (h6, .inl (gI g, 6, .inl f8)), (h7, .inl (gB g, 1500, .inl fn4)), (h1, .inr (2, [.ref h3, .int z3, .int z4, .ref h4, .ref h5, .ref h6])), (h4, .inl (gI g, 6, .inl f6)), (h5, .inl (gI g, 6, .inl f7))] (fun sz => c53_X1_want l g h0 1 h1 h8 h2 z49 z2 9223372036854775807 x1 x2 y4 y5 (by decide) ⟨p51, p52⟩ ⟨p13, p14⟩ i_x1 i_x2 i_y4 i_y5 sz) gX1_takeTop_X1_want rfl ⟨rfl, rfl⟩ 1 (by decide) ⟨Nat.le_of_ble_eq_true rfl, Nat.le_of_ble_eq_true rfl⟩ 4 rfl rfl [4] [0, 1, 2, 3, 5, 6, 7] rfl rfl (by decide) (by decide) (by decide) rfl rfl (Nat.le_of_ble_eq_true rfl) ⟨Nat.le_of_ble_eq_true rfl, Nat.le_of_ble_eq_true rfl⟩ (fun  z81 w82 => ?_)
        refine r_ws [(h2, .inr (4, [.ref h7, .int x5])), (h3, .inl (gI g, 48, .inl f5)), (h6, .inl (gI g, 6, .inl f8)), (h7, .inl (gB g, 1500, .inl fn4)), (h1, .inr (2, [.ref h3, .int z3, .int z4, .ref h4, .ref h5, .ref h6])), (h4, .inl (gI g, 6, .inl f6)), (h5, .inl (gI g, 6, .inl f7)), (h0, .inr (1, [.ref h1, .ref h8, .ref h2, .int z81, .long z2, .long 9223372036854775807, .int x1, .int x2, .long y4, .long y5]))] rfl ?_
        have p83 : 0 ≤ (Int32.toInt z81) := w82.1
        have p84 : (Int32.toInt z81) ≤ 2 := w82.2.1
        have p85 : WNT (1 : Int) (Int32.toInt z49) (Int32.toInt z81) := w82.2.2.1
        have p86 : (((1 : Int) = 1 ∧ (Int32.toInt z81) = (Int32.toInt z49)) ∨ ((1 : Int) = 0 ∧ 1 ≤ (Int32.toInt z81))) := w82.2.2.2
        clear p86
        exact r_vret 105 Rt dX1_takeTop_105 (z81, z2, z3, z4, f5, f6, f7, f8) (show 0 ≤ (Int32.toInt z81) ∧ (Int32.toInt z81) ≤ 2 ∧ -8589934592 ≤ (Int64.toInt z2) ∧ (Int64.toInt z2) ≤ 8589934592 ∧ 0 ≤ (Int32.toInt z3) ∧ (Int32.toInt z3) ≤ 48 ∧ 0 ≤ (Int32.toInt z4) ∧ (Int32.toInt z4) ≤ 1 ∧ SEQ (Int32.toInt x0) (Int32.toInt z81) (TOPO (GB fn4 (Int32.toInt x5)) (Int32.toInt x5) (Int64.toInt y0) (Int64.toInt y1)) (fun S => S = (SC f6 f7 f8)) from ⟨(show _ ∧ _ from ⟨p83, p84⟩).1, (show _ ∧ _ from ⟨p83, p84⟩).2, (show _ ∧ _ from ⟨p13, p14⟩).1, (show _ ∧ _ from ⟨p13, p14⟩).2, (show _ ∧ _ from ⟨p15, p16⟩).1, (show _ ∧ _ from ⟨p15, p16⟩).2, (show _ ∧ _ from ⟨p17, p18⟩).1, (show _ ∧ _ from ⟨p17, p18⟩).2, (by exact top_pf p19 p31 p42 p53 p85 (by have h_1 := p24; unfold TOL at h_1; omega) (by have h_1 := p37; unfold FTS at h_1; omega) (by have h_1 := p48; unfold FTS at h_1; omega) (by have h_1 := p59; unfold TOL at h_1; have h_2 := p71; unfold FST at h_2; omega))⟩) [7, 4, 0, 1, 5, 6, 2, 3] (by decide) rfl (Nat.le_of_ble_eq_true rfl) (Nat.le_of_ble_eq_true rfl)
  · skip
    have k87 : ¬ ((Int32.toInt r20) = 0) := fun h_9 => c25 ((fa_eq r20 0).mpr h_9)
    refine r_aload_n 19 0 C dX1_takeTop_19 rfl ?_
    refine r_get 20 C dX1_takeTop_20 (k := 0) 0 rfl rfl hiX1 (by decide) rfl (mg 1 rfl) (Or.inl rfl) rfl ?_
    refine r_bipush 23 17 C dX1_takeTop_23 (by decide) ?_
    refine r_iconst 25 1 C dX1_takeTop_25 (by decide) ?_
    refine r_callVi 26 C dX1_takeTop_26 [.ref h0] [(h1, .inr (2, [.ref h3, .int z3, .int z4, .ref h4, .ref h5, .ref h6])), (h4, .inl (gI g, 6, .inl f6))] [(h0, .inr (1, [.ref h1, .ref h8, .ref h2, .int z1, .long z2, .long 9223372036854775807, .int x1, .int x2, .long y4, .long y5])), (h2, .inr (4, [.ref h7, .int x5])), (h3, .inl (gI g, 48, .inl f5)), (h5, .inl (gI g, 6, .inl f7)), (h6, .inl (gI g, 6, .inl f8)), (h7, .inl (gB g, 1500, .inl fn4))] (fun sz => c82_X2_fits l g h1 h4 1 h3 z3 z4 h5 h6 f6 ⟨p15, p16⟩ ⟨p17, p18⟩ sz) gX1_takeTop_X2_fits rfl ⟨rfl, rfl⟩ 2 (by decide) ⟨Nat.le_of_ble_eq_true rfl, Nat.le_of_ble_eq_true rfl⟩ 6 rfl rfl [6, 7] [0, 1, 2, 3, 4, 5] rfl rfl (by decide) (by decide) (by decide) rfl rfl (Nat.le_of_ble_eq_true rfl) ⟨Nat.le_of_ble_eq_true rfl, Nat.le_of_ble_eq_true rfl⟩ (fun r88 _ w89 => ?_)
    refine r_ws [(h0, .inr (1, [.ref h1, .ref h8, .ref h2, .int z1, .long z2, .long 9223372036854775807, .int x1, .int x2, .long y4, .long y5])), (h2, .inr (4, [.ref h7, .int x5])), (h3, .inl (gI g, 48, .inl f5)), (h5, .inl (gI g, 6, .inl f7)), (h6, .inl (gI g, 6, .inl f8)), (h7, .inl (gB g, 1500, .inl fn4)), (h1, .inr (2, [.ref h3, .int z3, .int z4, .ref h4, .ref h5, .ref h6])), (h4, .inl (gI g, 6, .inl f6))] rfl ?_
    have p90 : 0 ≤ (Int32.toInt r88) := w89.1
    have p91 : (Int32.toInt r88) ≤ 1 := w89.2.1
    have p92 : FTS (Int32.toInt r88) (Int32.toInt (f6 (Int32.toNatClampNeg 0))) (1 : Int) := w89.2.2
    refine r_if_eq 29 36 C dX1_takeTop_29 (by decide) (fun c93 => ?_) (fun c93 => ?_)
    · skip
      have k94 : (Int32.toInt r88) = 0 := (fa_eq r88 0).mp c93
      refine r_iconst 36 0 C dX1_takeTop_36 (by decide) ?_
      refine r_callVv 37 C dX1_takeTop_37 [] [(h0, .inr (1, [.ref h1, .ref h8, .ref h2, .int z1, .long z2, .long 9223372036854775807, .int x1, .int x2, .long y4, .long y5]))] [(h2, .inr (4, [.ref h7, .int x5])), (h3, .inl (gI g, 48, .inl f5)), (h5, .inl (gI g, 6, .inl f7)), (h6, .inl (gI g, 6, .inl f8)), (h7, .inl (gB g, 1500, .inl fn4)), (h1, .inr (2, [.ref h3, .int z3, .int z4, .ref h4, .ref h5, .ref h6])), (h4, .inl (gI g, 6, .inl f6))] (fun sz => c53_X1_want l g h0 0 h1 h8 h2 z1 z2 9223372036854775807 x1 x2 y4 y5 (by decide) ⟨p11, p12⟩ ⟨p13, p14⟩ i_x1 i_x2 i_y4 i_y5 sz) gX1_takeTop_X1_want rfl ⟨rfl, rfl⟩ 1 (by decide) ⟨Nat.le_of_ble_eq_true rfl, Nat.le_of_ble_eq_true rfl⟩ 0 rfl rfl [0] [1, 2, 3, 4, 5, 6, 7] rfl rfl (by decide) (by decide) (by decide) rfl rfl (Nat.le_of_ble_eq_true rfl) ⟨Nat.le_of_ble_eq_true rfl, Nat.le_of_ble_eq_true rfl⟩ (fun  z95 w96 => ?_)
      refine r_ws [(h2, .inr (4, [.ref h7, .int x5])), (h3, .inl (gI g, 48, .inl f5)), (h5, .inl (gI g, 6, .inl f7)), (h6, .inl (gI g, 6, .inl f8)), (h7, .inl (gB g, 1500, .inl fn4)), (h1, .inr (2, [.ref h3, .int z3, .int z4, .ref h4, .ref h5, .ref h6])), (h4, .inl (gI g, 6, .inl f6)), (h0, .inr (1, [.ref h1, .ref h8, .ref h2, .int z95, .long z2, .long 9223372036854775807, .int x1, .int x2, .long y4, .long y5]))] rfl ?_
      have p97 : 0 ≤ (Int32.toInt z95) := w96.1
      have p98 : (Int32.toInt z95) ≤ 2 := w96.2.1
      have p99 : WNT (0 : Int) (Int32.toInt z1) (Int32.toInt z95) := w96.2.2.1
      have p100 : (((0 : Int) = 1 ∧ (Int32.toInt z95) = (Int32.toInt z1)) ∨ ((0 : Int) = 0 ∧ 1 ≤ (Int32.toInt z95))) := w96.2.2.2
      clear p100
      refine r_aload_n 40 0 C dX1_takeTop_40 rfl ?_
      refine r_aload_n 41 0 C dX1_takeTop_41 rfl ?_
      refine r_get 42 C dX1_takeTop_42 (k := 0) 7 rfl rfl hiX1 (by decide) rfl (mg 1 rfl) (Or.inl rfl) rfl ?_
      refine r_bipush 45 18 C dX1_takeTop_45 (by decide) ?_
      refine r_iconst 47 2 C dX1_takeTop_47 (by decide) ?_
      refine r_callVi 48 C dX1_takeTop_48 [.ref h0] [(h1, .inr (2, [.ref h3, .int z3, .int z4, .ref h4, .ref h5, .ref h6])), (h4, .inl (gI g, 6, .inl f6))] [(h2, .inr (4, [.ref h7, .int x5])), (h3, .inl (gI g, 48, .inl f5)), (h5, .inl (gI g, 6, .inl f7)), (h6, .inl (gI g, 6, .inl f8)), (h7, .inl (gB g, 1500, .inl fn4)), (h0, .inr (1, [.ref h1, .ref h8, .ref h2, .int z95, .long z2, .long 9223372036854775807, .int x1, .int x2, .long y4, .long y5]))] (fun sz => c77_X2_fits l g h1 h4 2 h3 z3 z4 h5 h6 f6 ⟨p15, p16⟩ ⟨p17, p18⟩ sz) gX1_takeTop_X2_fits rfl ⟨rfl, rfl⟩ 2 (by decide) ⟨Nat.le_of_ble_eq_true rfl, Nat.le_of_ble_eq_true rfl⟩ 5 rfl rfl [5, 6] [0, 1, 2, 3, 4, 7] rfl rfl (by decide) (by decide) (by decide) rfl rfl (Nat.le_of_ble_eq_true rfl) ⟨Nat.le_of_ble_eq_true rfl, Nat.le_of_ble_eq_true rfl⟩ (fun r101 _ w102 => ?_)
      refine r_ws [(h2, .inr (4, [.ref h7, .int x5])), (h3, .inl (gI g, 48, .inl f5)), (h5, .inl (gI g, 6, .inl f7)), (h6, .inl (gI g, 6, .inl f8)), (h7, .inl (gB g, 1500, .inl fn4)), (h0, .inr (1, [.ref h1, .ref h8, .ref h2, .int z95, .long z2, .long 9223372036854775807, .int x1, .int x2, .long y4, .long y5])), (h1, .inr (2, [.ref h3, .int z3, .int z4, .ref h4, .ref h5, .ref h6])), (h4, .inl (gI g, 6, .inl f6))] rfl ?_
      have p103 : 0 ≤ (Int32.toInt r101) := w102.1
      have p104 : (Int32.toInt r101) ≤ 1 := w102.2.1
      have p105 : FTS (Int32.toInt r101) (Int32.toInt (f6 (Int32.toNatClampNeg 1))) (2 : Int) := w102.2.2
      refine r_callVv 51 C dX1_takeTop_51 [] [(h0, .inr (1, [.ref h1, .ref h8, .ref h2, .int z95, .long z2, .long 9223372036854775807, .int x1, .int x2, .long y4, .long y5]))] [(h2, .inr (4, [.ref h7, .int x5])), (h3, .inl (gI g, 48, .inl f5)), (h5, .inl (gI g, 6, .inl f7)), (h6, .inl (gI g, 6, .inl f8)), (h7, .inl (gB g, 1500, .inl fn4)), (h1, .inr (2, [.ref h3, .int z3, .int z4, .ref h4, .ref h5, .ref h6])), (h4, .inl (gI g, 6, .inl f6))] (fun sz => c53_X1_want l g h0 r101 h1 h8 h2 z95 z2 9223372036854775807 x1 x2 y4 y5 ⟨p103, p104⟩ ⟨p97, p98⟩ ⟨p13, p14⟩ i_x1 i_x2 i_y4 i_y5 sz) gX1_takeTop_X1_want rfl ⟨rfl, rfl⟩ 1 (by decide) ⟨Nat.le_of_ble_eq_true rfl, Nat.le_of_ble_eq_true rfl⟩ 5 rfl rfl [5] [0, 1, 2, 3, 4, 6, 7] rfl rfl (by decide) (by decide) (by decide) rfl rfl (Nat.le_of_ble_eq_true rfl) ⟨Nat.le_of_ble_eq_true rfl, Nat.le_of_ble_eq_true rfl⟩ (fun  z106 w107 => ?_)
      refine r_ws [(h2, .inr (4, [.ref h7, .int x5])), (h3, .inl (gI g, 48, .inl f5)), (h5, .inl (gI g, 6, .inl f7)), (h6, .inl (gI g, 6, .inl f8)), (h7, .inl (gB g, 1500, .inl fn4)), (h1, .inr (2, [.ref h3, .int z3, .int z4, .ref h4, .ref h5, .ref h6])), (h4, .inl (gI g, 6, .inl f6)), (h0, .inr (1, [.ref h1, .ref h8, .ref h2, .int z106, .long z2, .long 9223372036854775807, .int x1, .int x2, .long y4, .long y5]))] rfl ?_
      have p108 : 0 ≤ (Int32.toInt z106) := w107.1
      have p109 : (Int32.toInt z106) ≤ 2 := w107.2.1
      have p110 : WNT (Int32.toInt r101) (Int32.toInt z95) (Int32.toInt z106) := w107.2.2.1
      have p111 : (((Int32.toInt r101) = 1 ∧ (Int32.toInt z106) = (Int32.toInt z95)) ∨ ((Int32.toInt r101) = 0 ∧ 1 ≤ (Int32.toInt z106))) := w107.2.2.2
      clear p111
      refine r_aload_n 54 0 C dX1_takeTop_54 rfl ?_
      refine r_aload_n 55 0 C dX1_takeTop_55 rfl ?_
      refine r_get 56 C dX1_takeTop_56 (k := 0) 7 rfl rfl hiX1 (by decide) rfl (mg 1 rfl) (Or.inl rfl) rfl ?_
      refine r_sipush 59 262 C dX1_takeTop_59 (by decide) ?_
      refine r_iconst 62 1 C dX1_takeTop_62 (by decide) ?_
      refine r_callVi 63 C dX1_takeTop_63 [.ref h0] [(h1, .inr (2, [.ref h3, .int z3, .int z4, .ref h4, .ref h5, .ref h6])), (h4, .inl (gI g, 6, .inl f6))] [(h2, .inr (4, [.ref h7, .int x5])), (h3, .inl (gI g, 48, .inl f5)), (h5, .inl (gI g, 6, .inl f7)), (h6, .inl (gI g, 6, .inl f8)), (h7, .inl (gB g, 1500, .inl fn4)), (h0, .inr (1, [.ref h1, .ref h8, .ref h2, .int z106, .long z2, .long 9223372036854775807, .int x1, .int x2, .long y4, .long y5]))] (fun sz => c79_X2_fits l g h1 h4 1 h3 z3 z4 h5 h6 f6 ⟨p15, p16⟩ ⟨p17, p18⟩ sz) gX1_takeTop_X2_fits rfl ⟨rfl, rfl⟩ 2 (by decide) ⟨Nat.le_of_ble_eq_true rfl, Nat.le_of_ble_eq_true rfl⟩ 5 rfl rfl [5, 6] [0, 1, 2, 3, 4, 7] rfl rfl (by decide) (by decide) (by decide) rfl rfl (Nat.le_of_ble_eq_true rfl) ⟨Nat.le_of_ble_eq_true rfl, Nat.le_of_ble_eq_true rfl⟩ (fun r112 _ w113 => ?_)
      refine r_ws [(h2, .inr (4, [.ref h7, .int x5])), (h3, .inl (gI g, 48, .inl f5)), (h5, .inl (gI g, 6, .inl f7)), (h6, .inl (gI g, 6, .inl f8)), (h7, .inl (gB g, 1500, .inl fn4)), (h0, .inr (1, [.ref h1, .ref h8, .ref h2, .int z106, .long z2, .long 9223372036854775807, .int x1, .int x2, .long y4, .long y5])), (h1, .inr (2, [.ref h3, .int z3, .int z4, .ref h4, .ref h5, .ref h6])), (h4, .inl (gI g, 6, .inl f6))] rfl ?_
      have p114 : 0 ≤ (Int32.toInt r112) := w113.1
      have p115 : (Int32.toInt r112) ≤ 1 := w113.2.1
      have p116 : FTS (Int32.toInt r112) (Int32.toInt (f6 (Int32.toNatClampNeg 2))) (1 : Int) := w113.2.2
      refine r_callVv 66 C dX1_takeTop_66 [] [(h0, .inr (1, [.ref h1, .ref h8, .ref h2, .int z106, .long z2, .long 9223372036854775807, .int x1, .int x2, .long y4, .long y5]))] [(h2, .inr (4, [.ref h7, .int x5])), (h3, .inl (gI g, 48, .inl f5)), (h5, .inl (gI g, 6, .inl f7)), (h6, .inl (gI g, 6, .inl f8)), (h7, .inl (gB g, 1500, .inl fn4)), (h1, .inr (2, [.ref h3, .int z3, .int z4, .ref h4, .ref h5, .ref h6])), (h4, .inl (gI g, 6, .inl f6))] (fun sz => c53_X1_want l g h0 r112 h1 h8 h2 z106 z2 9223372036854775807 x1 x2 y4 y5 ⟨p114, p115⟩ ⟨p108, p109⟩ ⟨p13, p14⟩ i_x1 i_x2 i_y4 i_y5 sz) gX1_takeTop_X1_want rfl ⟨rfl, rfl⟩ 1 (by decide) ⟨Nat.le_of_ble_eq_true rfl, Nat.le_of_ble_eq_true rfl⟩ 5 rfl rfl [5] [0, 1, 2, 3, 4, 6, 7] rfl rfl (by decide) (by decide) (by decide) rfl rfl (Nat.le_of_ble_eq_true rfl) ⟨Nat.le_of_ble_eq_true rfl, Nat.le_of_ble_eq_true rfl⟩ (fun  z117 w118 => ?_)
      refine r_ws [(h2, .inr (4, [.ref h7, .int x5])), (h3, .inl (gI g, 48, .inl f5)), (h5, .inl (gI g, 6, .inl f7)), (h6, .inl (gI g, 6, .inl f8)), (h7, .inl (gB g, 1500, .inl fn4)), (h1, .inr (2, [.ref h3, .int z3, .int z4, .ref h4, .ref h5, .ref h6])), (h4, .inl (gI g, 6, .inl f6)), (h0, .inr (1, [.ref h1, .ref h8, .ref h2, .int z117, .long z2, .long 9223372036854775807, .int x1, .int x2, .long y4, .long y5]))] rfl ?_
      have p119 : 0 ≤ (Int32.toInt z117) := w118.1
      have p120 : (Int32.toInt z117) ≤ 2 := w118.2.1
      have p121 : WNT (Int32.toInt r112) (Int32.toInt z106) (Int32.toInt z117) := w118.2.2.1
      have p122 : (((Int32.toInt r112) = 1 ∧ (Int32.toInt z117) = (Int32.toInt z106)) ∨ ((Int32.toInt r112) = 0 ∧ 1 ≤ (Int32.toInt z117))) := w118.2.2.2
      clear p122
      refine r_aload_n 69 0 C dX1_takeTop_69 rfl ?_
      refine r_aload_n 70 0 C dX1_takeTop_70 rfl ?_
      refine r_get 71 C dX1_takeTop_71 (k := 0) 7 rfl rfl hiX1 (by decide) rfl (mg 1 rfl) (Or.inl rfl) rfl ?_
      refine r_sipush 74 262 C dX1_takeTop_74 (by decide) ?_
      refine r_callVi 77 C dX1_takeTop_77 [.ref h0] [(h1, .inr (2, [.ref h3, .int z3, .int z4, .ref h4, .ref h5, .ref h6])), (h4, .inl (gI g, 6, .inl f6))] [(h2, .inr (4, [.ref h7, .int x5])), (h3, .inl (gI g, 48, .inl f5)), (h5, .inl (gI g, 6, .inl f7)), (h6, .inl (gI g, 6, .inl f8)), (h7, .inl (gB g, 1500, .inl fn4)), (h0, .inr (1, [.ref h1, .ref h8, .ref h2, .int z117, .long z2, .long 9223372036854775807, .int x1, .int x2, .long y4, .long y5]))] (fun sz => c80_X2_isTold l g h1 h4 h3 z3 z4 h5 h6 f6 ⟨p15, p16⟩ ⟨p17, p18⟩ sz) gX1_takeTop_X2_isTold rfl ⟨rfl, rfl⟩ 1 (by decide) ⟨Nat.le_of_ble_eq_true rfl, Nat.le_of_ble_eq_true rfl⟩ 5 rfl rfl [5, 6] [0, 1, 2, 3, 4, 7] rfl rfl (by decide) (by decide) (by decide) rfl rfl (Nat.le_of_ble_eq_true rfl) ⟨Nat.le_of_ble_eq_true rfl, Nat.le_of_ble_eq_true rfl⟩ (fun r123 _ w124 => ?_)
      refine r_ws [(h2, .inr (4, [.ref h7, .int x5])), (h3, .inl (gI g, 48, .inl f5)), (h5, .inl (gI g, 6, .inl f7)), (h6, .inl (gI g, 6, .inl f8)), (h7, .inl (gB g, 1500, .inl fn4)), (h0, .inr (1, [.ref h1, .ref h8, .ref h2, .int z117, .long z2, .long 9223372036854775807, .int x1, .int x2, .long y4, .long y5])), (h1, .inr (2, [.ref h3, .int z3, .int z4, .ref h4, .ref h5, .ref h6])), (h4, .inl (gI g, 6, .inl f6))] rfl ?_
      have p125 : 0 ≤ (Int32.toInt r123) := w124.1
      have p126 : (Int32.toInt r123) ≤ 1 := w124.2.1
      have p127 : TOL (Int32.toInt r123) (Int32.toInt (f6 (Int32.toNatClampNeg 2))) := w124.2.2
      refine r_if_eq 80 97 C dX1_takeTop_80 (by decide) (fun c128 => ?_) (fun c128 => ?_)
      · skip
        have k129 : (Int32.toInt r123) = 0 := (fa_eq r123 0).mp c128
        refine r_iconst 97 1 C dX1_takeTop_97 (by decide) ?_
        refine r_goto 98 102 C dX1_takeTop_98 (by decide) ?_
        refine r_callVv 102 C dX1_takeTop_102 [] [(h0, .inr (1, [.ref h1, .ref h8, .ref h2, .int z117, .long z2, .long 9223372036854775807, .int x1, .int x2, .long y4, .long y5]))] [(h2, .inr (4, [.ref h7, .int x5])), (h3, .inl (gI g, 48, .inl f5)), (h5, .inl (gI g, 6, .inl f7)), (h6, .inl (gI g, 6, .inl f8)), (h7, .inl (gB g, 1500, .inl fn4)), (h1, .inr (2, [.ref h3, .int z3, .int z4, .ref h4, .ref h5, .ref h6])), (h4, .inl (gI g, 6, .inl f6))] (fun sz => c53_X1_want l g h0 1 h1 h8 h2 z117 z2 9223372036854775807 x1 x2 y4 y5 (by decide) ⟨p119, p120⟩ ⟨p13, p14⟩ i_x1 i_x2 i_y4 i_y5 sz) gX1_takeTop_X1_want rfl ⟨rfl, rfl⟩ 1 (by decide) ⟨Nat.le_of_ble_eq_true rfl, Nat.le_of_ble_eq_true rfl⟩ 5 rfl rfl [5] [0, 1, 2, 3, 4, 6, 7] rfl rfl (by decide) (by decide) (by decide) rfl rfl (Nat.le_of_ble_eq_true rfl) ⟨Nat.le_of_ble_eq_true rfl, Nat.le_of_ble_eq_true rfl⟩ (fun  z130 w131 => ?_)
        refine r_ws [(h2, .inr (4, [.ref h7, .int x5])), (h3, .inl (gI g, 48, .inl f5)), (h5, .inl (gI g, 6, .inl f7)), (h6, .inl (gI g, 6, .inl f8)), (h7, .inl (gB g, 1500, .inl fn4)), (h1, .inr (2, [.ref h3, .int z3, .int z4, .ref h4, .ref h5, .ref h6])), (h4, .inl (gI g, 6, .inl f6)), (h0, .inr (1, [.ref h1, .ref h8, .ref h2, .int z130, .long z2, .long 9223372036854775807, .int x1, .int x2, .long y4, .long y5]))] rfl ?_
        have p132 : 0 ≤ (Int32.toInt z130) := w131.1
        have p133 : (Int32.toInt z130) ≤ 2 := w131.2.1
        have p134 : WNT (1 : Int) (Int32.toInt z117) (Int32.toInt z130) := w131.2.2.1
        have p135 : (((1 : Int) = 1 ∧ (Int32.toInt z130) = (Int32.toInt z117)) ∨ ((1 : Int) = 0 ∧ 1 ≤ (Int32.toInt z130))) := w131.2.2.2
        clear p135
        exact r_vret 105 Rt dX1_takeTop_105 (z130, z2, z3, z4, f5, f6, f7, f8) (show 0 ≤ (Int32.toInt z130) ∧ (Int32.toInt z130) ≤ 2 ∧ -8589934592 ≤ (Int64.toInt z2) ∧ (Int64.toInt z2) ≤ 8589934592 ∧ 0 ≤ (Int32.toInt z3) ∧ (Int32.toInt z3) ≤ 48 ∧ 0 ≤ (Int32.toInt z4) ∧ (Int32.toInt z4) ≤ 1 ∧ SEQ (Int32.toInt x0) (Int32.toInt z130) (TOPO (GB fn4 (Int32.toInt x5)) (Int32.toInt x5) (Int64.toInt y0) (Int64.toInt y1)) (fun S => S = (SC f6 f7 f8)) from ⟨(show _ ∧ _ from ⟨p132, p133⟩).1, (show _ ∧ _ from ⟨p132, p133⟩).2, (show _ ∧ _ from ⟨p13, p14⟩).1, (show _ ∧ _ from ⟨p13, p14⟩).2, (show _ ∧ _ from ⟨p15, p16⟩).1, (show _ ∧ _ from ⟨p15, p16⟩).2, (show _ ∧ _ from ⟨p17, p18⟩).1, (show _ ∧ _ from ⟨p17, p18⟩).2, (by exact top_pf p19 p99 p110 p121 p134 (by have h_1 := p24; unfold TOL at h_1; have h_2 := p92; unfold FTS at h_2; omega) (by have h_1 := p105; unfold FTS at h_1; omega) (by have h_1 := p116; unfold FTS at h_1; omega) (by have h_1 := p127; unfold TOL at h_1; omega))⟩) [7, 5, 0, 1, 6, 2, 3, 4] (by decide) rfl (Nat.le_of_ble_eq_true rfl) (Nat.le_of_ble_eq_true rfl)
      · skip
        have k136 : ¬ ((Int32.toInt r123) = 0) := fun h_9 => c128 ((fa_eq r123 0).mpr h_9)
        refine r_aload_n 83 0 C dX1_takeTop_83 rfl ?_
        refine r_get 84 C dX1_takeTop_84 (k := 0) 5 rfl rfl hiX1 (by decide) rfl (mg 1 rfl) (Or.inl rfl) rfl ?_
        refine r_sipush 87 262 C dX1_takeTop_87 (by decide) ?_
        refine r_callVi 90 C dX1_takeTop_90 [.ref h0] [(h1, .inr (2, [.ref h3, .int z3, .int z4, .ref h4, .ref h5, .ref h6])), (h4, .inl (gI g, 6, .inl f6)), (h5, .inl (gI g, 6, .inl f7))] [(h2, .inr (4, [.ref h7, .int x5])), (h3, .inl (gI g, 48, .inl f5)), (h6, .inl (gI g, 6, .inl f8)), (h7, .inl (gB g, 1500, .inl fn4)), (h0, .inr (1, [.ref h1, .ref h8, .ref h2, .int z117, .long z2, .long 9223372036854775807, .int x1, .int x2, .long y4, .long y5]))] (fun sz => c81_X2_first l g h1 h4 h5 h3 z3 z4 h6 f6 f7 ⟨p15, p16⟩ ⟨p17, p18⟩ sz) gX1_takeTop_X2_first rfl ⟨rfl, rfl⟩ 1 (by decide) ⟨Nat.le_of_ble_eq_true rfl, Nat.le_of_ble_eq_true rfl⟩ 6 rfl rfl [6, 7, 2] [0, 1, 3, 4, 5] rfl rfl (by decide) (by decide) (by decide) rfl rfl (Nat.le_of_ble_eq_true rfl) ⟨Nat.le_of_ble_eq_true rfl, Nat.le_of_ble_eq_true rfl⟩ (fun r137 _ w138 => ?_)
        refine r_ws [(h2, .inr (4, [.ref h7, .int x5])), (h3, .inl (gI g, 48, .inl f5)), (h6, .inl (gI g, 6, .inl f8)), (h7, .inl (gB g, 1500, .inl fn4)), (h0, .inr (1, [.ref h1, .ref h8, .ref h2, .int z117, .long z2, .long 9223372036854775807, .int x1, .int x2, .long y4, .long y5])), (h1, .inr (2, [.ref h3, .int z3, .int z4, .ref h4, .ref h5, .ref h6])), (h4, .inl (gI g, 6, .inl f6)), (h5, .inl (gI g, 6, .inl f7))] rfl ?_
        have p139 : FST (Int32.toInt r137) (Int32.toInt (f6 (Int32.toNatClampNeg 2))) (Int32.toInt (f7 (Int32.toNatClampNeg 2))) := w138
        have gr137 := fb_rng r137
        refine r_iconst 93 2 C dX1_takeTop_93 (by decide) ?_
        refine r_icmp_ne 94 101 C dX1_takeTop_94 (by decide) (fun c140 => ?_) (fun c140 => ?_)
        · skip
          have k141 : ¬ ((Int32.toInt r137) = 2) := fun h_9 => c140 ((fa_eq r137 2).mpr h_9)
          refine r_iconst 101 0 C dX1_takeTop_101 (by decide) ?_
          refine r_callVv 102 C dX1_takeTop_102 [] [(h0, .inr (1, [.ref h1, .ref h8, .ref h2, .int z117, .long z2, .long 9223372036854775807, .int x1, .int x2, .long y4, .long y5]))] [(h2, .inr (4, [.ref h7, .int x5])), (h3, .inl (gI g, 48, .inl f5)), (h6, .inl (gI g, 6, .inl f8)), (h7, .inl (gB g, 1500, .inl fn4)), (h1, .inr (2, [.ref h3, .int z3, .int z4, .ref h4, .ref h5, .ref h6])), (h4, .inl (gI g, 6, .inl f6)), (h5, .inl (gI g, 6, .inl f7))] (fun sz => c53_X1_want l g h0 0 h1 h8 h2 z117 z2 9223372036854775807 x1 x2 y4 y5 (by decide) ⟨p119, p120⟩ ⟨p13, p14⟩ i_x1 i_x2 i_y4 i_y5 sz) gX1_takeTop_X1_want rfl ⟨rfl, rfl⟩ 1 (by decide) ⟨Nat.le_of_ble_eq_true rfl, Nat.le_of_ble_eq_true rfl⟩ 4 rfl rfl [4] [0, 1, 2, 3, 5, 6, 7] rfl rfl (by decide) (by decide) (by decide) rfl rfl (Nat.le_of_ble_eq_true rfl) ⟨Nat.le_of_ble_eq_true rfl, Nat.le_of_ble_eq_true rfl⟩ (fun  z142 w143 => ?_)
          refine r_ws [(h2, .inr (4, [.ref h7, .int x5])), (h3, .inl (gI g, 48, .inl f5)), (h6, .inl (gI g, 6, .inl f8)), (h7, .inl (gB g, 1500, .inl fn4)), (h1, .inr (2, [.ref h3, .int z3, .int z4, .ref h4, .ref h5, .ref h6])), (h4, .inl (gI g, 6, .inl f6)), (h5, .inl (gI g, 6, .inl f7)), (h0, .inr (1, [.ref h1, .ref h8, .ref h2, .int z142, .long z2, .long 9223372036854775807, .int x1, .int x2, .long y4, .long y5]))] rfl ?_
          have p144 : 0 ≤ (Int32.toInt z142) := w143.1
          have p145 : (Int32.toInt z142) ≤ 2 := w143.2.1
          have p146 : WNT (0 : Int) (Int32.toInt z117) (Int32.toInt z142) := w143.2.2.1
          have p147 : (((0 : Int) = 1 ∧ (Int32.toInt z142) = (Int32.toInt z117)) ∨ ((0 : Int) = 0 ∧ 1 ≤ (Int32.toInt z142))) := w143.2.2.2
          clear p147
          exact r_vret 105 Rt dX1_takeTop_105 (z142, z2, z3, z4, f5, f6, f7, f8) (show 0 ≤ (Int32.toInt z142) ∧ (Int32.toInt z142) ≤ 2 ∧ -8589934592 ≤ (Int64.toInt z2) ∧ (Int64.toInt z2) ≤ 8589934592 ∧ 0 ≤ (Int32.toInt z3) ∧ (Int32.toInt z3) ≤ 48 ∧ 0 ≤ (Int32.toInt z4) ∧ (Int32.toInt z4) ≤ 1 ∧ SEQ (Int32.toInt x0) (Int32.toInt z142) (TOPO (GB fn4 (Int32.toInt x5)) (Int32.toInt x5) (Int64.toInt y0) (Int64.toInt y1)) (fun S => S = (SC f6 f7 f8)) from ⟨(show _ ∧ _ from ⟨p144, p145⟩).1, (show _ ∧ _ from ⟨p144, p145⟩).2, (show _ ∧ _ from ⟨p13, p14⟩).1, (show _ ∧ _ from ⟨p13, p14⟩).2, (show _ ∧ _ from ⟨p15, p16⟩).1, (show _ ∧ _ from ⟨p15, p16⟩).2, (show _ ∧ _ from ⟨p17, p18⟩).1, (show _ ∧ _ from ⟨p17, p18⟩).2, (by exact top_pf p19 p99 p110 p121 p146 (by have h_1 := p24; unfold TOL at h_1; have h_2 := p92; unfold FTS at h_2; omega) (by have h_1 := p105; unfold FTS at h_1; omega) (by have h_1 := p116; unfold FTS at h_1; omega) (by have h_1 := p127; unfold TOL at h_1; have h_2 := p139; unfold FST at h_2; omega))⟩) [7, 4, 0, 1, 5, 6, 2, 3] (by decide) rfl (Nat.le_of_ble_eq_true rfl) (Nat.le_of_ble_eq_true rfl)
        · skip
          have k148 : (Int32.toInt r137) = 2 := (fa_eq r137 2).mp c140
          refine r_iconst 97 1 C dX1_takeTop_97 (by decide) ?_
          refine r_goto 98 102 C dX1_takeTop_98 (by decide) ?_
          refine r_callVv 102 C dX1_takeTop_102 [] [(h0, .inr (1, [.ref h1, .ref h8, .ref h2, .int z117, .long z2, .long 9223372036854775807, .int x1, .int x2, .long y4, .long y5]))] [(h2, .inr (4, [.ref h7, .int x5])), (h3, .inl (gI g, 48, .inl f5)), (h6, .inl (gI g, 6, .inl f8)), (h7, .inl (gB g, 1500, .inl fn4)), (h1, .inr (2, [.ref h3, .int z3, .int z4, .ref h4, .ref h5, .ref h6])), (h4, .inl (gI g, 6, .inl f6)), (h5, .inl (gI g, 6, .inl f7))] (fun sz => c53_X1_want l g h0 1 h1 h8 h2 z117 z2 9223372036854775807 x1 x2 y4 y5 (by decide) ⟨p119, p120⟩ ⟨p13, p14⟩ i_x1 i_x2 i_y4 i_y5 sz) gX1_takeTop_X1_want rfl ⟨rfl, rfl⟩ 1 (by decide) ⟨Nat.le_of_ble_eq_true rfl, Nat.le_of_ble_eq_true rfl⟩ 4 rfl rfl [4] [0, 1, 2, 3, 5, 6, 7] rfl rfl (by decide) (by decide) (by decide) rfl rfl (Nat.le_of_ble_eq_true rfl) ⟨Nat.le_of_ble_eq_true rfl, Nat.le_of_ble_eq_true rfl⟩ (fun  z149 w150 => ?_)
          refine r_ws [(h2, .inr (4, [.ref h7, .int x5])), (h3, .inl (gI g, 48, .inl f5)), (h6, .inl (gI g, 6, .inl f8)), (h7, .inl (gB g, 1500, .inl fn4)), (h1, .inr (2, [.ref h3, .int z3, .int z4, .ref h4, .ref h5, .ref h6])), (h4, .inl (gI g, 6, .inl f6)), (h5, .inl (gI g, 6, .inl f7)), (h0, .inr (1, [.ref h1, .ref h8, .ref h2, .int z149, .long z2, .long 9223372036854775807, .int x1, .int x2, .long y4, .long y5]))] rfl ?_
          have p151 : 0 ≤ (Int32.toInt z149) := w150.1
          have p152 : (Int32.toInt z149) ≤ 2 := w150.2.1
          have p153 : WNT (1 : Int) (Int32.toInt z117) (Int32.toInt z149) := w150.2.2.1
          have p154 : (((1 : Int) = 1 ∧ (Int32.toInt z149) = (Int32.toInt z117)) ∨ ((1 : Int) = 0 ∧ 1 ≤ (Int32.toInt z149))) := w150.2.2.2
          clear p154
          exact r_vret 105 Rt dX1_takeTop_105 (z149, z2, z3, z4, f5, f6, f7, f8) (show 0 ≤ (Int32.toInt z149) ∧ (Int32.toInt z149) ≤ 2 ∧ -8589934592 ≤ (Int64.toInt z2) ∧ (Int64.toInt z2) ≤ 8589934592 ∧ 0 ≤ (Int32.toInt z3) ∧ (Int32.toInt z3) ≤ 48 ∧ 0 ≤ (Int32.toInt z4) ∧ (Int32.toInt z4) ≤ 1 ∧ SEQ (Int32.toInt x0) (Int32.toInt z149) (TOPO (GB fn4 (Int32.toInt x5)) (Int32.toInt x5) (Int64.toInt y0) (Int64.toInt y1)) (fun S => S = (SC f6 f7 f8)) from ⟨(show _ ∧ _ from ⟨p151, p152⟩).1, (show _ ∧ _ from ⟨p151, p152⟩).2, (show _ ∧ _ from ⟨p13, p14⟩).1, (show _ ∧ _ from ⟨p13, p14⟩).2, (show _ ∧ _ from ⟨p15, p16⟩).1, (show _ ∧ _ from ⟨p15, p16⟩).2, (show _ ∧ _ from ⟨p17, p18⟩).1, (show _ ∧ _ from ⟨p17, p18⟩).2, (by exact top_pf p19 p99 p110 p121 p153 (by have h_1 := p24; unfold TOL at h_1; have h_2 := p92; unfold FTS at h_2; omega) (by have h_1 := p105; unfold FTS at h_1; omega) (by have h_1 := p116; unfold FTS at h_1; omega) (by have h_1 := p127; unfold TOL at h_1; have h_2 := p139; unfold FST at h_2; omega))⟩) [7, 4, 0, 1, 5, 6, 2, 3] (by decide) rfl (Nat.le_of_ble_eq_true rfl) (Nat.le_of_ble_eq_true rfl)
    · skip
      have k155 : ¬ ((Int32.toInt r88) = 0) := fun h_9 => c93 ((fa_eq r88 0).mpr h_9)
      refine r_iconst 32 1 C dX1_takeTop_32 (by decide) ?_
      refine r_goto 33 37 C dX1_takeTop_33 (by decide) ?_
      refine r_callVv 37 C dX1_takeTop_37 [] [(h0, .inr (1, [.ref h1, .ref h8, .ref h2, .int z1, .long z2, .long 9223372036854775807, .int x1, .int x2, .long y4, .long y5]))] [(h2, .inr (4, [.ref h7, .int x5])), (h3, .inl (gI g, 48, .inl f5)), (h5, .inl (gI g, 6, .inl f7)), (h6, .inl (gI g, 6, .inl f8)), (h7, .inl (gB g, 1500, .inl fn4)), (h1, .inr (2, [.ref h3, .int z3, .int z4, .ref h4, .ref h5, .ref h6])), (h4, .inl (gI g, 6, .inl f6))] (fun sz => c53_X1_want l g h0 1 h1 h8 h2 z1 z2 9223372036854775807 x1 x2 y4 y5 (by decide) ⟨p11, p12⟩ ⟨p13, p14⟩ i_x1 i_x2 i_y4 i_y5 sz) gX1_takeTop_X1_want rfl ⟨rfl, rfl⟩ 1 (by decide) ⟨Nat.le_of_ble_eq_true rfl, Nat.le_of_ble_eq_true rfl⟩ 0 rfl rfl [0] [1, 2, 3, 4, 5, 6, 7] rfl rfl (by decide) (by decide) (by decide) rfl rfl (Nat.le_of_ble_eq_true rfl) ⟨Nat.le_of_ble_eq_true rfl, Nat.le_of_ble_eq_true rfl⟩ (fun  z156 w157 => ?_)
      refine r_ws [(h2, .inr (4, [.ref h7, .int x5])), (h3, .inl (gI g, 48, .inl f5)), (h5, .inl (gI g, 6, .inl f7)), (h6, .inl (gI g, 6, .inl f8)), (h7, .inl (gB g, 1500, .inl fn4)), (h1, .inr (2, [.ref h3, .int z3, .int z4, .ref h4, .ref h5, .ref h6])), (h4, .inl (gI g, 6, .inl f6)), (h0, .inr (1, [.ref h1, .ref h8, .ref h2, .int z156, .long z2, .long 9223372036854775807, .int x1, .int x2, .long y4, .long y5]))] rfl ?_
      have p158 : 0 ≤ (Int32.toInt z156) := w157.1
      have p159 : (Int32.toInt z156) ≤ 2 := w157.2.1
      have p160 : WNT (1 : Int) (Int32.toInt z1) (Int32.toInt z156) := w157.2.2.1
      have p161 : (((1 : Int) = 1 ∧ (Int32.toInt z156) = (Int32.toInt z1)) ∨ ((1 : Int) = 0 ∧ 1 ≤ (Int32.toInt z156))) := w157.2.2.2
      clear p161
      refine r_aload_n 40 0 C dX1_takeTop_40 rfl ?_
      refine r_aload_n 41 0 C dX1_takeTop_41 rfl ?_
      refine r_get 42 C dX1_takeTop_42 (k := 0) 7 rfl rfl hiX1 (by decide) rfl (mg 1 rfl) (Or.inl rfl) rfl ?_
      refine r_bipush 45 18 C dX1_takeTop_45 (by decide) ?_
      refine r_iconst 47 2 C dX1_takeTop_47 (by decide) ?_
      refine r_callVi 48 C dX1_takeTop_48 [.ref h0] [(h1, .inr (2, [.ref h3, .int z3, .int z4, .ref h4, .ref h5, .ref h6])), (h4, .inl (gI g, 6, .inl f6))] [(h2, .inr (4, [.ref h7, .int x5])), (h3, .inl (gI g, 48, .inl f5)), (h5, .inl (gI g, 6, .inl f7)), (h6, .inl (gI g, 6, .inl f8)), (h7, .inl (gB g, 1500, .inl fn4)), (h0, .inr (1, [.ref h1, .ref h8, .ref h2, .int z156, .long z2, .long 9223372036854775807, .int x1, .int x2, .long y4, .long y5]))] (fun sz => c77_X2_fits l g h1 h4 2 h3 z3 z4 h5 h6 f6 ⟨p15, p16⟩ ⟨p17, p18⟩ sz) gX1_takeTop_X2_fits rfl ⟨rfl, rfl⟩ 2 (by decide) ⟨Nat.le_of_ble_eq_true rfl, Nat.le_of_ble_eq_true rfl⟩ 5 rfl rfl [5, 6] [0, 1, 2, 3, 4, 7] rfl rfl (by decide) (by decide) (by decide) rfl rfl (Nat.le_of_ble_eq_true rfl) ⟨Nat.le_of_ble_eq_true rfl, Nat.le_of_ble_eq_true rfl⟩ (fun r162 _ w163 => ?_)
      refine r_ws [(h2, .inr (4, [.ref h7, .int x5])), (h3, .inl (gI g, 48, .inl f5)), (h5, .inl (gI g, 6, .inl f7)), (h6, .inl (gI g, 6, .inl f8)), (h7, .inl (gB g, 1500, .inl fn4)), (h0, .inr (1, [.ref h1, .ref h8, .ref h2, .int z156, .long z2, .long 9223372036854775807, .int x1, .int x2, .long y4, .long y5])), (h1, .inr (2, [.ref h3, .int z3, .int z4, .ref h4, .ref h5, .ref h6])), (h4, .inl (gI g, 6, .inl f6))] rfl ?_
      have p164 : 0 ≤ (Int32.toInt r162) := w163.1
      have p165 : (Int32.toInt r162) ≤ 1 := w163.2.1
      have p166 : FTS (Int32.toInt r162) (Int32.toInt (f6 (Int32.toNatClampNeg 1))) (2 : Int) := w163.2.2
      refine r_callVv 51 C dX1_takeTop_51 [] [(h0, .inr (1, [.ref h1, .ref h8, .ref h2, .int z156, .long z2, .long 9223372036854775807, .int x1, .int x2, .long y4, .long y5]))] [(h2, .inr (4, [.ref h7, .int x5])), (h3, .inl (gI g, 48, .inl f5)), (h5, .inl (gI g, 6, .inl f7)), (h6, .inl (gI g, 6, .inl f8)), (h7, .inl (gB g, 1500, .inl fn4)), (h1, .inr (2, [.ref h3, .int z3, .int z4, .ref h4, .ref h5, .ref h6])), (h4, .inl (gI g, 6, .inl f6))] (fun sz => c53_X1_want l g h0 r162 h1 h8 h2 z156 z2 9223372036854775807 x1 x2 y4 y5 ⟨p164, p165⟩ ⟨p158, p159⟩ ⟨p13, p14⟩ i_x1 i_x2 i_y4 i_y5 sz) gX1_takeTop_X1_want rfl ⟨rfl, rfl⟩ 1 (by decide) ⟨Nat.le_of_ble_eq_true rfl, Nat.le_of_ble_eq_true rfl⟩ 5 rfl rfl [5] [0, 1, 2, 3, 4, 6, 7] rfl rfl (by decide) (by decide) (by decide) rfl rfl (Nat.le_of_ble_eq_true rfl) ⟨Nat.le_of_ble_eq_true rfl, Nat.le_of_ble_eq_true rfl⟩ (fun  z167 w168 => ?_)
      refine r_ws [(h2, .inr (4, [.ref h7, .int x5])), (h3, .inl (gI g, 48, .inl f5)), (h5, .inl (gI g, 6, .inl f7)), (h6, .inl (gI g, 6, .inl f8)), (h7, .inl (gB g, 1500, .inl fn4)), (h1, .inr (2, [.ref h3, .int z3, .int z4, .ref h4, .ref h5, .ref h6])), (h4, .inl (gI g, 6, .inl f6)), (h0, .inr (1, [.ref h1, .ref h8, .ref h2, .int z167, .long z2, .long 9223372036854775807, .int x1, .int x2, .long y4, .long y5]))] rfl ?_
      have p169 : 0 ≤ (Int32.toInt z167) := w168.1
      have p170 : (Int32.toInt z167) ≤ 2 := w168.2.1
      have p171 : WNT (Int32.toInt r162) (Int32.toInt z156) (Int32.toInt z167) := w168.2.2.1
      have p172 : (((Int32.toInt r162) = 1 ∧ (Int32.toInt z167) = (Int32.toInt z156)) ∨ ((Int32.toInt r162) = 0 ∧ 1 ≤ (Int32.toInt z167))) := w168.2.2.2
      clear p172
      refine r_aload_n 54 0 C dX1_takeTop_54 rfl ?_
      refine r_aload_n 55 0 C dX1_takeTop_55 rfl ?_
      refine r_get 56 C dX1_takeTop_56 (k := 0) 7 rfl rfl hiX1 (by decide) rfl (mg 1 rfl) (Or.inl rfl) rfl ?_
      refine r_sipush 59 262 C dX1_takeTop_59 (by decide) ?_
      refine r_iconst 62 1 C dX1_takeTop_62 (by decide) ?_
      refine r_callVi 63 C dX1_takeTop_63 [.ref h0] [(h1, .inr (2, [.ref h3, .int z3, .int z4, .ref h4, .ref h5, .ref h6])), (h4, .inl (gI g, 6, .inl f6))] [(h2, .inr (4, [.ref h7, .int x5])), (h3, .inl (gI g, 48, .inl f5)), (h5, .inl (gI g, 6, .inl f7)), (h6, .inl (gI g, 6, .inl f8)), (h7, .inl (gB g, 1500, .inl fn4)), (h0, .inr (1, [.ref h1, .ref h8, .ref h2, .int z167, .long z2, .long 9223372036854775807, .int x1, .int x2, .long y4, .long y5]))] (fun sz => c79_X2_fits l g h1 h4 1 h3 z3 z4 h5 h6 f6 ⟨p15, p16⟩ ⟨p17, p18⟩ sz) gX1_takeTop_X2_fits rfl ⟨rfl, rfl⟩ 2 (by decide) ⟨Nat.le_of_ble_eq_true rfl, Nat.le_of_ble_eq_true rfl⟩ 5 rfl rfl [5, 6] [0, 1, 2, 3, 4, 7] rfl rfl (by decide) (by decide) (by decide) rfl rfl (Nat.le_of_ble_eq_true rfl) ⟨Nat.le_of_ble_eq_true rfl, Nat.le_of_ble_eq_true rfl⟩ (fun r173 _ w174 => ?_)
      refine r_ws [(h2, .inr (4, [.ref h7, .int x5])), (h3, .inl (gI g, 48, .inl f5)), (h5, .inl (gI g, 6, .inl f7)), (h6, .inl (gI g, 6, .inl f8)), (h7, .inl (gB g, 1500, .inl fn4)), (h0, .inr (1, [.ref h1, .ref h8, .ref h2, .int z167, .long z2, .long 9223372036854775807, .int x1, .int x2, .long y4, .long y5])), (h1, .inr (2, [.ref h3, .int z3, .int z4, .ref h4, .ref h5, .ref h6])), (h4, .inl (gI g, 6, .inl f6))] rfl ?_
      have p175 : 0 ≤ (Int32.toInt r173) := w174.1
      have p176 : (Int32.toInt r173) ≤ 1 := w174.2.1
      have p177 : FTS (Int32.toInt r173) (Int32.toInt (f6 (Int32.toNatClampNeg 2))) (1 : Int) := w174.2.2
      refine r_callVv 66 C dX1_takeTop_66 [] [(h0, .inr (1, [.ref h1, .ref h8, .ref h2, .int z167, .long z2, .long 9223372036854775807, .int x1, .int x2, .long y4, .long y5]))] [(h2, .inr (4, [.ref h7, .int x5])), (h3, .inl (gI g, 48, .inl f5)), (h5, .inl (gI g, 6, .inl f7)), (h6, .inl (gI g, 6, .inl f8)), (h7, .inl (gB g, 1500, .inl fn4)), (h1, .inr (2, [.ref h3, .int z3, .int z4, .ref h4, .ref h5, .ref h6])), (h4, .inl (gI g, 6, .inl f6))] (fun sz => c53_X1_want l g h0 r173 h1 h8 h2 z167 z2 9223372036854775807 x1 x2 y4 y5 ⟨p175, p176⟩ ⟨p169, p170⟩ ⟨p13, p14⟩ i_x1 i_x2 i_y4 i_y5 sz) gX1_takeTop_X1_want rfl ⟨rfl, rfl⟩ 1 (by decide) ⟨Nat.le_of_ble_eq_true rfl, Nat.le_of_ble_eq_true rfl⟩ 5 rfl rfl [5] [0, 1, 2, 3, 4, 6, 7] rfl rfl (by decide) (by decide) (by decide) rfl rfl (Nat.le_of_ble_eq_true rfl) ⟨Nat.le_of_ble_eq_true rfl, Nat.le_of_ble_eq_true rfl⟩ (fun  z178 w179 => ?_)
      refine r_ws [(h2, .inr (4, [.ref h7, .int x5])), (h3, .inl (gI g, 48, .inl f5)), (h5, .inl (gI g, 6, .inl f7)), (h6, .inl (gI g, 6, .inl f8)), (h7, .inl (gB g, 1500, .inl fn4)), (h1, .inr (2, [.ref h3, .int z3, .int z4, .ref h4, .ref h5, .ref h6])), (h4, .inl (gI g, 6, .inl f6)), (h0, .inr (1, [.ref h1, .ref h8, .ref h2, .int z178, .long z2, .long 9223372036854775807, .int x1, .int x2, .long y4, .long y5]))] rfl ?_
      have p180 : 0 ≤ (Int32.toInt z178) := w179.1
      have p181 : (Int32.toInt z178) ≤ 2 := w179.2.1
      have p182 : WNT (Int32.toInt r173) (Int32.toInt z167) (Int32.toInt z178) := w179.2.2.1
      have p183 : (((Int32.toInt r173) = 1 ∧ (Int32.toInt z178) = (Int32.toInt z167)) ∨ ((Int32.toInt r173) = 0 ∧ 1 ≤ (Int32.toInt z178))) := w179.2.2.2
      clear p183
      refine r_aload_n 69 0 C dX1_takeTop_69 rfl ?_
      refine r_aload_n 70 0 C dX1_takeTop_70 rfl ?_
      refine r_get 71 C dX1_takeTop_71 (k := 0) 7 rfl rfl hiX1 (by decide) rfl (mg 1 rfl) (Or.inl rfl) rfl ?_
      refine r_sipush 74 262 C dX1_takeTop_74 (by decide) ?_
      refine r_callVi 77 C dX1_takeTop_77 [.ref h0] [(h1, .inr (2, [.ref h3, .int z3, .int z4, .ref h4, .ref h5, .ref h6])), (h4, .inl (gI g, 6, .inl f6))] [(h2, .inr (4, [.ref h7, .int x5])), (h3, .inl (gI g, 48, .inl f5)), (h5, .inl (gI g, 6, .inl f7)), (h6, .inl (gI g, 6, .inl f8)), (h7, .inl (gB g, 1500, .inl fn4)), (h0, .inr (1, [.ref h1, .ref h8, .ref h2, .int z178, .long z2, .long 9223372036854775807, .int x1, .int x2, .long y4, .long y5]))] (fun sz => c80_X2_isTold l g h1 h4 h3 z3 z4 h5 h6 f6 ⟨p15, p16⟩ ⟨p17, p18⟩ sz) gX1_takeTop_X2_isTold rfl ⟨rfl, rfl⟩ 1 (by decide) ⟨Nat.le_of_ble_eq_true rfl, Nat.le_of_ble_eq_true rfl⟩ 5 rfl rfl [5, 6] [0, 1, 2, 3, 4, 7] rfl rfl (by decide) (by decide) (by decide) rfl rfl (Nat.le_of_ble_eq_true rfl) ⟨Nat.le_of_ble_eq_true rfl, Nat.le_of_ble_eq_true rfl⟩ (fun r184 _ w185 => ?_)
      refine r_ws [(h2, .inr (4, [.ref h7, .int x5])), (h3, .inl (gI g, 48, .inl f5)), (h5, .inl (gI g, 6, .inl f7)), (h6, .inl (gI g, 6, .inl f8)), (h7, .inl (gB g, 1500, .inl fn4)), (h0, .inr (1, [.ref h1, .ref h8, .ref h2, .int z178, .long z2, .long 9223372036854775807, .int x1, .int x2, .long y4, .long y5])), (h1, .inr (2, [.ref h3, .int z3, .int z4, .ref h4, .ref h5, .ref h6])), (h4, .inl (gI g, 6, .inl f6))] rfl ?_
      have p186 : 0 ≤ (Int32.toInt r184) := w185.1
      have p187 : (Int32.toInt r184) ≤ 1 := w185.2.1
      have p188 : TOL (Int32.toInt r184) (Int32.toInt (f6 (Int32.toNatClampNeg 2))) := w185.2.2
      refine r_if_eq 80 97 C dX1_takeTop_80 (by decide) (fun c189 => ?_) (fun c189 => ?_)
      · skip
        have k190 : (Int32.toInt r184) = 0 := (fa_eq r184 0).mp c189
        refine r_iconst 97 1 C dX1_takeTop_97 (by decide) ?_
        refine r_goto 98 102 C dX1_takeTop_98 (by decide) ?_
        refine r_callVv 102 C dX1_takeTop_102 [] [(h0, .inr (1, [.ref h1, .ref h8, .ref h2, .int z178, .long z2, .long 9223372036854775807, .int x1, .int x2, .long y4, .long y5]))] [(h2, .inr (4, [.ref h7, .int x5])), (h3, .inl (gI g, 48, .inl f5)), (h5, .inl (gI g, 6, .inl f7)), (h6, .inl (gI g, 6, .inl f8)), (h7, .inl (gB g, 1500, .inl fn4)), (h1, .inr (2, [.ref h3, .int z3, .int z4, .ref h4, .ref h5, .ref h6])), (h4, .inl (gI g, 6, .inl f6))] (fun sz => c53_X1_want l g h0 1 h1 h8 h2 z178 z2 9223372036854775807 x1 x2 y4 y5 (by decide) ⟨p180, p181⟩ ⟨p13, p14⟩ i_x1 i_x2 i_y4 i_y5 sz) gX1_takeTop_X1_want rfl ⟨rfl, rfl⟩ 1 (by decide) ⟨Nat.le_of_ble_eq_true rfl, Nat.le_of_ble_eq_true rfl⟩ 5 rfl rfl [5] [0, 1, 2, 3, 4, 6, 7] rfl rfl (by decide) (by decide) (by decide) rfl rfl (Nat.le_of_ble_eq_true rfl) ⟨Nat.le_of_ble_eq_true rfl, Nat.le_of_ble_eq_true rfl⟩ (fun  z191 w192 => ?_)
        refine r_ws [(h2, .inr (4, [.ref h7, .int x5])), (h3, .inl (gI g, 48, .inl f5)), (h5, .inl (gI g, 6, .inl f7)), (h6, .inl (gI g, 6, .inl f8)), (h7, .inl (gB g, 1500, .inl fn4)), (h1, .inr (2, [.ref h3, .int z3, .int z4, .ref h4, .ref h5, .ref h6])), (h4, .inl (gI g, 6, .inl f6)), (h0, .inr (1, [.ref h1, .ref h8, .ref h2, .int z191, .long z2, .long 9223372036854775807, .int x1, .int x2, .long y4, .long y5]))] rfl ?_
        have p193 : 0 ≤ (Int32.toInt z191) := w192.1
        have p194 : (Int32.toInt z191) ≤ 2 := w192.2.1
        have p195 : WNT (1 : Int) (Int32.toInt z178) (Int32.toInt z191) := w192.2.2.1
        have p196 : (((1 : Int) = 1 ∧ (Int32.toInt z191) = (Int32.toInt z178)) ∨ ((1 : Int) = 0 ∧ 1 ≤ (Int32.toInt z191))) := w192.2.2.2
        clear p196
        exact r_vret 105 Rt dX1_takeTop_105 (z191, z2, z3, z4, f5, f6, f7, f8) (show 0 ≤ (Int32.toInt z191) ∧ (Int32.toInt z191) ≤ 2 ∧ -8589934592 ≤ (Int64.toInt z2) ∧ (Int64.toInt z2) ≤ 8589934592 ∧ 0 ≤ (Int32.toInt z3) ∧ (Int32.toInt z3) ≤ 48 ∧ 0 ≤ (Int32.toInt z4) ∧ (Int32.toInt z4) ≤ 1 ∧ SEQ (Int32.toInt x0) (Int32.toInt z191) (TOPO (GB fn4 (Int32.toInt x5)) (Int32.toInt x5) (Int64.toInt y0) (Int64.toInt y1)) (fun S => S = (SC f6 f7 f8)) from ⟨(show _ ∧ _ from ⟨p193, p194⟩).1, (show _ ∧ _ from ⟨p193, p194⟩).2, (show _ ∧ _ from ⟨p13, p14⟩).1, (show _ ∧ _ from ⟨p13, p14⟩).2, (show _ ∧ _ from ⟨p15, p16⟩).1, (show _ ∧ _ from ⟨p15, p16⟩).2, (show _ ∧ _ from ⟨p17, p18⟩).1, (show _ ∧ _ from ⟨p17, p18⟩).2, (by exact top_pf p19 p160 p171 p182 p195 (by have h_1 := p24; unfold TOL at h_1; have h_2 := p92; unfold FTS at h_2; omega) (by have h_1 := p166; unfold FTS at h_1; omega) (by have h_1 := p177; unfold FTS at h_1; omega) (by have h_1 := p188; unfold TOL at h_1; omega))⟩) [7, 5, 0, 1, 6, 2, 3, 4] (by decide) rfl (Nat.le_of_ble_eq_true rfl) (Nat.le_of_ble_eq_true rfl)
      · skip
        have k197 : ¬ ((Int32.toInt r184) = 0) := fun h_9 => c189 ((fa_eq r184 0).mpr h_9)
        refine r_aload_n 83 0 C dX1_takeTop_83 rfl ?_
        refine r_get 84 C dX1_takeTop_84 (k := 0) 5 rfl rfl hiX1 (by decide) rfl (mg 1 rfl) (Or.inl rfl) rfl ?_
        refine r_sipush 87 262 C dX1_takeTop_87 (by decide) ?_
        refine r_callVi 90 C dX1_takeTop_90 [.ref h0] [(h1, .inr (2, [.ref h3, .int z3, .int z4, .ref h4, .ref h5, .ref h6])), (h4, .inl (gI g, 6, .inl f6)), (h5, .inl (gI g, 6, .inl f7))] [(h2, .inr (4, [.ref h7, .int x5])), (h3, .inl (gI g, 48, .inl f5)), (h6, .inl (gI g, 6, .inl f8)), (h7, .inl (gB g, 1500, .inl fn4)), (h0, .inr (1, [.ref h1, .ref h8, .ref h2, .int z178, .long z2, .long 9223372036854775807, .int x1, .int x2, .long y4, .long y5]))] (fun sz => c81_X2_first l g h1 h4 h5 h3 z3 z4 h6 f6 f7 ⟨p15, p16⟩ ⟨p17, p18⟩ sz) gX1_takeTop_X2_first rfl ⟨rfl, rfl⟩ 1 (by decide) ⟨Nat.le_of_ble_eq_true rfl, Nat.le_of_ble_eq_true rfl⟩ 6 rfl rfl [6, 7, 2] [0, 1, 3, 4, 5] rfl rfl (by decide) (by decide) (by decide) rfl rfl (Nat.le_of_ble_eq_true rfl) ⟨Nat.le_of_ble_eq_true rfl, Nat.le_of_ble_eq_true rfl⟩ (fun r198 _ w199 => ?_)
        refine r_ws [(h2, .inr (4, [.ref h7, .int x5])), (h3, .inl (gI g, 48, .inl f5)), (h6, .inl (gI g, 6, .inl f8)), (h7, .inl (gB g, 1500, .inl fn4)), (h0, .inr (1, [.ref h1, .ref h8, .ref h2, .int z178, .long z2, .long 9223372036854775807, .int x1, .int x2, .long y4, .long y5])), (h1, .inr (2, [.ref h3, .int z3, .int z4, .ref h4, .ref h5, .ref h6])), (h4, .inl (gI g, 6, .inl f6)), (h5, .inl (gI g, 6, .inl f7))] rfl ?_
        have p200 : FST (Int32.toInt r198) (Int32.toInt (f6 (Int32.toNatClampNeg 2))) (Int32.toInt (f7 (Int32.toNatClampNeg 2))) := w199
        have gr198 := fb_rng r198
        refine r_iconst 93 2 C dX1_takeTop_93 (by decide) ?_
        refine r_icmp_ne 94 101 C dX1_takeTop_94 (by decide) (fun c201 => ?_) (fun c201 => ?_)
        · skip
          have k202 : ¬ ((Int32.toInt r198) = 2) := fun h_9 => c201 ((fa_eq r198 2).mpr h_9)
          refine r_iconst 101 0 C dX1_takeTop_101 (by decide) ?_
          refine r_callVv 102 C dX1_takeTop_102 [] [(h0, .inr (1, [.ref h1, .ref h8, .ref h2, .int z178, .long z2, .long 9223372036854775807, .int x1, .int x2, .long y4, .long y5]))] [(h2, .inr (4, [.ref h7, .int x5])), (h3, .inl (gI g, 48, .inl f5)), (h6, .inl (gI g, 6, .inl f8)), (h7, .inl (gB g, 1500, .inl fn4)), (h1, .inr (2, [.ref h3, .int z3, .int z4, .ref h4, .ref h5, .ref h6])), (h4, .inl (gI g, 6, .inl f6)), (h5, .inl (gI g, 6, .inl f7))] (fun sz => c53_X1_want l g h0 0 h1 h8 h2 z178 z2 9223372036854775807 x1 x2 y4 y5 (by decide) ⟨p180, p181⟩ ⟨p13, p14⟩ i_x1 i_x2 i_y4 i_y5 sz) gX1_takeTop_X1_want rfl ⟨rfl, rfl⟩ 1 (by decide) ⟨Nat.le_of_ble_eq_true rfl, Nat.le_of_ble_eq_true rfl⟩ 4 rfl rfl [4] [0, 1, 2, 3, 5, 6, 7] rfl rfl (by decide) (by decide) (by decide) rfl rfl (Nat.le_of_ble_eq_true rfl) ⟨Nat.le_of_ble_eq_true rfl, Nat.le_of_ble_eq_true rfl⟩ (fun  z203 w204 => ?_)
          refine r_ws [(h2, .inr (4, [.ref h7, .int x5])), (h3, .inl (gI g, 48, .inl f5)), (h6, .inl (gI g, 6, .inl f8)), (h7, .inl (gB g, 1500, .inl fn4)), (h1, .inr (2, [.ref h3, .int z3, .int z4, .ref h4, .ref h5, .ref h6])), (h4, .inl (gI g, 6, .inl f6)), (h5, .inl (gI g, 6, .inl f7)), (h0, .inr (1, [.ref h1, .ref h8, .ref h2, .int z203, .long z2, .long 9223372036854775807, .int x1, .int x2, .long y4, .long y5]))] rfl ?_
          have p205 : 0 ≤ (Int32.toInt z203) := w204.1
          have p206 : (Int32.toInt z203) ≤ 2 := w204.2.1
          have p207 : WNT (0 : Int) (Int32.toInt z178) (Int32.toInt z203) := w204.2.2.1
          have p208 : (((0 : Int) = 1 ∧ (Int32.toInt z203) = (Int32.toInt z178)) ∨ ((0 : Int) = 0 ∧ 1 ≤ (Int32.toInt z203))) := w204.2.2.2
          clear p208
          exact r_vret 105 Rt dX1_takeTop_105 (z203, z2, z3, z4, f5, f6, f7, f8) (show 0 ≤ (Int32.toInt z203) ∧ (Int32.toInt z203) ≤ 2 ∧ -8589934592 ≤ (Int64.toInt z2) ∧ (Int64.toInt z2) ≤ 8589934592 ∧ 0 ≤ (Int32.toInt z3) ∧ (Int32.toInt z3) ≤ 48 ∧ 0 ≤ (Int32.toInt z4) ∧ (Int32.toInt z4) ≤ 1 ∧ SEQ (Int32.toInt x0) (Int32.toInt z203) (TOPO (GB fn4 (Int32.toInt x5)) (Int32.toInt x5) (Int64.toInt y0) (Int64.toInt y1)) (fun S => S = (SC f6 f7 f8)) from ⟨(show _ ∧ _ from ⟨p205, p206⟩).1, (show _ ∧ _ from ⟨p205, p206⟩).2, (show _ ∧ _ from ⟨p13, p14⟩).1, (show _ ∧ _ from ⟨p13, p14⟩).2, (show _ ∧ _ from ⟨p15, p16⟩).1, (show _ ∧ _ from ⟨p15, p16⟩).2, (show _ ∧ _ from ⟨p17, p18⟩).1, (show _ ∧ _ from ⟨p17, p18⟩).2, (by exact top_pf p19 p160 p171 p182 p207 (by have h_1 := p24; unfold TOL at h_1; have h_2 := p92; unfold FTS at h_2; omega) (by have h_1 := p166; unfold FTS at h_1; omega) (by have h_1 := p177; unfold FTS at h_1; omega) (by have h_1 := p188; unfold TOL at h_1; have h_2 := p200; unfold FST at h_2; omega))⟩) [7, 4, 0, 1, 5, 6, 2, 3] (by decide) rfl (Nat.le_of_ble_eq_true rfl) (Nat.le_of_ble_eq_true rfl)
        · skip
          have k209 : (Int32.toInt r198) = 2 := (fa_eq r198 2).mp c201
          refine r_iconst 97 1 C dX1_takeTop_97 (by decide) ?_
          refine r_goto 98 102 C dX1_takeTop_98 (by decide) ?_
          refine r_callVv 102 C dX1_takeTop_102 [] [(h0, .inr (1, [.ref h1, .ref h8, .ref h2, .int z178, .long z2, .long 9223372036854775807, .int x1, .int x2, .long y4, .long y5]))] [(h2, .inr (4, [.ref h7, .int x5])), (h3, .inl (gI g, 48, .inl f5)), (h6, .inl (gI g, 6, .inl f8)), (h7, .inl (gB g, 1500, .inl fn4)), (h1, .inr (2, [.ref h3, .int z3, .int z4, .ref h4, .ref h5, .ref h6])), (h4, .inl (gI g, 6, .inl f6)), (h5, .inl (gI g, 6, .inl f7))] (fun sz => c53_X1_want l g h0 1 h1 h8 h2 z178 z2 9223372036854775807 x1 x2 y4 y5 (by decide) ⟨p180, p181⟩ ⟨p13, p14⟩ i_x1 i_x2 i_y4 i_y5 sz) gX1_takeTop_X1_want rfl ⟨rfl, rfl⟩ 1 (by decide) ⟨Nat.le_of_ble_eq_true rfl, Nat.le_of_ble_eq_true rfl⟩ 4 rfl rfl [4] [0, 1, 2, 3, 5, 6, 7] rfl rfl (by decide) (by decide) (by decide) rfl rfl (Nat.le_of_ble_eq_true rfl) ⟨Nat.le_of_ble_eq_true rfl, Nat.le_of_ble_eq_true rfl⟩ (fun  z210 w211 => ?_)
          refine r_ws [(h2, .inr (4, [.ref h7, .int x5])), (h3, .inl (gI g, 48, .inl f5)), (h6, .inl (gI g, 6, .inl f8)), (h7, .inl (gB g, 1500, .inl fn4)), (h1, .inr (2, [.ref h3, .int z3, .int z4, .ref h4, .ref h5, .ref h6])), (h4, .inl (gI g, 6, .inl f6)), (h5, .inl (gI g, 6, .inl f7)), (h0, .inr (1, [.ref h1, .ref h8, .ref h2, .int z210, .long z2, .long 9223372036854775807, .int x1, .int x2, .long y4, .long y5]))] rfl ?_
          have p212 : 0 ≤ (Int32.toInt z210) := w211.1
          have p213 : (Int32.toInt z210) ≤ 2 := w211.2.1
          have p214 : WNT (1 : Int) (Int32.toInt z178) (Int32.toInt z210) := w211.2.2.1
          have p215 : (((1 : Int) = 1 ∧ (Int32.toInt z210) = (Int32.toInt z178)) ∨ ((1 : Int) = 0 ∧ 1 ≤ (Int32.toInt z210))) := w211.2.2.2
          clear p215
          exact r_vret 105 Rt dX1_takeTop_105 (z210, z2, z3, z4, f5, f6, f7, f8) (show 0 ≤ (Int32.toInt z210) ∧ (Int32.toInt z210) ≤ 2 ∧ -8589934592 ≤ (Int64.toInt z2) ∧ (Int64.toInt z2) ≤ 8589934592 ∧ 0 ≤ (Int32.toInt z3) ∧ (Int32.toInt z3) ≤ 48 ∧ 0 ≤ (Int32.toInt z4) ∧ (Int32.toInt z4) ≤ 1 ∧ SEQ (Int32.toInt x0) (Int32.toInt z210) (TOPO (GB fn4 (Int32.toInt x5)) (Int32.toInt x5) (Int64.toInt y0) (Int64.toInt y1)) (fun S => S = (SC f6 f7 f8)) from ⟨(show _ ∧ _ from ⟨p212, p213⟩).1, (show _ ∧ _ from ⟨p212, p213⟩).2, (show _ ∧ _ from ⟨p13, p14⟩).1, (show _ ∧ _ from ⟨p13, p14⟩).2, (show _ ∧ _ from ⟨p15, p16⟩).1, (show _ ∧ _ from ⟨p15, p16⟩).2, (show _ ∧ _ from ⟨p17, p18⟩).1, (show _ ∧ _ from ⟨p17, p18⟩).2, (by exact top_pf p19 p160 p171 p182 p214 (by have h_1 := p24; unfold TOL at h_1; have h_2 := p92; unfold FTS at h_2; omega) (by have h_1 := p166; unfold FTS at h_1; omega) (by have h_1 := p177; unfold FTS at h_1; omega) (by have h_1 := p188; unfold TOL at h_1; have h_2 := p200; unfold FST at h_2; omega))⟩) [7, 4, 0, 1, 5, 6, 2, 3] (by decide) rfl (Nat.le_of_ble_eq_true rfl) (Nat.le_of_ble_eq_true rfl)
set_option maxHeartbeats 4000000 in
set_option maxRecDepth 100000 in
theorem c84_X2_isTold (l : Launch) (g : GD) (h0 : Nat) (h1 : Nat) (h2 : Nat) (x0 : Int32) (x1 : Int32) (h3 : Nat) (h4 : Nat) (fn0 : Nat → Int32) (i_x0 : (0 ≤ (Int32.toInt x0) ∧ (Int32.toInt x0) ≤ 48)) (i_x1 : (0 ≤ (Int32.toInt x1) ∧ (Int32.toInt x1) ≤ 1)) (sz : Nat) : Met l yX2_isTold wsX2_isTold ({ frames := 1, cells := 0, slots := 0, locals := 20 }) (va_Pc [.ref h0, .int 18] (PW g [(h0, .inr (2, [.ref h2, .int x0, .int x1, .ref h1, .ref h3, .ref h4])), (h1, .inl (gI g, 6, .inl fn0))] sz)) (va_Qi (fun (r : Int32) (_ : Unit) => 0 ≤ (Int32.toInt r) ∧ (Int32.toInt r) ≤ 1 ∧ TOL (Int32.toInt r) (Int32.toInt (fn0 (Int32.toNatClampNeg 1)))) (BW g (va_A [(h0, .inr (2, [.ref h2, .int x0, .int x1, .ref h1, .ref h3, .ref h4])), (h1, .inl (gI g, 6, .inl fn0))] sz) (fun _ : Unit => [(h0, .inr (2, [.ref h2, .int x0, .int x1, .ref h1, .ref h3, .ref h4])), (h1, .inl (gI g, 6, .inl fn0))])) (va_A [(h0, .inr (2, [.ref h2, .int x0, .int x1, .ref h1, .ref h3, .ref h4])), (h1, .inl (gI g, 6, .inl fn0))] sz)) 0 0 (va_A [(h0, .inr (2, [.ref h2, .int x0, .int x1, .ref h1, .ref h3, .ref h4])), (h1, .inl (gI g, 6, .inl fn0))] sz) := by
  refine met_z RX2 (by decide) rfl rfl (Nat.le_of_ble_eq_true rfl) [(0, .ref h0), (1, .int 18)] rfl ?_
  intro p e s m args below meth c A Q C hnm Rt
  have hiX2 : ∀ w ∈ wsX20, w ∈ wsX2_isTold := fun w h => List.mem_cons_of_mem _ (List.mem_append_right _ (h))
  refine r_iload_n 0 1 C dX2_isTold_0 rfl ?_
  refine r_callSi 1 C dX2_isTold_1 [] [] [(h0, .inr (2, [.ref h2, .int x0, .int x1, .ref h1, .ref h3, .ref h4])), (h1, .inl (gI g, 6, .inl fn0))] (fun sz => c76_X2_slotOf l g   sz) gX2_isTold_X2_slotOf rfl ⟨rfl, rfl⟩ 1 (by decide) ⟨Nat.le_of_ble_eq_true rfl, Nat.le_of_ble_eq_true rfl⟩ [] [0, 1] rfl rfl (by decide) (by decide) (by decide) rfl rfl (Nat.le_of_ble_eq_true rfl) ⟨Nat.le_of_ble_eq_true rfl, Nat.le_of_ble_eq_true rfl⟩ (fun r1 _ w2 => ?_)
  refine r_ws [(h0, .inr (2, [.ref h2, .int x0, .int x1, .ref h1, .ref h3, .ref h4])), (h1, .inl (gI g, 6, .inl fn0))] rfl ?_
  have p3 : 1 = r1 := (w2).symm
  subst p3
  refine r_istore_n 4 C dX2_isTold_4 [(2, .int 1), (0, .ref h0), (1, .int 18)] (by decide) rfl ?_
  refine r_iload_n 5 0 C dX2_isTold_5 rfl ?_
  refine r_iconst 6 (-1) C dX2_isTold_6 (by decide) ?_
  refine r_icmp_eq_f 7 24 C dX2_isTold_7 (by decide) (by decide) ?_
  refine r_aload_n 10 1 C dX2_isTold_10 rfl ?_
  refine r_get 11 C dX2_isTold_11 (k := 3) 0 rfl rfl hiX2 (by decide) rfl (mg 1 rfl) (Or.inl rfl) rfl ?_
  refine r_iload_n 14 0 C dX2_isTold_14 rfl ?_
  obtain ⟨z4, ez4⟩ : ∃ z_9, fn0 (Int32.toNatClampNeg 1) = z_9 := ⟨_, rfl⟩
  have vz4 : Int32.toInt (fn0 (Int32.toNatClampNeg 1)) = Int32.toInt z4 := congrArg _ ez4
  refine r_iald 15 z4 C dX2_isTold_15 1 rfl (vin (by decide)) ez4 ?_
  have gz4 := fb_rng z4
  refine r_iconst 16 (-1) C dX2_isTold_16 (by decide) ?_
  refine r_icmp_eq 17 24 C dX2_isTold_17 (by decide) (fun c5 => ?_) (fun c5 => ?_)
  · skip
    have k6 : (Int32.toInt z4) = (-1) := (fa_eq z4 (-1)).mp c5
    refine r_iconst 24 0 C dX2_isTold_24 (by decide) ?_
    exact r_zret 25 Rt dX2_isTold_25 (by decide) () (show 0 ≤ (Int32.toInt 0) ∧ (Int32.toInt 0) ≤ 1 ∧ TOL 0 (Int32.toInt (fn0 (Int32.toNatClampNeg 1))) from ⟨(by ((repeat' apply And.intro) <;> first | trivial | rfl | assumption | omega | decide | exact Or.inl rfl | exact Or.inr (Or.inl rfl) | exact Or.inr (Or.inr rfl))), (by ((repeat' apply And.intro) <;> first | trivial | rfl | assumption | omega | decide | exact Or.inl rfl | exact Or.inr (Or.inl rfl) | exact Or.inr (Or.inr rfl))), (by unfold TOL; omega)⟩) [0, 1] (by decide) rfl (Nat.le_of_ble_eq_true rfl) (Nat.le_of_ble_eq_true rfl)
  · skip
    have k7 : ¬ ((Int32.toInt z4) = (-1)) := fun h_9 => c5 ((fa_eq z4 (-1)).mpr h_9)
    refine r_iconst 20 1 C dX2_isTold_20 (by decide) ?_
    refine r_goto 21 25 C dX2_isTold_21 (by decide) ?_
    exact r_zret 25 Rt dX2_isTold_25 (by decide) () (show 0 ≤ (Int32.toInt 1) ∧ (Int32.toInt 1) ≤ 1 ∧ TOL 1 (Int32.toInt (fn0 (Int32.toNatClampNeg 1))) from ⟨(by ((repeat' apply And.intro) <;> first | trivial | rfl | assumption | omega | decide | exact Or.inl rfl | exact Or.inr (Or.inl rfl) | exact Or.inr (Or.inr rfl))), (by ((repeat' apply And.intro) <;> first | trivial | rfl | assumption | omega | decide | exact Or.inl rfl | exact Or.inr (Or.inl rfl) | exact Or.inr (Or.inr rfl))), (by unfold TOL; omega)⟩) [0, 1] (by decide) rfl (Nat.le_of_ble_eq_true rfl) (Nat.le_of_ble_eq_true rfl)
set_option maxHeartbeats 4000000 in
set_option maxRecDepth 100000 in
theorem c85_X2_second (l : Launch) (g : GD) (h0 : Nat) (h1 : Nat) (h2 : Nat) (h3 : Nat) (x0 : Int32) (x1 : Int32) (h4 : Nat) (fn0 : Nat → Int32) (fn1 : Nat → Int32) (i_x0 : (0 ≤ (Int32.toInt x0) ∧ (Int32.toInt x0) ≤ 48)) (i_x1 : (0 ≤ (Int32.toInt x1) ∧ (Int32.toInt x1) ≤ 1)) (sz : Nat) : Met l yX2_second wsX2_second ({ frames := 2, cells := 0, slots := 0, locals := 42 }) (va_Pc [.ref h0, .int 18] (PW g [(h0, .inr (2, [.ref h3, .int x0, .int x1, .ref h1, .ref h4, .ref h2])), (h1, .inl (gI g, 6, .inl fn0)), (h2, .inl (gI g, 6, .inl fn1))] sz)) (va_Qi (fun (r : Int32) (_ : Unit) => FST (Int32.toInt r) (Int32.toInt (fn0 (Int32.toNatClampNeg 1))) (Int32.toInt (fn1 (Int32.toNatClampNeg 1)))) (BW g (va_A [(h0, .inr (2, [.ref h3, .int x0, .int x1, .ref h1, .ref h4, .ref h2])), (h1, .inl (gI g, 6, .inl fn0)), (h2, .inl (gI g, 6, .inl fn1))] sz) (fun _ : Unit => [(h0, .inr (2, [.ref h3, .int x0, .int x1, .ref h1, .ref h4, .ref h2])), (h1, .inl (gI g, 6, .inl fn0)), (h2, .inl (gI g, 6, .inl fn1))])) (va_A [(h0, .inr (2, [.ref h3, .int x0, .int x1, .ref h1, .ref h4, .ref h2])), (h1, .inl (gI g, 6, .inl fn0)), (h2, .inl (gI g, 6, .inl fn1))] sz)) 0 0 (va_A [(h0, .inr (2, [.ref h3, .int x0, .int x1, .ref h1, .ref h4, .ref h2])), (h1, .inl (gI g, 6, .inl fn0)), (h2, .inl (gI g, 6, .inl fn1))] sz) := by
  refine met_i RX2 (by decide) rfl rfl (Nat.le_of_ble_eq_true rfl) [(0, .ref h0), (1, .int 18)] rfl ?_
  intro p e s m args below meth c A Q C hnm Rt
  have hiX2 : ∀ w ∈ wsX20, w ∈ wsX2_second := fun w h => List.mem_cons_of_mem _ (List.mem_append_right _ (h))
  refine r_aload_n 0 0 C dX2_second_0 rfl ?_
  refine r_iload_n 1 1 C dX2_second_1 rfl ?_
  refine r_callVi 2 C dX2_second_2 [] [(h0, .inr (2, [.ref h3, .int x0, .int x1, .ref h1, .ref h4, .ref h2])), (h1, .inl (gI g, 6, .inl fn0))] [(h2, .inl (gI g, 6, .inl fn1))] (fun sz => c84_X2_isTold l g h0 h1 h3 x0 x1 h4 h2 fn0 i_x0 i_x1 sz) gX2_second_X2_isTold rfl ⟨rfl, rfl⟩ 1 (by decide) ⟨Nat.le_of_ble_eq_true rfl, Nat.le_of_ble_eq_true rfl⟩ 0 rfl rfl [0, 1] [2] rfl rfl (by decide) (by decide) (by decide) rfl rfl (Nat.le_of_ble_eq_true rfl) ⟨Nat.le_of_ble_eq_true rfl, Nat.le_of_ble_eq_true rfl⟩ (fun r1 _ w2 => ?_)
  refine r_ws [(h2, .inl (gI g, 6, .inl fn1)), (h0, .inr (2, [.ref h3, .int x0, .int x1, .ref h1, .ref h4, .ref h2])), (h1, .inl (gI g, 6, .inl fn0))] rfl ?_
  have p3 : 0 ≤ (Int32.toInt r1) := w2.1
  have p4 : (Int32.toInt r1) ≤ 1 := w2.2.1
  have p5 : TOL (Int32.toInt r1) (Int32.toInt (fn0 (Int32.toNatClampNeg 1))) := w2.2.2
  refine r_if_eq 5 20 C dX2_second_5 (by decide) (fun c6 => ?_) (fun c6 => ?_)
  · skip
    have k7 : (Int32.toInt r1) = 0 := (fa_eq r1 0).mp c6
    refine r_iconst 20 0 C dX2_second_20 (by decide) ?_
    exact r_iret 21 Rt dX2_second_21 () (show FST 0 (Int32.toInt (fn0 (Int32.toNatClampNeg 1))) (Int32.toInt (fn1 (Int32.toNatClampNeg 1))) from (by have h_9 := p5; unfold TOL at h_9; unfold FST; omega)) [1, 2, 0] (by decide) rfl (Nat.le_of_ble_eq_true rfl) (Nat.le_of_ble_eq_true rfl)
  · skip
    have k8 : ¬ ((Int32.toInt r1) = 0) := fun h_9 => c6 ((fa_eq r1 0).mpr h_9)
    refine r_aload_n 8 0 C dX2_second_8 rfl ?_
    refine r_get 9 C dX2_second_9 (k := 5) 1 rfl rfl hiX2 (by decide) rfl (mg 1 rfl) (Or.inl rfl) rfl ?_
    refine r_iload_n 12 1 C dX2_second_12 rfl ?_
    refine r_callSi 13 C dX2_second_13 [.ref h2] [] [(h2, .inl (gI g, 6, .inl fn1)), (h0, .inr (2, [.ref h3, .int x0, .int x1, .ref h1, .ref h4, .ref h2])), (h1, .inl (gI g, 6, .inl fn0))] (fun sz => c76_X2_slotOf l g   sz) gX2_second_X2_slotOf rfl ⟨rfl, rfl⟩ 1 (by decide) ⟨Nat.le_of_ble_eq_true rfl, Nat.le_of_ble_eq_true rfl⟩ [] [0, 1, 2] rfl rfl (by decide) (by decide) (by decide) rfl rfl (Nat.le_of_ble_eq_true rfl) ⟨Nat.le_of_ble_eq_true rfl, Nat.le_of_ble_eq_true rfl⟩ (fun r9 _ w10 => ?_)
    refine r_ws [(h2, .inl (gI g, 6, .inl fn1)), (h0, .inr (2, [.ref h3, .int x0, .int x1, .ref h1, .ref h4, .ref h2])), (h1, .inl (gI g, 6, .inl fn0))] rfl ?_
    have p11 : 1 = r9 := (w10).symm
    subst p11
    obtain ⟨z12, ez12⟩ : ∃ z_9, fn1 (Int32.toNatClampNeg 1) = z_9 := ⟨_, rfl⟩
    have vz12 : Int32.toInt (fn1 (Int32.toNatClampNeg 1)) = Int32.toInt z12 := congrArg _ ez12
    refine r_iald 16 z12 C dX2_second_16 0 rfl (vin (by decide)) ez12 ?_
    have gz12 := fb_rng z12
    refine r_goto 17 21 C dX2_second_17 (by decide) ?_
    exact r_iret 21 Rt dX2_second_21 () (show FST (Int32.toInt z12) (Int32.toInt (fn0 (Int32.toNatClampNeg 1))) (Int32.toInt (fn1 (Int32.toNatClampNeg 1))) from (by have h_9 := p5; unfold TOL at h_9; unfold FST; omega)) [1, 2, 0] (by decide) rfl (Nat.le_of_ble_eq_true rfl) (Nat.le_of_ble_eq_true rfl)
set_option maxHeartbeats 4000000 in
set_option maxRecDepth 100000 in
theorem c86_X2_first (l : Launch) (g : GD) (h0 : Nat) (h1 : Nat) (h2 : Nat) (h3 : Nat) (x0 : Int32) (x1 : Int32) (h4 : Nat) (fn0 : Nat → Int32) (fn1 : Nat → Int32) (i_x0 : (0 ≤ (Int32.toInt x0) ∧ (Int32.toInt x0) ≤ 48)) (i_x1 : (0 ≤ (Int32.toInt x1) ∧ (Int32.toInt x1) ≤ 1)) (sz : Nat) : Met l yX2_first wsX2_first ({ frames := 2, cells := 0, slots := 0, locals := 42 }) (va_Pc [.ref h0, .int 18] (PW g [(h0, .inr (2, [.ref h3, .int x0, .int x1, .ref h1, .ref h2, .ref h4])), (h1, .inl (gI g, 6, .inl fn0)), (h2, .inl (gI g, 6, .inl fn1))] sz)) (va_Qi (fun (r : Int32) (_ : Unit) => FST (Int32.toInt r) (Int32.toInt (fn0 (Int32.toNatClampNeg 1))) (Int32.toInt (fn1 (Int32.toNatClampNeg 1)))) (BW g (va_A [(h0, .inr (2, [.ref h3, .int x0, .int x1, .ref h1, .ref h2, .ref h4])), (h1, .inl (gI g, 6, .inl fn0)), (h2, .inl (gI g, 6, .inl fn1))] sz) (fun _ : Unit => [(h0, .inr (2, [.ref h3, .int x0, .int x1, .ref h1, .ref h2, .ref h4])), (h1, .inl (gI g, 6, .inl fn0)), (h2, .inl (gI g, 6, .inl fn1))])) (va_A [(h0, .inr (2, [.ref h3, .int x0, .int x1, .ref h1, .ref h2, .ref h4])), (h1, .inl (gI g, 6, .inl fn0)), (h2, .inl (gI g, 6, .inl fn1))] sz)) 0 0 (va_A [(h0, .inr (2, [.ref h3, .int x0, .int x1, .ref h1, .ref h2, .ref h4])), (h1, .inl (gI g, 6, .inl fn0)), (h2, .inl (gI g, 6, .inl fn1))] sz) := by
  refine met_i RX2 (by decide) rfl rfl (Nat.le_of_ble_eq_true rfl) [(0, .ref h0), (1, .int 18)] rfl ?_
  intro p e s m args below meth c A Q C hnm Rt
  have hiX2 : ∀ w ∈ wsX20, w ∈ wsX2_first := fun w h => List.mem_cons_of_mem _ (List.mem_append_right _ (h))
  refine r_aload_n 0 0 C dX2_first_0 rfl ?_
  refine r_iload_n 1 1 C dX2_first_1 rfl ?_
  refine r_callVi 2 C dX2_first_2 [] [(h0, .inr (2, [.ref h3, .int x0, .int x1, .ref h1, .ref h2, .ref h4])), (h1, .inl (gI g, 6, .inl fn0))] [(h2, .inl (gI g, 6, .inl fn1))] (fun sz => c84_X2_isTold l g h0 h1 h3 x0 x1 h2 h4 fn0 i_x0 i_x1 sz) gX2_first_X2_isTold rfl ⟨rfl, rfl⟩ 1 (by decide) ⟨Nat.le_of_ble_eq_true rfl, Nat.le_of_ble_eq_true rfl⟩ 0 rfl rfl [0, 1] [2] rfl rfl (by decide) (by decide) (by decide) rfl rfl (Nat.le_of_ble_eq_true rfl) ⟨Nat.le_of_ble_eq_true rfl, Nat.le_of_ble_eq_true rfl⟩ (fun r1 _ w2 => ?_)
  refine r_ws [(h2, .inl (gI g, 6, .inl fn1)), (h0, .inr (2, [.ref h3, .int x0, .int x1, .ref h1, .ref h2, .ref h4])), (h1, .inl (gI g, 6, .inl fn0))] rfl ?_
  have p3 : 0 ≤ (Int32.toInt r1) := w2.1
  have p4 : (Int32.toInt r1) ≤ 1 := w2.2.1
  have p5 : TOL (Int32.toInt r1) (Int32.toInt (fn0 (Int32.toNatClampNeg 1))) := w2.2.2
  refine r_if_eq 5 20 C dX2_first_5 (by decide) (fun c6 => ?_) (fun c6 => ?_)
  · skip
    have k7 : (Int32.toInt r1) = 0 := (fa_eq r1 0).mp c6
    refine r_iconst 20 0 C dX2_first_20 (by decide) ?_
    exact r_iret 21 Rt dX2_first_21 () (show FST 0 (Int32.toInt (fn0 (Int32.toNatClampNeg 1))) (Int32.toInt (fn1 (Int32.toNatClampNeg 1))) from (by have h_9 := p5; unfold TOL at h_9; unfold FST; omega)) [1, 2, 0] (by decide) rfl (Nat.le_of_ble_eq_true rfl) (Nat.le_of_ble_eq_true rfl)
  · skip
    have k8 : ¬ ((Int32.toInt r1) = 0) := fun h_9 => c6 ((fa_eq r1 0).mpr h_9)
    refine r_aload_n 8 0 C dX2_first_8 rfl ?_
    refine r_get 9 C dX2_first_9 (k := 4) 1 rfl rfl hiX2 (by decide) rfl (mg 1 rfl) (Or.inl rfl) rfl ?_
    refine r_iload_n 12 1 C dX2_first_12 rfl ?_
    refine r_callSi 13 C dX2_first_13 [.ref h2] [] [(h2, .inl (gI g, 6, .inl fn1)), (h0, .inr (2, [.ref h3, .int x0, .int x1, .ref h1, .ref h2, .ref h4])), (h1, .inl (gI g, 6, .inl fn0))] (fun sz => c76_X2_slotOf l g   sz) gX2_first_X2_slotOf rfl ⟨rfl, rfl⟩ 1 (by decide) ⟨Nat.le_of_ble_eq_true rfl, Nat.le_of_ble_eq_true rfl⟩ [] [0, 1, 2] rfl rfl (by decide) (by decide) (by decide) rfl rfl (Nat.le_of_ble_eq_true rfl) ⟨Nat.le_of_ble_eq_true rfl, Nat.le_of_ble_eq_true rfl⟩ (fun r9 _ w10 => ?_)
    refine r_ws [(h2, .inl (gI g, 6, .inl fn1)), (h0, .inr (2, [.ref h3, .int x0, .int x1, .ref h1, .ref h2, .ref h4])), (h1, .inl (gI g, 6, .inl fn0))] rfl ?_
    have p11 : 1 = r9 := (w10).symm
    subst p11
    obtain ⟨z12, ez12⟩ : ∃ z_9, fn1 (Int32.toNatClampNeg 1) = z_9 := ⟨_, rfl⟩
    have vz12 : Int32.toInt (fn1 (Int32.toNatClampNeg 1)) = Int32.toInt z12 := congrArg _ ez12
    refine r_iald 16 z12 C dX2_first_16 0 rfl (vin (by decide)) ez12 ?_
    have gz12 := fb_rng z12
    refine r_goto 17 21 C dX2_first_17 (by decide) ?_
    exact r_iret 21 Rt dX2_first_21 () (show FST (Int32.toInt z12) (Int32.toInt (fn0 (Int32.toNatClampNeg 1))) (Int32.toInt (fn1 (Int32.toNatClampNeg 1))) from (by have h_9 := p5; unfold TOL at h_9; unfold FST; omega)) [1, 2, 0] (by decide) rfl (Nat.le_of_ble_eq_true rfl) (Nat.le_of_ble_eq_true rfl)
set_option maxHeartbeats 4000000 in
set_option maxRecDepth 100000 in
theorem c87_X2_first (l : Launch) (g : GD) (h0 : Nat) (h1 : Nat) (h2 : Nat) (h3 : Nat) (x0 : Int32) (x1 : Int32) (h4 : Nat) (fn0 : Nat → Int32) (fn1 : Nat → Int32) (i_x0 : (0 ≤ (Int32.toInt x0) ∧ (Int32.toInt x0) ≤ 48)) (i_x1 : (0 ≤ (Int32.toInt x1) ∧ (Int32.toInt x1) ≤ 1)) (sz : Nat) : Met l yX2_first wsX2_first ({ frames := 2, cells := 0, slots := 0, locals := 42 }) (va_Pc [.ref h0, .int 17] (PW g [(h0, .inr (2, [.ref h3, .int x0, .int x1, .ref h1, .ref h2, .ref h4])), (h1, .inl (gI g, 6, .inl fn0)), (h2, .inl (gI g, 6, .inl fn1))] sz)) (va_Qi (fun (r : Int32) (_ : Unit) => FST (Int32.toInt r) (Int32.toInt (fn0 (Int32.toNatClampNeg 0))) (Int32.toInt (fn1 (Int32.toNatClampNeg 0)))) (BW g (va_A [(h0, .inr (2, [.ref h3, .int x0, .int x1, .ref h1, .ref h2, .ref h4])), (h1, .inl (gI g, 6, .inl fn0)), (h2, .inl (gI g, 6, .inl fn1))] sz) (fun _ : Unit => [(h0, .inr (2, [.ref h3, .int x0, .int x1, .ref h1, .ref h2, .ref h4])), (h1, .inl (gI g, 6, .inl fn0)), (h2, .inl (gI g, 6, .inl fn1))])) (va_A [(h0, .inr (2, [.ref h3, .int x0, .int x1, .ref h1, .ref h2, .ref h4])), (h1, .inl (gI g, 6, .inl fn0)), (h2, .inl (gI g, 6, .inl fn1))] sz)) 0 0 (va_A [(h0, .inr (2, [.ref h3, .int x0, .int x1, .ref h1, .ref h2, .ref h4])), (h1, .inl (gI g, 6, .inl fn0)), (h2, .inl (gI g, 6, .inl fn1))] sz) := by
  refine met_i RX2 (by decide) rfl rfl (Nat.le_of_ble_eq_true rfl) [(0, .ref h0), (1, .int 17)] rfl ?_
  intro p e s m args below meth c A Q C hnm Rt
  have hiX2 : ∀ w ∈ wsX20, w ∈ wsX2_first := fun w h => List.mem_cons_of_mem _ (List.mem_append_right _ (h))
  refine r_aload_n 0 0 C dX2_first_0 rfl ?_
  refine r_iload_n 1 1 C dX2_first_1 rfl ?_
  refine r_callVi 2 C dX2_first_2 [] [(h0, .inr (2, [.ref h3, .int x0, .int x1, .ref h1, .ref h2, .ref h4])), (h1, .inl (gI g, 6, .inl fn0))] [(h2, .inl (gI g, 6, .inl fn1))] (fun sz => c75_X2_isTold l g h0 h1 h3 x0 x1 h2 h4 fn0 i_x0 i_x1 sz) gX2_first_X2_isTold rfl ⟨rfl, rfl⟩ 1 (by decide) ⟨Nat.le_of_ble_eq_true rfl, Nat.le_of_ble_eq_true rfl⟩ 0 rfl rfl [0, 1] [2] rfl rfl (by decide) (by decide) (by decide) rfl rfl (Nat.le_of_ble_eq_true rfl) ⟨Nat.le_of_ble_eq_true rfl, Nat.le_of_ble_eq_true rfl⟩ (fun r1 _ w2 => ?_)
  refine r_ws [(h2, .inl (gI g, 6, .inl fn1)), (h0, .inr (2, [.ref h3, .int x0, .int x1, .ref h1, .ref h2, .ref h4])), (h1, .inl (gI g, 6, .inl fn0))] rfl ?_
  have p3 : 0 ≤ (Int32.toInt r1) := w2.1
  have p4 : (Int32.toInt r1) ≤ 1 := w2.2.1
  have p5 : TOL (Int32.toInt r1) (Int32.toInt (fn0 (Int32.toNatClampNeg 0))) := w2.2.2
  refine r_if_eq 5 20 C dX2_first_5 (by decide) (fun c6 => ?_) (fun c6 => ?_)
  · skip
    have k7 : (Int32.toInt r1) = 0 := (fa_eq r1 0).mp c6
    refine r_iconst 20 0 C dX2_first_20 (by decide) ?_
    exact r_iret 21 Rt dX2_first_21 () (show FST 0 (Int32.toInt (fn0 (Int32.toNatClampNeg 0))) (Int32.toInt (fn1 (Int32.toNatClampNeg 0))) from (by have h_9 := p5; unfold TOL at h_9; unfold FST; omega)) [1, 2, 0] (by decide) rfl (Nat.le_of_ble_eq_true rfl) (Nat.le_of_ble_eq_true rfl)
  · skip
    have k8 : ¬ ((Int32.toInt r1) = 0) := fun h_9 => c6 ((fa_eq r1 0).mpr h_9)
    refine r_aload_n 8 0 C dX2_first_8 rfl ?_
    refine r_get 9 C dX2_first_9 (k := 4) 1 rfl rfl hiX2 (by decide) rfl (mg 1 rfl) (Or.inl rfl) rfl ?_
    refine r_iload_n 12 1 C dX2_first_12 rfl ?_
    refine r_callSi 13 C dX2_first_13 [.ref h2] [] [(h2, .inl (gI g, 6, .inl fn1)), (h0, .inr (2, [.ref h3, .int x0, .int x1, .ref h1, .ref h2, .ref h4])), (h1, .inl (gI g, 6, .inl fn0))] (fun sz => c74_X2_slotOf l g   sz) gX2_first_X2_slotOf rfl ⟨rfl, rfl⟩ 1 (by decide) ⟨Nat.le_of_ble_eq_true rfl, Nat.le_of_ble_eq_true rfl⟩ [] [0, 1, 2] rfl rfl (by decide) (by decide) (by decide) rfl rfl (Nat.le_of_ble_eq_true rfl) ⟨Nat.le_of_ble_eq_true rfl, Nat.le_of_ble_eq_true rfl⟩ (fun r9 _ w10 => ?_)
    refine r_ws [(h2, .inl (gI g, 6, .inl fn1)), (h0, .inr (2, [.ref h3, .int x0, .int x1, .ref h1, .ref h2, .ref h4])), (h1, .inl (gI g, 6, .inl fn0))] rfl ?_
    have p11 : 0 = r9 := (w10).symm
    subst p11
    obtain ⟨z12, ez12⟩ : ∃ z_9, fn1 (Int32.toNatClampNeg 0) = z_9 := ⟨_, rfl⟩
    have vz12 : Int32.toInt (fn1 (Int32.toNatClampNeg 0)) = Int32.toInt z12 := congrArg _ ez12
    refine r_iald 16 z12 C dX2_first_16 0 rfl (vin (by decide)) ez12 ?_
    have gz12 := fb_rng z12
    refine r_goto 17 21 C dX2_first_17 (by decide) ?_
    exact r_iret 21 Rt dX2_first_21 () (show FST (Int32.toInt z12) (Int32.toInt (fn0 (Int32.toNatClampNeg 0))) (Int32.toInt (fn1 (Int32.toNatClampNeg 0))) from (by have h_9 := p5; unfold TOL at h_9; unfold FST; omega)) [1, 2, 0] (by decide) rfl (Nat.le_of_ble_eq_true rfl) (Nat.le_of_ble_eq_true rfl)
set_option maxHeartbeats 4000000 in
set_option maxRecDepth 100000 in
theorem c88_X2_slotOf (l : Launch) (g : GD) (sz : Nat) : Met l yX2_slotOf wsX2_slotOf ({ frames := 0, cells := 0, slots := 0, locals := 0 }) (va_Pc [.int 19] (PW g [] sz)) (va_Qi (fun (r : Int32) (_ : Unit) => r = 3) (BW g (va_A [] sz) (fun _ : Unit => [])) (va_A [] sz)) 0 0 (va_A [] sz) := by
  refine met_i RX2 (by decide) rfl rfl (Nat.le_of_ble_eq_true rfl) [(0, .int 19)] rfl ?_
  intro p e s m args below meth c A Q C hnm Rt
  refine r_iload_n 0 0 C dX2_slotOf_0 rfl ?_
  refine r_lookup 1 66 (off := 65) C dX2_slotOf_1 (by decide) (by decide) (by decide) ?_
  refine r_iconst 66 3 C dX2_slotOf_66 (by decide) ?_
  exact r_iret 67 Rt dX2_slotOf_67 () (show 3 = 3 from (by ((repeat' apply And.intro) <;> first | trivial | rfl | assumption | omega | decide | exact Or.inl rfl | exact Or.inr (Or.inl rfl) | exact Or.inr (Or.inr rfl)))) [] (by decide) rfl (Nat.le_of_ble_eq_true rfl) (Nat.le_of_ble_eq_true rfl)
set_option maxHeartbeats 4000000 in
set_option maxRecDepth 100000 in
theorem c89_X2_fits (l : Launch) (g : GD) (h0 : Nat) (h1 : Nat) (x0 : Int32) (h2 : Nat) (x1 : Int32) (x2 : Int32) (h3 : Nat) (h4 : Nat) (fn0 : Nat → Int32) (i_x1 : (0 ≤ (Int32.toInt x1) ∧ (Int32.toInt x1) ≤ 48)) (i_x2 : (0 ≤ (Int32.toInt x2) ∧ (Int32.toInt x2) ≤ 1)) (sz : Nat) : Met l yX2_fits wsX2_fits ({ frames := 1, cells := 0, slots := 0, locals := 20 }) (va_Pc [.ref h0, .int 19, .int x0] (PW g [(h0, .inr (2, [.ref h2, .int x1, .int x2, .ref h1, .ref h3, .ref h4])), (h1, .inl (gI g, 6, .inl fn0))] sz)) (va_Qi (fun (r : Int32) (_ : Unit) => 0 ≤ (Int32.toInt r) ∧ (Int32.toInt r) ≤ 1 ∧ FTS (Int32.toInt r) (Int32.toInt (fn0 (Int32.toNatClampNeg 3))) (Int32.toInt x0)) (BW g (va_A [(h0, .inr (2, [.ref h2, .int x1, .int x2, .ref h1, .ref h3, .ref h4])), (h1, .inl (gI g, 6, .inl fn0))] sz) (fun _ : Unit => [(h0, .inr (2, [.ref h2, .int x1, .int x2, .ref h1, .ref h3, .ref h4])), (h1, .inl (gI g, 6, .inl fn0))])) (va_A [(h0, .inr (2, [.ref h2, .int x1, .int x2, .ref h1, .ref h3, .ref h4])), (h1, .inl (gI g, 6, .inl fn0))] sz)) 0 0 (va_A [(h0, .inr (2, [.ref h2, .int x1, .int x2, .ref h1, .ref h3, .ref h4])), (h1, .inl (gI g, 6, .inl fn0))] sz) := by
  refine met_z RX2 (by decide) rfl rfl (Nat.le_of_ble_eq_true rfl) [(0, .ref h0), (1, .int 19), (2, .int x0)] rfl ?_
  intro p e s m args below meth c A Q C hnm Rt
  have gx0 := fb_rng x0
  have hiX2 : ∀ w ∈ wsX20, w ∈ wsX2_fits := fun w h => List.mem_cons_of_mem _ (List.mem_append_right _ (h))
  refine r_iload_n 0 1 C dX2_fits_0 rfl ?_
  refine r_callSi 1 C dX2_fits_1 [] [] [(h0, .inr (2, [.ref h2, .int x1, .int x2, .ref h1, .ref h3, .ref h4])), (h1, .inl (gI g, 6, .inl fn0))] (fun sz => c88_X2_slotOf l g   sz) gX2_fits_X2_slotOf rfl ⟨rfl, rfl⟩ 1 (by decide) ⟨Nat.le_of_ble_eq_true rfl, Nat.le_of_ble_eq_true rfl⟩ [] [0, 1] rfl rfl (by decide) (by decide) (by decide) rfl rfl (Nat.le_of_ble_eq_true rfl) ⟨Nat.le_of_ble_eq_true rfl, Nat.le_of_ble_eq_true rfl⟩ (fun r1 _ w2 => ?_)
  refine r_ws [(h0, .inr (2, [.ref h2, .int x1, .int x2, .ref h1, .ref h3, .ref h4])), (h1, .inl (gI g, 6, .inl fn0))] rfl ?_
  have p3 : 3 = r1 := (w2).symm
  subst p3
  refine r_istore_n 4 C dX2_fits_4 [(3, .int 3), (0, .ref h0), (1, .int 19), (2, .int x0)] (by decide) rfl ?_
  refine r_iload_n 5 0 C dX2_fits_5 rfl ?_
  refine r_iconst 6 (-1) C dX2_fits_6 (by decide) ?_
  refine r_icmp_eq_f 7 30 C dX2_fits_7 (by decide) (by decide) ?_
  refine r_aload_n 10 1 C dX2_fits_10 rfl ?_
  refine r_get 11 C dX2_fits_11 (k := 3) 0 rfl rfl hiX2 (by decide) rfl (mg 1 rfl) (Or.inl rfl) rfl ?_
  refine r_iload_n 14 0 C dX2_fits_14 rfl ?_
  obtain ⟨z4, ez4⟩ : ∃ z_9, fn0 (Int32.toNatClampNeg 3) = z_9 := ⟨_, rfl⟩
  have vz4 : Int32.toInt (fn0 (Int32.toNatClampNeg 3)) = Int32.toInt z4 := congrArg _ ez4
  refine r_iald 15 z4 C dX2_fits_15 1 rfl (vin (by decide)) ez4 ?_
  have gz4 := fb_rng z4
  refine r_iconst 16 (-1) C dX2_fits_16 (by decide) ?_
  refine r_icmp_eq 17 30 C dX2_fits_17 (by decide) (fun c5 => ?_) (fun c5 => ?_)
  · skip
    have k6 : (Int32.toInt z4) = (-1) := (fa_eq z4 (-1)).mp c5
    refine r_iconst 30 1 C dX2_fits_30 (by decide) ?_
    refine r_goto 31 35 C dX2_fits_31 (by decide) ?_
    exact r_zret 35 Rt dX2_fits_35 (by decide) () (show 0 ≤ (Int32.toInt 1) ∧ (Int32.toInt 1) ≤ 1 ∧ FTS 1 (Int32.toInt (fn0 (Int32.toNatClampNeg 3))) (Int32.toInt x0) from ⟨(by ((repeat' apply And.intro) <;> first | trivial | rfl | assumption | omega | decide | exact Or.inl rfl | exact Or.inr (Or.inl rfl) | exact Or.inr (Or.inr rfl))), (by ((repeat' apply And.intro) <;> first | trivial | rfl | assumption | omega | decide | exact Or.inl rfl | exact Or.inr (Or.inl rfl) | exact Or.inr (Or.inr rfl))), (by unfold FTS; omega)⟩) [0, 1] (by decide) rfl (Nat.le_of_ble_eq_true rfl) (Nat.le_of_ble_eq_true rfl)
  · skip
    have k7 : ¬ ((Int32.toInt z4) = (-1)) := fun h_9 => c5 ((fa_eq z4 (-1)).mpr h_9)
    refine r_aload_n 20 1 C dX2_fits_20 rfl ?_
    refine r_get 21 C dX2_fits_21 (k := 3) 0 rfl rfl hiX2 (by decide) rfl (mg 1 rfl) (Or.inl rfl) rfl ?_
    refine r_iload_n 24 0 C dX2_fits_24 rfl ?_
    obtain ⟨z8, ez8⟩ : ∃ z_9, fn0 (Int32.toNatClampNeg 3) = z_9 := ⟨_, rfl⟩
    have vz8 : Int32.toInt (fn0 (Int32.toNatClampNeg 3)) = Int32.toInt z8 := congrArg _ ez8
    refine r_iald 25 z8 C dX2_fits_25 1 rfl (vin (by decide)) ez8 ?_
    have gz8 := fb_rng z8
    refine r_iload_n 26 3 C dX2_fits_26 rfl ?_
    refine r_icmp_ne 27 34 C dX2_fits_27 (by decide) (fun c9 => ?_) (fun c9 => ?_)
    · skip
      have k10 : ¬ ((Int32.toInt z8) = (Int32.toInt x0)) := fun h_9 => c9 ((fa_eq z8 x0).mpr h_9)
      refine r_iconst 34 0 C dX2_fits_34 (by decide) ?_
      exact r_zret 35 Rt dX2_fits_35 (by decide) () (show 0 ≤ (Int32.toInt 0) ∧ (Int32.toInt 0) ≤ 1 ∧ FTS 0 (Int32.toInt (fn0 (Int32.toNatClampNeg 3))) (Int32.toInt x0) from ⟨(by ((repeat' apply And.intro) <;> first | trivial | rfl | assumption | omega | decide | exact Or.inl rfl | exact Or.inr (Or.inl rfl) | exact Or.inr (Or.inr rfl))), (by ((repeat' apply And.intro) <;> first | trivial | rfl | assumption | omega | decide | exact Or.inl rfl | exact Or.inr (Or.inl rfl) | exact Or.inr (Or.inr rfl))), (by unfold FTS; omega)⟩) [0, 1] (by decide) rfl (Nat.le_of_ble_eq_true rfl) (Nat.le_of_ble_eq_true rfl)
    · skip
      have k11 : (Int32.toInt z8) = (Int32.toInt x0) := (fa_eq z8 x0).mp c9
      refine r_iconst 30 1 C dX2_fits_30 (by decide) ?_
      refine r_goto 31 35 C dX2_fits_31 (by decide) ?_
      exact r_zret 35 Rt dX2_fits_35 (by decide) () (show 0 ≤ (Int32.toInt 1) ∧ (Int32.toInt 1) ≤ 1 ∧ FTS 1 (Int32.toInt (fn0 (Int32.toNatClampNeg 3))) (Int32.toInt x0) from ⟨(by ((repeat' apply And.intro) <;> first | trivial | rfl | assumption | omega | decide | exact Or.inl rfl | exact Or.inr (Or.inl rfl) | exact Or.inr (Or.inr rfl))), (by ((repeat' apply And.intro) <;> first | trivial | rfl | assumption | omega | decide | exact Or.inl rfl | exact Or.inr (Or.inl rfl) | exact Or.inr (Or.inr rfl))), (by unfold FTS; omega)⟩) [0, 1] (by decide) rfl (Nat.le_of_ble_eq_true rfl) (Nat.le_of_ble_eq_true rfl)
set_option maxHeartbeats 4000000 in
set_option maxRecDepth 100000 in
theorem c90_X2_slotOf (l : Launch) (g : GD) (sz : Nat) : Met l yX2_slotOf wsX2_slotOf ({ frames := 0, cells := 0, slots := 0, locals := 0 }) (va_Pc [.int 20] (PW g [] sz)) (va_Qi (fun (r : Int32) (_ : Unit) => r = 4) (BW g (va_A [] sz) (fun _ : Unit => [])) (va_A [] sz)) 0 0 (va_A [] sz) := by
  refine met_i RX2 (by decide) rfl rfl (Nat.le_of_ble_eq_true rfl) [(0, .int 20)] rfl ?_
  intro p e s m args below meth c A Q C hnm Rt
  refine r_iload_n 0 0 C dX2_slotOf_0 rfl ?_
  refine r_lookup 1 68 (off := 67) C dX2_slotOf_1 (by decide) (by decide) (by decide) ?_
  refine r_iconst 68 4 C dX2_slotOf_68 (by decide) ?_
  exact r_iret 69 Rt dX2_slotOf_69 () (show 4 = 4 from (by ((repeat' apply And.intro) <;> first | trivial | rfl | assumption | omega | decide | exact Or.inl rfl | exact Or.inr (Or.inl rfl) | exact Or.inr (Or.inr rfl)))) [] (by decide) rfl (Nat.le_of_ble_eq_true rfl) (Nat.le_of_ble_eq_true rfl)
set_option maxHeartbeats 4000000 in
set_option maxRecDepth 100000 in
theorem c91_X2_fits (l : Launch) (g : GD) (h0 : Nat) (h1 : Nat) (x0 : Int32) (h2 : Nat) (x1 : Int32) (x2 : Int32) (h3 : Nat) (h4 : Nat) (fn0 : Nat → Int32) (i_x1 : (0 ≤ (Int32.toInt x1) ∧ (Int32.toInt x1) ≤ 48)) (i_x2 : (0 ≤ (Int32.toInt x2) ∧ (Int32.toInt x2) ≤ 1)) (sz : Nat) : Met l yX2_fits wsX2_fits ({ frames := 1, cells := 0, slots := 0, locals := 20 }) (va_Pc [.ref h0, .int 20, .int x0] (PW g [(h0, .inr (2, [.ref h2, .int x1, .int x2, .ref h1, .ref h3, .ref h4])), (h1, .inl (gI g, 6, .inl fn0))] sz)) (va_Qi (fun (r : Int32) (_ : Unit) => 0 ≤ (Int32.toInt r) ∧ (Int32.toInt r) ≤ 1 ∧ FTS (Int32.toInt r) (Int32.toInt (fn0 (Int32.toNatClampNeg 4))) (Int32.toInt x0)) (BW g (va_A [(h0, .inr (2, [.ref h2, .int x1, .int x2, .ref h1, .ref h3, .ref h4])), (h1, .inl (gI g, 6, .inl fn0))] sz) (fun _ : Unit => [(h0, .inr (2, [.ref h2, .int x1, .int x2, .ref h1, .ref h3, .ref h4])), (h1, .inl (gI g, 6, .inl fn0))])) (va_A [(h0, .inr (2, [.ref h2, .int x1, .int x2, .ref h1, .ref h3, .ref h4])), (h1, .inl (gI g, 6, .inl fn0))] sz)) 0 0 (va_A [(h0, .inr (2, [.ref h2, .int x1, .int x2, .ref h1, .ref h3, .ref h4])), (h1, .inl (gI g, 6, .inl fn0))] sz) := by
  refine met_z RX2 (by decide) rfl rfl (Nat.le_of_ble_eq_true rfl) [(0, .ref h0), (1, .int 20), (2, .int x0)] rfl ?_
  intro p e s m args below meth c A Q C hnm Rt
  have gx0 := fb_rng x0
  have hiX2 : ∀ w ∈ wsX20, w ∈ wsX2_fits := fun w h => List.mem_cons_of_mem _ (List.mem_append_right _ (h))
  refine r_iload_n 0 1 C dX2_fits_0 rfl ?_
  refine r_callSi 1 C dX2_fits_1 [] [] [(h0, .inr (2, [.ref h2, .int x1, .int x2, .ref h1, .ref h3, .ref h4])), (h1, .inl (gI g, 6, .inl fn0))] (fun sz => c90_X2_slotOf l g   sz) gX2_fits_X2_slotOf rfl ⟨rfl, rfl⟩ 1 (by decide) ⟨Nat.le_of_ble_eq_true rfl, Nat.le_of_ble_eq_true rfl⟩ [] [0, 1] rfl rfl (by decide) (by decide) (by decide) rfl rfl (Nat.le_of_ble_eq_true rfl) ⟨Nat.le_of_ble_eq_true rfl, Nat.le_of_ble_eq_true rfl⟩ (fun r1 _ w2 => ?_)
  refine r_ws [(h0, .inr (2, [.ref h2, .int x1, .int x2, .ref h1, .ref h3, .ref h4])), (h1, .inl (gI g, 6, .inl fn0))] rfl ?_
  have p3 : 4 = r1 := (w2).symm
  subst p3
  refine r_istore_n 4 C dX2_fits_4 [(3, .int 4), (0, .ref h0), (1, .int 20), (2, .int x0)] (by decide) rfl ?_
  refine r_iload_n 5 0 C dX2_fits_5 rfl ?_
  refine r_iconst 6 (-1) C dX2_fits_6 (by decide) ?_
  refine r_icmp_eq_f 7 30 C dX2_fits_7 (by decide) (by decide) ?_
  refine r_aload_n 10 1 C dX2_fits_10 rfl ?_
  refine r_get 11 C dX2_fits_11 (k := 3) 0 rfl rfl hiX2 (by decide) rfl (mg 1 rfl) (Or.inl rfl) rfl ?_
  refine r_iload_n 14 0 C dX2_fits_14 rfl ?_
  obtain ⟨z4, ez4⟩ : ∃ z_9, fn0 (Int32.toNatClampNeg 4) = z_9 := ⟨_, rfl⟩
  have vz4 : Int32.toInt (fn0 (Int32.toNatClampNeg 4)) = Int32.toInt z4 := congrArg _ ez4
  refine r_iald 15 z4 C dX2_fits_15 1 rfl (vin (by decide)) ez4 ?_
  have gz4 := fb_rng z4
  refine r_iconst 16 (-1) C dX2_fits_16 (by decide) ?_
  refine r_icmp_eq 17 30 C dX2_fits_17 (by decide) (fun c5 => ?_) (fun c5 => ?_)
  · skip
    have k6 : (Int32.toInt z4) = (-1) := (fa_eq z4 (-1)).mp c5
    refine r_iconst 30 1 C dX2_fits_30 (by decide) ?_
    refine r_goto 31 35 C dX2_fits_31 (by decide) ?_
    exact r_zret 35 Rt dX2_fits_35 (by decide) () (show 0 ≤ (Int32.toInt 1) ∧ (Int32.toInt 1) ≤ 1 ∧ FTS 1 (Int32.toInt (fn0 (Int32.toNatClampNeg 4))) (Int32.toInt x0) from ⟨(by ((repeat' apply And.intro) <;> first | trivial | rfl | assumption | omega | decide | exact Or.inl rfl | exact Or.inr (Or.inl rfl) | exact Or.inr (Or.inr rfl))), (by ((repeat' apply And.intro) <;> first | trivial | rfl | assumption | omega | decide | exact Or.inl rfl | exact Or.inr (Or.inl rfl) | exact Or.inr (Or.inr rfl))), (by unfold FTS; omega)⟩) [0, 1] (by decide) rfl (Nat.le_of_ble_eq_true rfl) (Nat.le_of_ble_eq_true rfl)
  · skip
    have k7 : ¬ ((Int32.toInt z4) = (-1)) := fun h_9 => c5 ((fa_eq z4 (-1)).mpr h_9)
    refine r_aload_n 20 1 C dX2_fits_20 rfl ?_
    refine r_get 21 C dX2_fits_21 (k := 3) 0 rfl rfl hiX2 (by decide) rfl (mg 1 rfl) (Or.inl rfl) rfl ?_
    refine r_iload_n 24 0 C dX2_fits_24 rfl ?_
    obtain ⟨z8, ez8⟩ : ∃ z_9, fn0 (Int32.toNatClampNeg 4) = z_9 := ⟨_, rfl⟩
    have vz8 : Int32.toInt (fn0 (Int32.toNatClampNeg 4)) = Int32.toInt z8 := congrArg _ ez8
    refine r_iald 25 z8 C dX2_fits_25 1 rfl (vin (by decide)) ez8 ?_
    have gz8 := fb_rng z8
    refine r_iload_n 26 3 C dX2_fits_26 rfl ?_
    refine r_icmp_ne 27 34 C dX2_fits_27 (by decide) (fun c9 => ?_) (fun c9 => ?_)
    · skip
      have k10 : ¬ ((Int32.toInt z8) = (Int32.toInt x0)) := fun h_9 => c9 ((fa_eq z8 x0).mpr h_9)
      refine r_iconst 34 0 C dX2_fits_34 (by decide) ?_
      exact r_zret 35 Rt dX2_fits_35 (by decide) () (show 0 ≤ (Int32.toInt 0) ∧ (Int32.toInt 0) ≤ 1 ∧ FTS 0 (Int32.toInt (fn0 (Int32.toNatClampNeg 4))) (Int32.toInt x0) from ⟨(by ((repeat' apply And.intro) <;> first | trivial | rfl | assumption | omega | decide | exact Or.inl rfl | exact Or.inr (Or.inl rfl) | exact Or.inr (Or.inr rfl))), (by ((repeat' apply And.intro) <;> first | trivial | rfl | assumption | omega | decide | exact Or.inl rfl | exact Or.inr (Or.inl rfl) | exact Or.inr (Or.inr rfl))), (by unfold FTS; omega)⟩) [0, 1] (by decide) rfl (Nat.le_of_ble_eq_true rfl) (Nat.le_of_ble_eq_true rfl)
    · skip
      have k11 : (Int32.toInt z8) = (Int32.toInt x0) := (fa_eq z8 x0).mp c9
      refine r_iconst 30 1 C dX2_fits_30 (by decide) ?_
      refine r_goto 31 35 C dX2_fits_31 (by decide) ?_
      exact r_zret 35 Rt dX2_fits_35 (by decide) () (show 0 ≤ (Int32.toInt 1) ∧ (Int32.toInt 1) ≤ 1 ∧ FTS 1 (Int32.toInt (fn0 (Int32.toNatClampNeg 4))) (Int32.toInt x0) from ⟨(by ((repeat' apply And.intro) <;> first | trivial | rfl | assumption | omega | decide | exact Or.inl rfl | exact Or.inr (Or.inl rfl) | exact Or.inr (Or.inr rfl))), (by ((repeat' apply And.intro) <;> first | trivial | rfl | assumption | omega | decide | exact Or.inl rfl | exact Or.inr (Or.inl rfl) | exact Or.inr (Or.inr rfl))), (by unfold FTS; omega)⟩) [0, 1] (by decide) rfl (Nat.le_of_ble_eq_true rfl) (Nat.le_of_ble_eq_true rfl)
set_option maxHeartbeats 4000000 in
set_option maxRecDepth 100000 in
theorem c92_X2_slotOf (l : Launch) (g : GD) (sz : Nat) : Met l yX2_slotOf wsX2_slotOf ({ frames := 0, cells := 0, slots := 0, locals := 0 }) (va_Pc [.int 21] (PW g [] sz)) (va_Qi (fun (r : Int32) (_ : Unit) => r = 5) (BW g (va_A [] sz) (fun _ : Unit => [])) (va_A [] sz)) 0 0 (va_A [] sz) := by
  refine met_i RX2 (by decide) rfl rfl (Nat.le_of_ble_eq_true rfl) [(0, .int 21)] rfl ?_
  intro p e s m args below meth c A Q C hnm Rt
  refine r_iload_n 0 0 C dX2_slotOf_0 rfl ?_
  refine r_lookup 1 70 (off := 69) C dX2_slotOf_1 (by decide) (by decide) (by decide) ?_
  refine r_iconst 70 5 C dX2_slotOf_70 (by decide) ?_
  exact r_iret 71 Rt dX2_slotOf_71 () (show 5 = 5 from (by ((repeat' apply And.intro) <;> first | trivial | rfl | assumption | omega | decide | exact Or.inl rfl | exact Or.inr (Or.inl rfl) | exact Or.inr (Or.inr rfl)))) [] (by decide) rfl (Nat.le_of_ble_eq_true rfl) (Nat.le_of_ble_eq_true rfl)
set_option maxHeartbeats 4000000 in
set_option maxRecDepth 100000 in
theorem c93_X2_fits (l : Launch) (g : GD) (h0 : Nat) (h1 : Nat) (x0 : Int32) (h2 : Nat) (x1 : Int32) (x2 : Int32) (h3 : Nat) (h4 : Nat) (fn0 : Nat → Int32) (i_x1 : (0 ≤ (Int32.toInt x1) ∧ (Int32.toInt x1) ≤ 48)) (i_x2 : (0 ≤ (Int32.toInt x2) ∧ (Int32.toInt x2) ≤ 1)) (sz : Nat) : Met l yX2_fits wsX2_fits ({ frames := 1, cells := 0, slots := 0, locals := 20 }) (va_Pc [.ref h0, .int 21, .int x0] (PW g [(h0, .inr (2, [.ref h2, .int x1, .int x2, .ref h1, .ref h3, .ref h4])), (h1, .inl (gI g, 6, .inl fn0))] sz)) (va_Qi (fun (r : Int32) (_ : Unit) => 0 ≤ (Int32.toInt r) ∧ (Int32.toInt r) ≤ 1 ∧ FTS (Int32.toInt r) (Int32.toInt (fn0 (Int32.toNatClampNeg 5))) (Int32.toInt x0)) (BW g (va_A [(h0, .inr (2, [.ref h2, .int x1, .int x2, .ref h1, .ref h3, .ref h4])), (h1, .inl (gI g, 6, .inl fn0))] sz) (fun _ : Unit => [(h0, .inr (2, [.ref h2, .int x1, .int x2, .ref h1, .ref h3, .ref h4])), (h1, .inl (gI g, 6, .inl fn0))])) (va_A [(h0, .inr (2, [.ref h2, .int x1, .int x2, .ref h1, .ref h3, .ref h4])), (h1, .inl (gI g, 6, .inl fn0))] sz)) 0 0 (va_A [(h0, .inr (2, [.ref h2, .int x1, .int x2, .ref h1, .ref h3, .ref h4])), (h1, .inl (gI g, 6, .inl fn0))] sz) := by
  refine met_z RX2 (by decide) rfl rfl (Nat.le_of_ble_eq_true rfl) [(0, .ref h0), (1, .int 21), (2, .int x0)] rfl ?_
  intro p e s m args below meth c A Q C hnm Rt
  have gx0 := fb_rng x0
  have hiX2 : ∀ w ∈ wsX20, w ∈ wsX2_fits := fun w h => List.mem_cons_of_mem _ (List.mem_append_right _ (h))
  refine r_iload_n 0 1 C dX2_fits_0 rfl ?_
  refine r_callSi 1 C dX2_fits_1 [] [] [(h0, .inr (2, [.ref h2, .int x1, .int x2, .ref h1, .ref h3, .ref h4])), (h1, .inl (gI g, 6, .inl fn0))] (fun sz => c92_X2_slotOf l g   sz) gX2_fits_X2_slotOf rfl ⟨rfl, rfl⟩ 1 (by decide) ⟨Nat.le_of_ble_eq_true rfl, Nat.le_of_ble_eq_true rfl⟩ [] [0, 1] rfl rfl (by decide) (by decide) (by decide) rfl rfl (Nat.le_of_ble_eq_true rfl) ⟨Nat.le_of_ble_eq_true rfl, Nat.le_of_ble_eq_true rfl⟩ (fun r1 _ w2 => ?_)
  refine r_ws [(h0, .inr (2, [.ref h2, .int x1, .int x2, .ref h1, .ref h3, .ref h4])), (h1, .inl (gI g, 6, .inl fn0))] rfl ?_
  have p3 : 5 = r1 := (w2).symm
  subst p3
  refine r_istore_n 4 C dX2_fits_4 [(3, .int 5), (0, .ref h0), (1, .int 21), (2, .int x0)] (by decide) rfl ?_
  refine r_iload_n 5 0 C dX2_fits_5 rfl ?_
  refine r_iconst 6 (-1) C dX2_fits_6 (by decide) ?_
  refine r_icmp_eq_f 7 30 C dX2_fits_7 (by decide) (by decide) ?_
  refine r_aload_n 10 1 C dX2_fits_10 rfl ?_
  refine r_get 11 C dX2_fits_11 (k := 3) 0 rfl rfl hiX2 (by decide) rfl (mg 1 rfl) (Or.inl rfl) rfl ?_
  refine r_iload_n 14 0 C dX2_fits_14 rfl ?_
  obtain ⟨z4, ez4⟩ : ∃ z_9, fn0 (Int32.toNatClampNeg 5) = z_9 := ⟨_, rfl⟩
  have vz4 : Int32.toInt (fn0 (Int32.toNatClampNeg 5)) = Int32.toInt z4 := congrArg _ ez4
  refine r_iald 15 z4 C dX2_fits_15 1 rfl (vin (by decide)) ez4 ?_
  have gz4 := fb_rng z4
  refine r_iconst 16 (-1) C dX2_fits_16 (by decide) ?_
  refine r_icmp_eq 17 30 C dX2_fits_17 (by decide) (fun c5 => ?_) (fun c5 => ?_)
  · skip
    have k6 : (Int32.toInt z4) = (-1) := (fa_eq z4 (-1)).mp c5
    refine r_iconst 30 1 C dX2_fits_30 (by decide) ?_
    refine r_goto 31 35 C dX2_fits_31 (by decide) ?_
    exact r_zret 35 Rt dX2_fits_35 (by decide) () (show 0 ≤ (Int32.toInt 1) ∧ (Int32.toInt 1) ≤ 1 ∧ FTS 1 (Int32.toInt (fn0 (Int32.toNatClampNeg 5))) (Int32.toInt x0) from ⟨(by ((repeat' apply And.intro) <;> first | trivial | rfl | assumption | omega | decide | exact Or.inl rfl | exact Or.inr (Or.inl rfl) | exact Or.inr (Or.inr rfl))), (by ((repeat' apply And.intro) <;> first | trivial | rfl | assumption | omega | decide | exact Or.inl rfl | exact Or.inr (Or.inl rfl) | exact Or.inr (Or.inr rfl))), (by unfold FTS; omega)⟩) [0, 1] (by decide) rfl (Nat.le_of_ble_eq_true rfl) (Nat.le_of_ble_eq_true rfl)
  · skip
    have k7 : ¬ ((Int32.toInt z4) = (-1)) := fun h_9 => c5 ((fa_eq z4 (-1)).mpr h_9)
    refine r_aload_n 20 1 C dX2_fits_20 rfl ?_
    refine r_get 21 C dX2_fits_21 (k := 3) 0 rfl rfl hiX2 (by decide) rfl (mg 1 rfl) (Or.inl rfl) rfl ?_
    refine r_iload_n 24 0 C dX2_fits_24 rfl ?_
    obtain ⟨z8, ez8⟩ : ∃ z_9, fn0 (Int32.toNatClampNeg 5) = z_9 := ⟨_, rfl⟩
    have vz8 : Int32.toInt (fn0 (Int32.toNatClampNeg 5)) = Int32.toInt z8 := congrArg _ ez8
    refine r_iald 25 z8 C dX2_fits_25 1 rfl (vin (by decide)) ez8 ?_
    have gz8 := fb_rng z8
    refine r_iload_n 26 3 C dX2_fits_26 rfl ?_
    refine r_icmp_ne 27 34 C dX2_fits_27 (by decide) (fun c9 => ?_) (fun c9 => ?_)
    · skip
      have k10 : ¬ ((Int32.toInt z8) = (Int32.toInt x0)) := fun h_9 => c9 ((fa_eq z8 x0).mpr h_9)
      refine r_iconst 34 0 C dX2_fits_34 (by decide) ?_
      exact r_zret 35 Rt dX2_fits_35 (by decide) () (show 0 ≤ (Int32.toInt 0) ∧ (Int32.toInt 0) ≤ 1 ∧ FTS 0 (Int32.toInt (fn0 (Int32.toNatClampNeg 5))) (Int32.toInt x0) from ⟨(by ((repeat' apply And.intro) <;> first | trivial | rfl | assumption | omega | decide | exact Or.inl rfl | exact Or.inr (Or.inl rfl) | exact Or.inr (Or.inr rfl))), (by ((repeat' apply And.intro) <;> first | trivial | rfl | assumption | omega | decide | exact Or.inl rfl | exact Or.inr (Or.inl rfl) | exact Or.inr (Or.inr rfl))), (by unfold FTS; omega)⟩) [0, 1] (by decide) rfl (Nat.le_of_ble_eq_true rfl) (Nat.le_of_ble_eq_true rfl)
    · skip
      have k11 : (Int32.toInt z8) = (Int32.toInt x0) := (fa_eq z8 x0).mp c9
      refine r_iconst 30 1 C dX2_fits_30 (by decide) ?_
      refine r_goto 31 35 C dX2_fits_31 (by decide) ?_
      exact r_zret 35 Rt dX2_fits_35 (by decide) () (show 0 ≤ (Int32.toInt 1) ∧ (Int32.toInt 1) ≤ 1 ∧ FTS 1 (Int32.toInt (fn0 (Int32.toNatClampNeg 5))) (Int32.toInt x0) from ⟨(by ((repeat' apply And.intro) <;> first | trivial | rfl | assumption | omega | decide | exact Or.inl rfl | exact Or.inr (Or.inl rfl) | exact Or.inr (Or.inr rfl))), (by ((repeat' apply And.intro) <;> first | trivial | rfl | assumption | omega | decide | exact Or.inl rfl | exact Or.inr (Or.inl rfl) | exact Or.inr (Or.inr rfl))), (by unfold FTS; omega)⟩) [0, 1] (by decide) rfl (Nat.le_of_ble_eq_true rfl) (Nat.le_of_ble_eq_true rfl)
set_option maxHeartbeats 4000000 in
set_option maxRecDepth 100000 in
theorem c94_X2_isTold (l : Launch) (g : GD) (h0 : Nat) (h1 : Nat) (h2 : Nat) (x0 : Int32) (x1 : Int32) (h3 : Nat) (h4 : Nat) (fn0 : Nat → Int32) (i_x0 : (0 ≤ (Int32.toInt x0) ∧ (Int32.toInt x0) ≤ 48)) (i_x1 : (0 ≤ (Int32.toInt x1) ∧ (Int32.toInt x1) ≤ 1)) (sz : Nat) : Met l yX2_isTold wsX2_isTold ({ frames := 1, cells := 0, slots := 0, locals := 20 }) (va_Pc [.ref h0, .int 20] (PW g [(h0, .inr (2, [.ref h2, .int x0, .int x1, .ref h1, .ref h3, .ref h4])), (h1, .inl (gI g, 6, .inl fn0))] sz)) (va_Qi (fun (r : Int32) (_ : Unit) => 0 ≤ (Int32.toInt r) ∧ (Int32.toInt r) ≤ 1 ∧ TOL (Int32.toInt r) (Int32.toInt (fn0 (Int32.toNatClampNeg 4)))) (BW g (va_A [(h0, .inr (2, [.ref h2, .int x0, .int x1, .ref h1, .ref h3, .ref h4])), (h1, .inl (gI g, 6, .inl fn0))] sz) (fun _ : Unit => [(h0, .inr (2, [.ref h2, .int x0, .int x1, .ref h1, .ref h3, .ref h4])), (h1, .inl (gI g, 6, .inl fn0))])) (va_A [(h0, .inr (2, [.ref h2, .int x0, .int x1, .ref h1, .ref h3, .ref h4])), (h1, .inl (gI g, 6, .inl fn0))] sz)) 0 0 (va_A [(h0, .inr (2, [.ref h2, .int x0, .int x1, .ref h1, .ref h3, .ref h4])), (h1, .inl (gI g, 6, .inl fn0))] sz) := by
  refine met_z RX2 (by decide) rfl rfl (Nat.le_of_ble_eq_true rfl) [(0, .ref h0), (1, .int 20)] rfl ?_
  intro p e s m args below meth c A Q C hnm Rt
  have hiX2 : ∀ w ∈ wsX20, w ∈ wsX2_isTold := fun w h => List.mem_cons_of_mem _ (List.mem_append_right _ (h))
  refine r_iload_n 0 1 C dX2_isTold_0 rfl ?_
  refine r_callSi 1 C dX2_isTold_1 [] [] [(h0, .inr (2, [.ref h2, .int x0, .int x1, .ref h1, .ref h3, .ref h4])), (h1, .inl (gI g, 6, .inl fn0))] (fun sz => c90_X2_slotOf l g   sz) gX2_isTold_X2_slotOf rfl ⟨rfl, rfl⟩ 1 (by decide) ⟨Nat.le_of_ble_eq_true rfl, Nat.le_of_ble_eq_true rfl⟩ [] [0, 1] rfl rfl (by decide) (by decide) (by decide) rfl rfl (Nat.le_of_ble_eq_true rfl) ⟨Nat.le_of_ble_eq_true rfl, Nat.le_of_ble_eq_true rfl⟩ (fun r1 _ w2 => ?_)
  refine r_ws [(h0, .inr (2, [.ref h2, .int x0, .int x1, .ref h1, .ref h3, .ref h4])), (h1, .inl (gI g, 6, .inl fn0))] rfl ?_
  have p3 : 4 = r1 := (w2).symm
  subst p3
  refine r_istore_n 4 C dX2_isTold_4 [(2, .int 4), (0, .ref h0), (1, .int 20)] (by decide) rfl ?_
  refine r_iload_n 5 0 C dX2_isTold_5 rfl ?_
  refine r_iconst 6 (-1) C dX2_isTold_6 (by decide) ?_
  refine r_icmp_eq_f 7 24 C dX2_isTold_7 (by decide) (by decide) ?_
  refine r_aload_n 10 1 C dX2_isTold_10 rfl ?_
  refine r_get 11 C dX2_isTold_11 (k := 3) 0 rfl rfl hiX2 (by decide) rfl (mg 1 rfl) (Or.inl rfl) rfl ?_
  refine r_iload_n 14 0 C dX2_isTold_14 rfl ?_
  obtain ⟨z4, ez4⟩ : ∃ z_9, fn0 (Int32.toNatClampNeg 4) = z_9 := ⟨_, rfl⟩
  have vz4 : Int32.toInt (fn0 (Int32.toNatClampNeg 4)) = Int32.toInt z4 := congrArg _ ez4
  refine r_iald 15 z4 C dX2_isTold_15 1 rfl (vin (by decide)) ez4 ?_
  have gz4 := fb_rng z4
  refine r_iconst 16 (-1) C dX2_isTold_16 (by decide) ?_
  refine r_icmp_eq 17 24 C dX2_isTold_17 (by decide) (fun c5 => ?_) (fun c5 => ?_)
  · skip
    have k6 : (Int32.toInt z4) = (-1) := (fa_eq z4 (-1)).mp c5
    refine r_iconst 24 0 C dX2_isTold_24 (by decide) ?_
    exact r_zret 25 Rt dX2_isTold_25 (by decide) () (show 0 ≤ (Int32.toInt 0) ∧ (Int32.toInt 0) ≤ 1 ∧ TOL 0 (Int32.toInt (fn0 (Int32.toNatClampNeg 4))) from ⟨(by ((repeat' apply And.intro) <;> first | trivial | rfl | assumption | omega | decide | exact Or.inl rfl | exact Or.inr (Or.inl rfl) | exact Or.inr (Or.inr rfl))), (by ((repeat' apply And.intro) <;> first | trivial | rfl | assumption | omega | decide | exact Or.inl rfl | exact Or.inr (Or.inl rfl) | exact Or.inr (Or.inr rfl))), (by unfold TOL; omega)⟩) [0, 1] (by decide) rfl (Nat.le_of_ble_eq_true rfl) (Nat.le_of_ble_eq_true rfl)
  · skip
    have k7 : ¬ ((Int32.toInt z4) = (-1)) := fun h_9 => c5 ((fa_eq z4 (-1)).mpr h_9)
    refine r_iconst 20 1 C dX2_isTold_20 (by decide) ?_
    refine r_goto 21 25 C dX2_isTold_21 (by decide) ?_
    exact r_zret 25 Rt dX2_isTold_25 (by decide) () (show 0 ≤ (Int32.toInt 1) ∧ (Int32.toInt 1) ≤ 1 ∧ TOL 1 (Int32.toInt (fn0 (Int32.toNatClampNeg 4))) from ⟨(by ((repeat' apply And.intro) <;> first | trivial | rfl | assumption | omega | decide | exact Or.inl rfl | exact Or.inr (Or.inl rfl) | exact Or.inr (Or.inr rfl))), (by ((repeat' apply And.intro) <;> first | trivial | rfl | assumption | omega | decide | exact Or.inl rfl | exact Or.inr (Or.inl rfl) | exact Or.inr (Or.inr rfl))), (by unfold TOL; omega)⟩) [0, 1] (by decide) rfl (Nat.le_of_ble_eq_true rfl) (Nat.le_of_ble_eq_true rfl)
set_option maxHeartbeats 4000000 in
set_option maxRecDepth 100000 in
theorem c95_X2_first (l : Launch) (g : GD) (h0 : Nat) (h1 : Nat) (h2 : Nat) (h3 : Nat) (x0 : Int32) (x1 : Int32) (h4 : Nat) (fn0 : Nat → Int32) (fn1 : Nat → Int32) (i_x0 : (0 ≤ (Int32.toInt x0) ∧ (Int32.toInt x0) ≤ 48)) (i_x1 : (0 ≤ (Int32.toInt x1) ∧ (Int32.toInt x1) ≤ 1)) (sz : Nat) : Met l yX2_first wsX2_first ({ frames := 2, cells := 0, slots := 0, locals := 42 }) (va_Pc [.ref h0, .int 20] (PW g [(h0, .inr (2, [.ref h3, .int x0, .int x1, .ref h1, .ref h2, .ref h4])), (h1, .inl (gI g, 6, .inl fn0)), (h2, .inl (gI g, 6, .inl fn1))] sz)) (va_Qi (fun (r : Int32) (_ : Unit) => FST (Int32.toInt r) (Int32.toInt (fn0 (Int32.toNatClampNeg 4))) (Int32.toInt (fn1 (Int32.toNatClampNeg 4)))) (BW g (va_A [(h0, .inr (2, [.ref h3, .int x0, .int x1, .ref h1, .ref h2, .ref h4])), (h1, .inl (gI g, 6, .inl fn0)), (h2, .inl (gI g, 6, .inl fn1))] sz) (fun _ : Unit => [(h0, .inr (2, [.ref h3, .int x0, .int x1, .ref h1, .ref h2, .ref h4])), (h1, .inl (gI g, 6, .inl fn0)), (h2, .inl (gI g, 6, .inl fn1))])) (va_A [(h0, .inr (2, [.ref h3, .int x0, .int x1, .ref h1, .ref h2, .ref h4])), (h1, .inl (gI g, 6, .inl fn0)), (h2, .inl (gI g, 6, .inl fn1))] sz)) 0 0 (va_A [(h0, .inr (2, [.ref h3, .int x0, .int x1, .ref h1, .ref h2, .ref h4])), (h1, .inl (gI g, 6, .inl fn0)), (h2, .inl (gI g, 6, .inl fn1))] sz) := by
  refine met_i RX2 (by decide) rfl rfl (Nat.le_of_ble_eq_true rfl) [(0, .ref h0), (1, .int 20)] rfl ?_
  intro p e s m args below meth c A Q C hnm Rt
  have hiX2 : ∀ w ∈ wsX20, w ∈ wsX2_first := fun w h => List.mem_cons_of_mem _ (List.mem_append_right _ (h))
  refine r_aload_n 0 0 C dX2_first_0 rfl ?_
  refine r_iload_n 1 1 C dX2_first_1 rfl ?_
  refine r_callVi 2 C dX2_first_2 [] [(h0, .inr (2, [.ref h3, .int x0, .int x1, .ref h1, .ref h2, .ref h4])), (h1, .inl (gI g, 6, .inl fn0))] [(h2, .inl (gI g, 6, .inl fn1))] (fun sz => c94_X2_isTold l g h0 h1 h3 x0 x1 h2 h4 fn0 i_x0 i_x1 sz) gX2_first_X2_isTold rfl ⟨rfl, rfl⟩ 1 (by decide) ⟨Nat.le_of_ble_eq_true rfl, Nat.le_of_ble_eq_true rfl⟩ 0 rfl rfl [0, 1] [2] rfl rfl (by decide) (by decide) (by decide) rfl rfl (Nat.le_of_ble_eq_true rfl) ⟨Nat.le_of_ble_eq_true rfl, Nat.le_of_ble_eq_true rfl⟩ (fun r1 _ w2 => ?_)
  refine r_ws [(h2, .inl (gI g, 6, .inl fn1)), (h0, .inr (2, [.ref h3, .int x0, .int x1, .ref h1, .ref h2, .ref h4])), (h1, .inl (gI g, 6, .inl fn0))] rfl ?_
  have p3 : 0 ≤ (Int32.toInt r1) := w2.1
  have p4 : (Int32.toInt r1) ≤ 1 := w2.2.1
  have p5 : TOL (Int32.toInt r1) (Int32.toInt (fn0 (Int32.toNatClampNeg 4))) := w2.2.2
  refine r_if_eq 5 20 C dX2_first_5 (by decide) (fun c6 => ?_) (fun c6 => ?_)
  · skip
    have k7 : (Int32.toInt r1) = 0 := (fa_eq r1 0).mp c6
    refine r_iconst 20 0 C dX2_first_20 (by decide) ?_
    exact r_iret 21 Rt dX2_first_21 () (show FST 0 (Int32.toInt (fn0 (Int32.toNatClampNeg 4))) (Int32.toInt (fn1 (Int32.toNatClampNeg 4))) from (by have h_9 := p5; unfold TOL at h_9; unfold FST; omega)) [1, 2, 0] (by decide) rfl (Nat.le_of_ble_eq_true rfl) (Nat.le_of_ble_eq_true rfl)
  · skip
    have k8 : ¬ ((Int32.toInt r1) = 0) := fun h_9 => c6 ((fa_eq r1 0).mpr h_9)
    refine r_aload_n 8 0 C dX2_first_8 rfl ?_
    refine r_get 9 C dX2_first_9 (k := 4) 1 rfl rfl hiX2 (by decide) rfl (mg 1 rfl) (Or.inl rfl) rfl ?_
    refine r_iload_n 12 1 C dX2_first_12 rfl ?_
    refine r_callSi 13 C dX2_first_13 [.ref h2] [] [(h2, .inl (gI g, 6, .inl fn1)), (h0, .inr (2, [.ref h3, .int x0, .int x1, .ref h1, .ref h2, .ref h4])), (h1, .inl (gI g, 6, .inl fn0))] (fun sz => c90_X2_slotOf l g   sz) gX2_first_X2_slotOf rfl ⟨rfl, rfl⟩ 1 (by decide) ⟨Nat.le_of_ble_eq_true rfl, Nat.le_of_ble_eq_true rfl⟩ [] [0, 1, 2] rfl rfl (by decide) (by decide) (by decide) rfl rfl (Nat.le_of_ble_eq_true rfl) ⟨Nat.le_of_ble_eq_true rfl, Nat.le_of_ble_eq_true rfl⟩ (fun r9 _ w10 => ?_)
    refine r_ws [(h2, .inl (gI g, 6, .inl fn1)), (h0, .inr (2, [.ref h3, .int x0, .int x1, .ref h1, .ref h2, .ref h4])), (h1, .inl (gI g, 6, .inl fn0))] rfl ?_
    have p11 : 4 = r9 := (w10).symm
    subst p11
    obtain ⟨z12, ez12⟩ : ∃ z_9, fn1 (Int32.toNatClampNeg 4) = z_9 := ⟨_, rfl⟩
    have vz12 : Int32.toInt (fn1 (Int32.toNatClampNeg 4)) = Int32.toInt z12 := congrArg _ ez12
    refine r_iald 16 z12 C dX2_first_16 0 rfl (vin (by decide)) ez12 ?_
    have gz12 := fb_rng z12
    refine r_goto 17 21 C dX2_first_17 (by decide) ?_
    exact r_iret 21 Rt dX2_first_21 () (show FST (Int32.toInt z12) (Int32.toInt (fn0 (Int32.toNatClampNeg 4))) (Int32.toInt (fn1 (Int32.toNatClampNeg 4))) from (by have h_9 := p5; unfold TOL at h_9; unfold FST; omega)) [1, 2, 0] (by decide) rfl (Nat.le_of_ble_eq_true rfl) (Nat.le_of_ble_eq_true rfl)
set_option maxHeartbeats 4000000 in
set_option maxRecDepth 100000 in
theorem c96_X2_isTold (l : Launch) (g : GD) (h0 : Nat) (h1 : Nat) (h2 : Nat) (x0 : Int32) (x1 : Int32) (h3 : Nat) (h4 : Nat) (fn0 : Nat → Int32) (i_x0 : (0 ≤ (Int32.toInt x0) ∧ (Int32.toInt x0) ≤ 48)) (i_x1 : (0 ≤ (Int32.toInt x1) ∧ (Int32.toInt x1) ≤ 1)) (sz : Nat) : Met l yX2_isTold wsX2_isTold ({ frames := 1, cells := 0, slots := 0, locals := 20 }) (va_Pc [.ref h0, .int 21] (PW g [(h0, .inr (2, [.ref h2, .int x0, .int x1, .ref h1, .ref h3, .ref h4])), (h1, .inl (gI g, 6, .inl fn0))] sz)) (va_Qi (fun (r : Int32) (_ : Unit) => 0 ≤ (Int32.toInt r) ∧ (Int32.toInt r) ≤ 1 ∧ TOL (Int32.toInt r) (Int32.toInt (fn0 (Int32.toNatClampNeg 5)))) (BW g (va_A [(h0, .inr (2, [.ref h2, .int x0, .int x1, .ref h1, .ref h3, .ref h4])), (h1, .inl (gI g, 6, .inl fn0))] sz) (fun _ : Unit => [(h0, .inr (2, [.ref h2, .int x0, .int x1, .ref h1, .ref h3, .ref h4])), (h1, .inl (gI g, 6, .inl fn0))])) (va_A [(h0, .inr (2, [.ref h2, .int x0, .int x1, .ref h1, .ref h3, .ref h4])), (h1, .inl (gI g, 6, .inl fn0))] sz)) 0 0 (va_A [(h0, .inr (2, [.ref h2, .int x0, .int x1, .ref h1, .ref h3, .ref h4])), (h1, .inl (gI g, 6, .inl fn0))] sz) := by
  refine met_z RX2 (by decide) rfl rfl (Nat.le_of_ble_eq_true rfl) [(0, .ref h0), (1, .int 21)] rfl ?_
  intro p e s m args below meth c A Q C hnm Rt
  have hiX2 : ∀ w ∈ wsX20, w ∈ wsX2_isTold := fun w h => List.mem_cons_of_mem _ (List.mem_append_right _ (h))
  refine r_iload_n 0 1 C dX2_isTold_0 rfl ?_
  refine r_callSi 1 C dX2_isTold_1 [] [] [(h0, .inr (2, [.ref h2, .int x0, .int x1, .ref h1, .ref h3, .ref h4])), (h1, .inl (gI g, 6, .inl fn0))] (fun sz => c92_X2_slotOf l g   sz) gX2_isTold_X2_slotOf rfl ⟨rfl, rfl⟩ 1 (by decide) ⟨Nat.le_of_ble_eq_true rfl, Nat.le_of_ble_eq_true rfl⟩ [] [0, 1] rfl rfl (by decide) (by decide) (by decide) rfl rfl (Nat.le_of_ble_eq_true rfl) ⟨Nat.le_of_ble_eq_true rfl, Nat.le_of_ble_eq_true rfl⟩ (fun r1 _ w2 => ?_)
  refine r_ws [(h0, .inr (2, [.ref h2, .int x0, .int x1, .ref h1, .ref h3, .ref h4])), (h1, .inl (gI g, 6, .inl fn0))] rfl ?_
  have p3 : 5 = r1 := (w2).symm
  subst p3
  refine r_istore_n 4 C dX2_isTold_4 [(2, .int 5), (0, .ref h0), (1, .int 21)] (by decide) rfl ?_
  refine r_iload_n 5 0 C dX2_isTold_5 rfl ?_
  refine r_iconst 6 (-1) C dX2_isTold_6 (by decide) ?_
  refine r_icmp_eq_f 7 24 C dX2_isTold_7 (by decide) (by decide) ?_
  refine r_aload_n 10 1 C dX2_isTold_10 rfl ?_
  refine r_get 11 C dX2_isTold_11 (k := 3) 0 rfl rfl hiX2 (by decide) rfl (mg 1 rfl) (Or.inl rfl) rfl ?_
  refine r_iload_n 14 0 C dX2_isTold_14 rfl ?_
  obtain ⟨z4, ez4⟩ : ∃ z_9, fn0 (Int32.toNatClampNeg 5) = z_9 := ⟨_, rfl⟩
  have vz4 : Int32.toInt (fn0 (Int32.toNatClampNeg 5)) = Int32.toInt z4 := congrArg _ ez4
  refine r_iald 15 z4 C dX2_isTold_15 1 rfl (vin (by decide)) ez4 ?_
  have gz4 := fb_rng z4
  refine r_iconst 16 (-1) C dX2_isTold_16 (by decide) ?_
  refine r_icmp_eq 17 24 C dX2_isTold_17 (by decide) (fun c5 => ?_) (fun c5 => ?_)
  · skip
    have k6 : (Int32.toInt z4) = (-1) := (fa_eq z4 (-1)).mp c5
    refine r_iconst 24 0 C dX2_isTold_24 (by decide) ?_
    exact r_zret 25 Rt dX2_isTold_25 (by decide) () (show 0 ≤ (Int32.toInt 0) ∧ (Int32.toInt 0) ≤ 1 ∧ TOL 0 (Int32.toInt (fn0 (Int32.toNatClampNeg 5))) from ⟨(by ((repeat' apply And.intro) <;> first | trivial | rfl | assumption | omega | decide | exact Or.inl rfl | exact Or.inr (Or.inl rfl) | exact Or.inr (Or.inr rfl))), (by ((repeat' apply And.intro) <;> first | trivial | rfl | assumption | omega | decide | exact Or.inl rfl | exact Or.inr (Or.inl rfl) | exact Or.inr (Or.inr rfl))), (by unfold TOL; omega)⟩) [0, 1] (by decide) rfl (Nat.le_of_ble_eq_true rfl) (Nat.le_of_ble_eq_true rfl)
  · skip
    have k7 : ¬ ((Int32.toInt z4) = (-1)) := fun h_9 => c5 ((fa_eq z4 (-1)).mpr h_9)
    refine r_iconst 20 1 C dX2_isTold_20 (by decide) ?_
    refine r_goto 21 25 C dX2_isTold_21 (by decide) ?_
    exact r_zret 25 Rt dX2_isTold_25 (by decide) () (show 0 ≤ (Int32.toInt 1) ∧ (Int32.toInt 1) ≤ 1 ∧ TOL 1 (Int32.toInt (fn0 (Int32.toNatClampNeg 5))) from ⟨(by ((repeat' apply And.intro) <;> first | trivial | rfl | assumption | omega | decide | exact Or.inl rfl | exact Or.inr (Or.inl rfl) | exact Or.inr (Or.inr rfl))), (by ((repeat' apply And.intro) <;> first | trivial | rfl | assumption | omega | decide | exact Or.inl rfl | exact Or.inr (Or.inl rfl) | exact Or.inr (Or.inr rfl))), (by unfold TOL; omega)⟩) [0, 1] (by decide) rfl (Nat.le_of_ble_eq_true rfl) (Nat.le_of_ble_eq_true rfl)
set_option maxHeartbeats 4000000 in
set_option maxRecDepth 100000 in
theorem c97_X2_first (l : Launch) (g : GD) (h0 : Nat) (h1 : Nat) (h2 : Nat) (h3 : Nat) (x0 : Int32) (x1 : Int32) (h4 : Nat) (fn0 : Nat → Int32) (fn1 : Nat → Int32) (i_x0 : (0 ≤ (Int32.toInt x0) ∧ (Int32.toInt x0) ≤ 48)) (i_x1 : (0 ≤ (Int32.toInt x1) ∧ (Int32.toInt x1) ≤ 1)) (sz : Nat) : Met l yX2_first wsX2_first ({ frames := 2, cells := 0, slots := 0, locals := 42 }) (va_Pc [.ref h0, .int 21] (PW g [(h0, .inr (2, [.ref h3, .int x0, .int x1, .ref h1, .ref h2, .ref h4])), (h1, .inl (gI g, 6, .inl fn0)), (h2, .inl (gI g, 6, .inl fn1))] sz)) (va_Qi (fun (r : Int32) (_ : Unit) => FST (Int32.toInt r) (Int32.toInt (fn0 (Int32.toNatClampNeg 5))) (Int32.toInt (fn1 (Int32.toNatClampNeg 5)))) (BW g (va_A [(h0, .inr (2, [.ref h3, .int x0, .int x1, .ref h1, .ref h2, .ref h4])), (h1, .inl (gI g, 6, .inl fn0)), (h2, .inl (gI g, 6, .inl fn1))] sz) (fun _ : Unit => [(h0, .inr (2, [.ref h3, .int x0, .int x1, .ref h1, .ref h2, .ref h4])), (h1, .inl (gI g, 6, .inl fn0)), (h2, .inl (gI g, 6, .inl fn1))])) (va_A [(h0, .inr (2, [.ref h3, .int x0, .int x1, .ref h1, .ref h2, .ref h4])), (h1, .inl (gI g, 6, .inl fn0)), (h2, .inl (gI g, 6, .inl fn1))] sz)) 0 0 (va_A [(h0, .inr (2, [.ref h3, .int x0, .int x1, .ref h1, .ref h2, .ref h4])), (h1, .inl (gI g, 6, .inl fn0)), (h2, .inl (gI g, 6, .inl fn1))] sz) := by
  refine met_i RX2 (by decide) rfl rfl (Nat.le_of_ble_eq_true rfl) [(0, .ref h0), (1, .int 21)] rfl ?_
  intro p e s m args below meth c A Q C hnm Rt
  have hiX2 : ∀ w ∈ wsX20, w ∈ wsX2_first := fun w h => List.mem_cons_of_mem _ (List.mem_append_right _ (h))
  refine r_aload_n 0 0 C dX2_first_0 rfl ?_
  refine r_iload_n 1 1 C dX2_first_1 rfl ?_
  refine r_callVi 2 C dX2_first_2 [] [(h0, .inr (2, [.ref h3, .int x0, .int x1, .ref h1, .ref h2, .ref h4])), (h1, .inl (gI g, 6, .inl fn0))] [(h2, .inl (gI g, 6, .inl fn1))] (fun sz => c96_X2_isTold l g h0 h1 h3 x0 x1 h2 h4 fn0 i_x0 i_x1 sz) gX2_first_X2_isTold rfl ⟨rfl, rfl⟩ 1 (by decide) ⟨Nat.le_of_ble_eq_true rfl, Nat.le_of_ble_eq_true rfl⟩ 0 rfl rfl [0, 1] [2] rfl rfl (by decide) (by decide) (by decide) rfl rfl (Nat.le_of_ble_eq_true rfl) ⟨Nat.le_of_ble_eq_true rfl, Nat.le_of_ble_eq_true rfl⟩ (fun r1 _ w2 => ?_)
  refine r_ws [(h2, .inl (gI g, 6, .inl fn1)), (h0, .inr (2, [.ref h3, .int x0, .int x1, .ref h1, .ref h2, .ref h4])), (h1, .inl (gI g, 6, .inl fn0))] rfl ?_
  have p3 : 0 ≤ (Int32.toInt r1) := w2.1
  have p4 : (Int32.toInt r1) ≤ 1 := w2.2.1
  have p5 : TOL (Int32.toInt r1) (Int32.toInt (fn0 (Int32.toNatClampNeg 5))) := w2.2.2
  refine r_if_eq 5 20 C dX2_first_5 (by decide) (fun c6 => ?_) (fun c6 => ?_)
  · skip
    have k7 : (Int32.toInt r1) = 0 := (fa_eq r1 0).mp c6
    refine r_iconst 20 0 C dX2_first_20 (by decide) ?_
    exact r_iret 21 Rt dX2_first_21 () (show FST 0 (Int32.toInt (fn0 (Int32.toNatClampNeg 5))) (Int32.toInt (fn1 (Int32.toNatClampNeg 5))) from (by have h_9 := p5; unfold TOL at h_9; unfold FST; omega)) [1, 2, 0] (by decide) rfl (Nat.le_of_ble_eq_true rfl) (Nat.le_of_ble_eq_true rfl)
  · skip
    have k8 : ¬ ((Int32.toInt r1) = 0) := fun h_9 => c6 ((fa_eq r1 0).mpr h_9)
    refine r_aload_n 8 0 C dX2_first_8 rfl ?_
    refine r_get 9 C dX2_first_9 (k := 4) 1 rfl rfl hiX2 (by decide) rfl (mg 1 rfl) (Or.inl rfl) rfl ?_
    refine r_iload_n 12 1 C dX2_first_12 rfl ?_
    refine r_callSi 13 C dX2_first_13 [.ref h2] [] [(h2, .inl (gI g, 6, .inl fn1)), (h0, .inr (2, [.ref h3, .int x0, .int x1, .ref h1, .ref h2, .ref h4])), (h1, .inl (gI g, 6, .inl fn0))] (fun sz => c92_X2_slotOf l g   sz) gX2_first_X2_slotOf rfl ⟨rfl, rfl⟩ 1 (by decide) ⟨Nat.le_of_ble_eq_true rfl, Nat.le_of_ble_eq_true rfl⟩ [] [0, 1, 2] rfl rfl (by decide) (by decide) (by decide) rfl rfl (Nat.le_of_ble_eq_true rfl) ⟨Nat.le_of_ble_eq_true rfl, Nat.le_of_ble_eq_true rfl⟩ (fun r9 _ w10 => ?_)
    refine r_ws [(h2, .inl (gI g, 6, .inl fn1)), (h0, .inr (2, [.ref h3, .int x0, .int x1, .ref h1, .ref h2, .ref h4])), (h1, .inl (gI g, 6, .inl fn0))] rfl ?_
    have p11 : 5 = r9 := (w10).symm
    subst p11
    obtain ⟨z12, ez12⟩ : ∃ z_9, fn1 (Int32.toNatClampNeg 5) = z_9 := ⟨_, rfl⟩
    have vz12 : Int32.toInt (fn1 (Int32.toNatClampNeg 5)) = Int32.toInt z12 := congrArg _ ez12
    refine r_iald 16 z12 C dX2_first_16 0 rfl (vin (by decide)) ez12 ?_
    have gz12 := fb_rng z12
    refine r_goto 17 21 C dX2_first_17 (by decide) ?_
    exact r_iret 21 Rt dX2_first_21 () (show FST (Int32.toInt z12) (Int32.toInt (fn0 (Int32.toNatClampNeg 5))) (Int32.toInt (fn1 (Int32.toNatClampNeg 5))) from (by have h_9 := p5; unfold TOL at h_9; unfold FST; omega)) [1, 2, 0] (by decide) rfl (Nat.le_of_ble_eq_true rfl) (Nat.le_of_ble_eq_true rfl)
set_option maxHeartbeats 4000000 in
set_option maxRecDepth 100000 in
theorem c98_X2_isTold (l : Launch) (g : GD) (h0 : Nat) (h1 : Nat) (h2 : Nat) (x0 : Int32) (x1 : Int32) (h3 : Nat) (h4 : Nat) (fn0 : Nat → Int32) (i_x0 : (0 ≤ (Int32.toInt x0) ∧ (Int32.toInt x0) ≤ 48)) (i_x1 : (0 ≤ (Int32.toInt x1) ∧ (Int32.toInt x1) ≤ 1)) (sz : Nat) : Met l yX2_isTold wsX2_isTold ({ frames := 1, cells := 0, slots := 0, locals := 20 }) (va_Pc [.ref h0, .int 19] (PW g [(h0, .inr (2, [.ref h2, .int x0, .int x1, .ref h1, .ref h3, .ref h4])), (h1, .inl (gI g, 6, .inl fn0))] sz)) (va_Qi (fun (r : Int32) (_ : Unit) => 0 ≤ (Int32.toInt r) ∧ (Int32.toInt r) ≤ 1 ∧ TOL (Int32.toInt r) (Int32.toInt (fn0 (Int32.toNatClampNeg 3)))) (BW g (va_A [(h0, .inr (2, [.ref h2, .int x0, .int x1, .ref h1, .ref h3, .ref h4])), (h1, .inl (gI g, 6, .inl fn0))] sz) (fun _ : Unit => [(h0, .inr (2, [.ref h2, .int x0, .int x1, .ref h1, .ref h3, .ref h4])), (h1, .inl (gI g, 6, .inl fn0))])) (va_A [(h0, .inr (2, [.ref h2, .int x0, .int x1, .ref h1, .ref h3, .ref h4])), (h1, .inl (gI g, 6, .inl fn0))] sz)) 0 0 (va_A [(h0, .inr (2, [.ref h2, .int x0, .int x1, .ref h1, .ref h3, .ref h4])), (h1, .inl (gI g, 6, .inl fn0))] sz) := by
  refine met_z RX2 (by decide) rfl rfl (Nat.le_of_ble_eq_true rfl) [(0, .ref h0), (1, .int 19)] rfl ?_
  intro p e s m args below meth c A Q C hnm Rt
  have hiX2 : ∀ w ∈ wsX20, w ∈ wsX2_isTold := fun w h => List.mem_cons_of_mem _ (List.mem_append_right _ (h))
  refine r_iload_n 0 1 C dX2_isTold_0 rfl ?_
  refine r_callSi 1 C dX2_isTold_1 [] [] [(h0, .inr (2, [.ref h2, .int x0, .int x1, .ref h1, .ref h3, .ref h4])), (h1, .inl (gI g, 6, .inl fn0))] (fun sz => c88_X2_slotOf l g   sz) gX2_isTold_X2_slotOf rfl ⟨rfl, rfl⟩ 1 (by decide) ⟨Nat.le_of_ble_eq_true rfl, Nat.le_of_ble_eq_true rfl⟩ [] [0, 1] rfl rfl (by decide) (by decide) (by decide) rfl rfl (Nat.le_of_ble_eq_true rfl) ⟨Nat.le_of_ble_eq_true rfl, Nat.le_of_ble_eq_true rfl⟩ (fun r1 _ w2 => ?_)
  refine r_ws [(h0, .inr (2, [.ref h2, .int x0, .int x1, .ref h1, .ref h3, .ref h4])), (h1, .inl (gI g, 6, .inl fn0))] rfl ?_
  have p3 : 3 = r1 := (w2).symm
  subst p3
  refine r_istore_n 4 C dX2_isTold_4 [(2, .int 3), (0, .ref h0), (1, .int 19)] (by decide) rfl ?_
  refine r_iload_n 5 0 C dX2_isTold_5 rfl ?_
  refine r_iconst 6 (-1) C dX2_isTold_6 (by decide) ?_
  refine r_icmp_eq_f 7 24 C dX2_isTold_7 (by decide) (by decide) ?_
  refine r_aload_n 10 1 C dX2_isTold_10 rfl ?_
  refine r_get 11 C dX2_isTold_11 (k := 3) 0 rfl rfl hiX2 (by decide) rfl (mg 1 rfl) (Or.inl rfl) rfl ?_
  refine r_iload_n 14 0 C dX2_isTold_14 rfl ?_
  obtain ⟨z4, ez4⟩ : ∃ z_9, fn0 (Int32.toNatClampNeg 3) = z_9 := ⟨_, rfl⟩
  have vz4 : Int32.toInt (fn0 (Int32.toNatClampNeg 3)) = Int32.toInt z4 := congrArg _ ez4
  refine r_iald 15 z4 C dX2_isTold_15 1 rfl (vin (by decide)) ez4 ?_
  have gz4 := fb_rng z4
  refine r_iconst 16 (-1) C dX2_isTold_16 (by decide) ?_
  refine r_icmp_eq 17 24 C dX2_isTold_17 (by decide) (fun c5 => ?_) (fun c5 => ?_)
  · skip
    have k6 : (Int32.toInt z4) = (-1) := (fa_eq z4 (-1)).mp c5
    refine r_iconst 24 0 C dX2_isTold_24 (by decide) ?_
    exact r_zret 25 Rt dX2_isTold_25 (by decide) () (show 0 ≤ (Int32.toInt 0) ∧ (Int32.toInt 0) ≤ 1 ∧ TOL 0 (Int32.toInt (fn0 (Int32.toNatClampNeg 3))) from ⟨(by ((repeat' apply And.intro) <;> first | trivial | rfl | assumption | omega | decide | exact Or.inl rfl | exact Or.inr (Or.inl rfl) | exact Or.inr (Or.inr rfl))), (by ((repeat' apply And.intro) <;> first | trivial | rfl | assumption | omega | decide | exact Or.inl rfl | exact Or.inr (Or.inl rfl) | exact Or.inr (Or.inr rfl))), (by unfold TOL; omega)⟩) [0, 1] (by decide) rfl (Nat.le_of_ble_eq_true rfl) (Nat.le_of_ble_eq_true rfl)
  · skip
    have k7 : ¬ ((Int32.toInt z4) = (-1)) := fun h_9 => c5 ((fa_eq z4 (-1)).mpr h_9)
    refine r_iconst 20 1 C dX2_isTold_20 (by decide) ?_
    refine r_goto 21 25 C dX2_isTold_21 (by decide) ?_
    exact r_zret 25 Rt dX2_isTold_25 (by decide) () (show 0 ≤ (Int32.toInt 1) ∧ (Int32.toInt 1) ≤ 1 ∧ TOL 1 (Int32.toInt (fn0 (Int32.toNatClampNeg 3))) from ⟨(by ((repeat' apply And.intro) <;> first | trivial | rfl | assumption | omega | decide | exact Or.inl rfl | exact Or.inr (Or.inl rfl) | exact Or.inr (Or.inr rfl))), (by ((repeat' apply And.intro) <;> first | trivial | rfl | assumption | omega | decide | exact Or.inl rfl | exact Or.inr (Or.inl rfl) | exact Or.inr (Or.inr rfl))), (by unfold TOL; omega)⟩) [0, 1] (by decide) rfl (Nat.le_of_ble_eq_true rfl) (Nat.le_of_ble_eq_true rfl)
set_option maxHeartbeats 4000000 in
set_option maxRecDepth 100000 in
theorem c99_X2_first (l : Launch) (g : GD) (h0 : Nat) (h1 : Nat) (h2 : Nat) (h3 : Nat) (x0 : Int32) (x1 : Int32) (h4 : Nat) (fn0 : Nat → Int32) (fn1 : Nat → Int32) (i_x0 : (0 ≤ (Int32.toInt x0) ∧ (Int32.toInt x0) ≤ 48)) (i_x1 : (0 ≤ (Int32.toInt x1) ∧ (Int32.toInt x1) ≤ 1)) (sz : Nat) : Met l yX2_first wsX2_first ({ frames := 2, cells := 0, slots := 0, locals := 42 }) (va_Pc [.ref h0, .int 19] (PW g [(h0, .inr (2, [.ref h3, .int x0, .int x1, .ref h1, .ref h2, .ref h4])), (h1, .inl (gI g, 6, .inl fn0)), (h2, .inl (gI g, 6, .inl fn1))] sz)) (va_Qi (fun (r : Int32) (_ : Unit) => FST (Int32.toInt r) (Int32.toInt (fn0 (Int32.toNatClampNeg 3))) (Int32.toInt (fn1 (Int32.toNatClampNeg 3)))) (BW g (va_A [(h0, .inr (2, [.ref h3, .int x0, .int x1, .ref h1, .ref h2, .ref h4])), (h1, .inl (gI g, 6, .inl fn0)), (h2, .inl (gI g, 6, .inl fn1))] sz) (fun _ : Unit => [(h0, .inr (2, [.ref h3, .int x0, .int x1, .ref h1, .ref h2, .ref h4])), (h1, .inl (gI g, 6, .inl fn0)), (h2, .inl (gI g, 6, .inl fn1))])) (va_A [(h0, .inr (2, [.ref h3, .int x0, .int x1, .ref h1, .ref h2, .ref h4])), (h1, .inl (gI g, 6, .inl fn0)), (h2, .inl (gI g, 6, .inl fn1))] sz)) 0 0 (va_A [(h0, .inr (2, [.ref h3, .int x0, .int x1, .ref h1, .ref h2, .ref h4])), (h1, .inl (gI g, 6, .inl fn0)), (h2, .inl (gI g, 6, .inl fn1))] sz) := by
  refine met_i RX2 (by decide) rfl rfl (Nat.le_of_ble_eq_true rfl) [(0, .ref h0), (1, .int 19)] rfl ?_
  intro p e s m args below meth c A Q C hnm Rt
  have hiX2 : ∀ w ∈ wsX20, w ∈ wsX2_first := fun w h => List.mem_cons_of_mem _ (List.mem_append_right _ (h))
  refine r_aload_n 0 0 C dX2_first_0 rfl ?_
  refine r_iload_n 1 1 C dX2_first_1 rfl ?_
  refine r_callVi 2 C dX2_first_2 [] [(h0, .inr (2, [.ref h3, .int x0, .int x1, .ref h1, .ref h2, .ref h4])), (h1, .inl (gI g, 6, .inl fn0))] [(h2, .inl (gI g, 6, .inl fn1))] (fun sz => c98_X2_isTold l g h0 h1 h3 x0 x1 h2 h4 fn0 i_x0 i_x1 sz) gX2_first_X2_isTold rfl ⟨rfl, rfl⟩ 1 (by decide) ⟨Nat.le_of_ble_eq_true rfl, Nat.le_of_ble_eq_true rfl⟩ 0 rfl rfl [0, 1] [2] rfl rfl (by decide) (by decide) (by decide) rfl rfl (Nat.le_of_ble_eq_true rfl) ⟨Nat.le_of_ble_eq_true rfl, Nat.le_of_ble_eq_true rfl⟩ (fun r1 _ w2 => ?_)
  refine r_ws [(h2, .inl (gI g, 6, .inl fn1)), (h0, .inr (2, [.ref h3, .int x0, .int x1, .ref h1, .ref h2, .ref h4])), (h1, .inl (gI g, 6, .inl fn0))] rfl ?_
  have p3 : 0 ≤ (Int32.toInt r1) := w2.1
  have p4 : (Int32.toInt r1) ≤ 1 := w2.2.1
  have p5 : TOL (Int32.toInt r1) (Int32.toInt (fn0 (Int32.toNatClampNeg 3))) := w2.2.2
  refine r_if_eq 5 20 C dX2_first_5 (by decide) (fun c6 => ?_) (fun c6 => ?_)
  · skip
    have k7 : (Int32.toInt r1) = 0 := (fa_eq r1 0).mp c6
    refine r_iconst 20 0 C dX2_first_20 (by decide) ?_
    exact r_iret 21 Rt dX2_first_21 () (show FST 0 (Int32.toInt (fn0 (Int32.toNatClampNeg 3))) (Int32.toInt (fn1 (Int32.toNatClampNeg 3))) from (by have h_9 := p5; unfold TOL at h_9; unfold FST; omega)) [1, 2, 0] (by decide) rfl (Nat.le_of_ble_eq_true rfl) (Nat.le_of_ble_eq_true rfl)
  · skip
    have k8 : ¬ ((Int32.toInt r1) = 0) := fun h_9 => c6 ((fa_eq r1 0).mpr h_9)
    refine r_aload_n 8 0 C dX2_first_8 rfl ?_
    refine r_get 9 C dX2_first_9 (k := 4) 1 rfl rfl hiX2 (by decide) rfl (mg 1 rfl) (Or.inl rfl) rfl ?_
    refine r_iload_n 12 1 C dX2_first_12 rfl ?_
    refine r_callSi 13 C dX2_first_13 [.ref h2] [] [(h2, .inl (gI g, 6, .inl fn1)), (h0, .inr (2, [.ref h3, .int x0, .int x1, .ref h1, .ref h2, .ref h4])), (h1, .inl (gI g, 6, .inl fn0))] (fun sz => c88_X2_slotOf l g   sz) gX2_first_X2_slotOf rfl ⟨rfl, rfl⟩ 1 (by decide) ⟨Nat.le_of_ble_eq_true rfl, Nat.le_of_ble_eq_true rfl⟩ [] [0, 1, 2] rfl rfl (by decide) (by decide) (by decide) rfl rfl (Nat.le_of_ble_eq_true rfl) ⟨Nat.le_of_ble_eq_true rfl, Nat.le_of_ble_eq_true rfl⟩ (fun r9 _ w10 => ?_)
    refine r_ws [(h2, .inl (gI g, 6, .inl fn1)), (h0, .inr (2, [.ref h3, .int x0, .int x1, .ref h1, .ref h2, .ref h4])), (h1, .inl (gI g, 6, .inl fn0))] rfl ?_
    have p11 : 3 = r9 := (w10).symm
    subst p11
    obtain ⟨z12, ez12⟩ : ∃ z_9, fn1 (Int32.toNatClampNeg 3) = z_9 := ⟨_, rfl⟩
    have vz12 : Int32.toInt (fn1 (Int32.toNatClampNeg 3)) = Int32.toInt z12 := congrArg _ ez12
    refine r_iald 16 z12 C dX2_first_16 0 rfl (vin (by decide)) ez12 ?_
    have gz12 := fb_rng z12
    refine r_goto 17 21 C dX2_first_17 (by decide) ?_
    exact r_iret 21 Rt dX2_first_21 () (show FST (Int32.toInt z12) (Int32.toInt (fn0 (Int32.toNatClampNeg 3))) (Int32.toInt (fn1 (Int32.toNatClampNeg 3))) from (by have h_9 := p5; unfold TOL at h_9; unfold FST; omega)) [1, 2, 0] (by decide) rfl (Nat.le_of_ble_eq_true rfl) (Nat.le_of_ble_eq_true rfl)
set_option maxHeartbeats 4000000 in
set_option maxRecDepth 100000 in
theorem c100_X1_takePrivate (l : Launch) (g : GD) (h0 : Nat) (h1 : Nat) (h2 : Nat) (h3 : Nat) (h4 : Nat) (h5 : Nat) (h6 : Nat) (h7 : Nat) (h8 : Nat) (h9 : Nat) (y0 : Int64) (y1 : Int64) (x0 : Int32) (y2 : Int64) (y3 : Int64) (x1 : Int32) (x2 : Int32) (y4 : Int64) (y5 : Int64) (x3 : Int32) (x4 : Int32) (h10 : Nat) (h11 : Nat) (x5 : Int32) (x6 : Int32) (x7 : Int32) (x8 : Int32) (fn0 : Nat → Int32) (fn1 : Nat → Int32) (fn2 : Nat → Int32) (fn3 : Nat → Int32) (h12 : Nat) (h13 : Nat) (x9 : Int32) (x10 : Int32) (x11 : Int32) (fn4 : Nat → Int32) (i_y0 : (-2147483648 ≤ (Int64.toInt y0) ∧ (Int64.toInt y0) ≤ 2147483647)) (i_y1 : (-2147483648 ≤ (Int64.toInt y1) ∧ (Int64.toInt y1) ≤ 2147483647)) (i_x0 : (0 ≤ (Int32.toInt x0) ∧ (Int32.toInt x0) ≤ 2)) (i_y2 : (-8589934592 ≤ (Int64.toInt y2) ∧ (Int64.toInt y2) ≤ 8589934592)) (i_x1 : (-257 ≤ (Int32.toInt x1) ∧ (Int32.toInt x1) ≤ 65535)) (i_x2 : (-1 ≤ (Int32.toInt x2) ∧ (Int32.toInt x2) ≤ 255)) (i_y4 : (-8589934592 ≤ (Int64.toInt y4) ∧ (Int64.toInt y4) ≤ 8589934592)) (i_y5 : (-8589934592 ≤ (Int64.toInt y5) ∧ (Int64.toInt y5) ≤ 8589934592)) (i_x3 : (0 ≤ (Int32.toInt x3) ∧ (Int32.toInt x3) ≤ 48)) (i_x4 : (0 ≤ (Int32.toInt x4) ∧ (Int32.toInt x4) ≤ 1)) (i_x8 : (0 ≤ (Int32.toInt x8) ∧ (Int32.toInt x8) ≤ 1500)) (pre0 : (Int32.toInt x9) = 0) (sz : Nat) : Met l yX1_takePrivate wsX1_takePrivate ({ frames := 5, cells := 0, slots := 0, locals := 115 }) (va_Pc [.ref h0, .long y0, .long y1] (PW g [(h0, .inr (1, [.ref h1, .ref h2, .ref h3, .int x0, .long y2, .long y3, .int x1, .int x2, .long y4, .long y5])), (h1, .inr (2, [.ref h4, .int x3, .int x4, .ref h5, .ref h6, .ref h7])), (h2, .inr (3, [.ref h3, .ref h10, .ref h8, .ref h11, .int x5, .int x6, .int x7])), (h3, .inr (4, [.ref h9, .int x8])), (h4, .inl (gI g, 48, .inl fn0)), (h5, .inl (gI g, 6, .inl fn1)), (h6, .inl (gI g, 6, .inl fn2)), (h7, .inl (gI g, 6, .inl fn3)), (h8, .inr (7, [.ref h3, .ref h12, .ref h13, .int x9, .int x10, .int x11])), (h9, .inl (gB g, 1500, .inl fn4))] sz)) (va_Qv (fun (u : (Int32) × (Int64) × (Int32) × (Int32) × (Int64) × (Int64) × (Int32) × (Int32) × (Int32) × (Int32) × (Nat → Int32) × (Nat → Int32) × (Nat → Int32) × (Nat → Int32) × (Int32) × (Int32) × (Int32)) => 0 ≤ (Int32.toInt (u.1)) ∧ (Int32.toInt (u.1)) ≤ 2 ∧ -8589934592 ≤ (Int64.toInt (u.2.1)) ∧ (Int64.toInt (u.2.1)) ≤ 8589934592 ∧ -257 ≤ (Int32.toInt (u.2.2.1)) ∧ (Int32.toInt (u.2.2.1)) ≤ 65535 ∧ -1 ≤ (Int32.toInt (u.2.2.2.1)) ∧ (Int32.toInt (u.2.2.2.1)) ≤ 255 ∧ -8589934592 ≤ (Int64.toInt (u.2.2.2.2.1)) ∧ (Int64.toInt (u.2.2.2.2.1)) ≤ 8589934592 ∧ -8589934592 ≤ (Int64.toInt (u.2.2.2.2.2.1)) ∧ (Int64.toInt (u.2.2.2.2.2.1)) ≤ 8589934592 ∧ 0 ≤ (Int32.toInt (u.2.2.2.2.2.2.1)) ∧ (Int32.toInt (u.2.2.2.2.2.2.1)) ≤ 48 ∧ 0 ≤ (Int32.toInt (u.2.2.2.2.2.2.2.1)) ∧ (Int32.toInt (u.2.2.2.2.2.2.2.1)) ≤ 1 ∧ SEQ (Int32.toInt x0) (Int32.toInt (u.1)) (PRIV (GB fn4 (Int32.toInt x8)) (Int32.toInt x8) (Int64.toInt y0) (Int64.toInt y1)) (fun q => q = ((Int32.toInt (u.2.2.2.2.2.2.2.2.2.2.2.2.2.2.1)), (Int32.toInt (u.2.2.2.2.2.2.2.2.1)), (Int32.toInt (u.2.2.2.2.2.2.2.2.2.1))))) (BW g (va_A [(h0, .inr (1, [.ref h1, .ref h2, .ref h3, .int x0, .long y2, .long y3, .int x1, .int x2, .long y4, .long y5])), (h1, .inr (2, [.ref h4, .int x3, .int x4, .ref h5, .ref h6, .ref h7])), (h2, .inr (3, [.ref h3, .ref h10, .ref h8, .ref h11, .int x5, .int x6, .int x7])), (h3, .inr (4, [.ref h9, .int x8])), (h4, .inl (gI g, 48, .inl fn0)), (h5, .inl (gI g, 6, .inl fn1)), (h6, .inl (gI g, 6, .inl fn2)), (h7, .inl (gI g, 6, .inl fn3)), (h8, .inr (7, [.ref h3, .ref h12, .ref h13, .int x9, .int x10, .int x11])), (h9, .inl (gB g, 1500, .inl fn4))] sz) (fun u : (Int32) × (Int64) × (Int32) × (Int32) × (Int64) × (Int64) × (Int32) × (Int32) × (Int32) × (Int32) × (Nat → Int32) × (Nat → Int32) × (Nat → Int32) × (Nat → Int32) × (Int32) × (Int32) × (Int32) => [(h0, .inr (1, [.ref h1, .ref h2, .ref h3, .int u.1, .long u.2.1, .long 9223372036854775807, .int u.2.2.1, .int u.2.2.2.1, .long u.2.2.2.2.1, .long u.2.2.2.2.2.1])), (h1, .inr (2, [.ref h4, .int u.2.2.2.2.2.2.1, .int u.2.2.2.2.2.2.2.1, .ref h5, .ref h6, .ref h7])), (h2, .inr (3, [.ref h3, .ref h10, .ref h8, .ref h11, .int x5, .int u.2.2.2.2.2.2.2.2.1, .int u.2.2.2.2.2.2.2.2.2.1])), (h3, .inr (4, [.ref h9, .int x8])), (h4, .inl (gI g, 48, .inl u.2.2.2.2.2.2.2.2.2.2.1)), (h5, .inl (gI g, 6, .inl u.2.2.2.2.2.2.2.2.2.2.2.1)), (h6, .inl (gI g, 6, .inl u.2.2.2.2.2.2.2.2.2.2.2.2.1)), (h7, .inl (gI g, 6, .inl u.2.2.2.2.2.2.2.2.2.2.2.2.2.1)), (h8, .inr (7, [.ref h3, .ref h12, .ref h13, .int u.2.2.2.2.2.2.2.2.2.2.2.2.2.2.1, .int u.2.2.2.2.2.2.2.2.2.2.2.2.2.2.2.1, .int u.2.2.2.2.2.2.2.2.2.2.2.2.2.2.2.2])), (h9, .inl (gB g, 1500, .inl fn4))])) (va_A [(h0, .inr (1, [.ref h1, .ref h2, .ref h3, .int x0, .long y2, .long y3, .int x1, .int x2, .long y4, .long y5])), (h1, .inr (2, [.ref h4, .int x3, .int x4, .ref h5, .ref h6, .ref h7])), (h2, .inr (3, [.ref h3, .ref h10, .ref h8, .ref h11, .int x5, .int x6, .int x7])), (h3, .inr (4, [.ref h9, .int x8])), (h4, .inl (gI g, 48, .inl fn0)), (h5, .inl (gI g, 6, .inl fn1)), (h6, .inl (gI g, 6, .inl fn2)), (h7, .inl (gI g, 6, .inl fn3)), (h8, .inr (7, [.ref h3, .ref h12, .ref h13, .int x9, .int x10, .int x11])), (h9, .inl (gB g, 1500, .inl fn4))] sz)) 0 0 (va_A [(h0, .inr (1, [.ref h1, .ref h2, .ref h3, .int x0, .long y2, .long y3, .int x1, .int x2, .long y4, .long y5])), (h1, .inr (2, [.ref h4, .int x3, .int x4, .ref h5, .ref h6, .ref h7])), (h2, .inr (3, [.ref h3, .ref h10, .ref h8, .ref h11, .int x5, .int x6, .int x7])), (h3, .inr (4, [.ref h9, .int x8])), (h4, .inl (gI g, 48, .inl fn0)), (h5, .inl (gI g, 6, .inl fn1)), (h6, .inl (gI g, 6, .inl fn2)), (h7, .inl (gI g, 6, .inl fn3)), (h8, .inr (7, [.ref h3, .ref h12, .ref h13, .int x9, .int x10, .int x11])), (h9, .inl (gB g, 1500, .inl fn4))] sz) := by
  refine met_v RX1 (by decide) rfl rfl (Nat.le_of_ble_eq_true rfl) [(0, .ref h0), (1, .long y0), (3, .long y1)] rfl ?_
  intro p e s m args below meth c A Q C hnm Rt
  have gx9 := fb_rng x9
  have hiX1 : ∀ w ∈ wsX10, w ∈ wsX1_takePrivate := fun w h => List.mem_cons_of_mem _ (List.mem_append_left _ (List.mem_append_left _ (List.mem_append_left _ (List.mem_append_left _ (List.mem_append_right _ (h))))))
  have hiX3 : ∀ w ∈ wsX30, w ∈ wsX1_takePrivate := fun w h => List.mem_cons_of_mem _ (List.mem_append_left _ (List.mem_append_left _ (List.mem_append_left _ (List.mem_append_right _ (h)))))
  refine r_lload_n 0 1 C dX1_takePrivate_0 rfl ?_
  refine r_lconst 1 0 C dX1_takePrivate_1 (by decide) ?_
  obtain ⟨z1, ez1⟩ : ∃ z_9, lg_cmp y0 0 = z_9 := ⟨_, rfl⟩
  have l1z1 : (Int32.toInt z1) < 0 ↔ (Int64.toInt y0) < 0 := by rw [← ez1]; exact lgI1 y0 0
  have l2z1 : 0 < (Int32.toInt z1) ↔ 0 < (Int64.toInt y0) := by rw [← ez1]; exact lgI2 y0 0
  refine r_lcmp 2 z1 C dX1_takePrivate_2 ez1 ?_
  refine r_if_lt 3 19 C dX1_takePrivate_3 (by decide) (fun c2 => ?_) (fun c2 => ?_)
  · skip
    have k3 : (Int32.toInt z1) < 0 := (fa_lt z1 0).mp c2
    refine r_aload_n 19 0 C dX1_takePrivate_19 rfl ?_
    refine r_iconst 20 1 C dX1_takePrivate_20 (by decide) ?_
    refine r_callVv 21 C dX1_takePrivate_21 [] [(h0, .inr (1, [.ref h1, .ref h2, .ref h3, .int x0, .long y2, .long y3, .int x1, .int x2, .long y4, .long y5]))] [(h1, .inr (2, [.ref h4, .int x3, .int x4, .ref h5, .ref h6, .ref h7])), (h2, .inr (3, [.ref h3, .ref h10, .ref h8, .ref h11, .int x5, .int x6, .int x7])), (h3, .inr (4, [.ref h9, .int x8])), (h4, .inl (gI g, 48, .inl fn0)), (h5, .inl (gI g, 6, .inl fn1)), (h6, .inl (gI g, 6, .inl fn2)), (h7, .inl (gI g, 6, .inl fn3)), (h8, .inr (7, [.ref h3, .ref h12, .ref h13, .int x9, .int x10, .int x11])), (h9, .inl (gB g, 1500, .inl fn4))] (fun sz => c51_X1_wrong l g h0 1 h1 h2 h3 x0 y2 y3 x1 x2 y4 y5 (by decide) i_x0 i_y2 i_x1 i_x2 i_y4 i_y5 sz) gX1_takePrivate_X1_wrong rfl ⟨rfl, rfl⟩ 1 (by decide) ⟨Nat.le_of_ble_eq_true rfl, Nat.le_of_ble_eq_true rfl⟩ 0 rfl rfl [0] [1, 2, 3, 4, 5, 6, 7, 8, 9] rfl rfl (by decide) (by decide) (by decide) rfl rfl (Nat.le_of_ble_eq_true rfl) ⟨Nat.le_of_ble_eq_true rfl, Nat.le_of_ble_eq_true rfl⟩ (fun  z4 w5 => ?_)
    refine r_ws [(h1, .inr (2, [.ref h4, .int x3, .int x4, .ref h5, .ref h6, .ref h7])), (h2, .inr (3, [.ref h3, .ref h10, .ref h8, .ref h11, .int x5, .int x6, .int x7])), (h3, .inr (4, [.ref h9, .int x8])), (h4, .inl (gI g, 48, .inl fn0)), (h5, .inl (gI g, 6, .inl fn1)), (h6, .inl (gI g, 6, .inl fn2)), (h7, .inl (gI g, 6, .inl fn3)), (h8, .inr (7, [.ref h3, .ref h12, .ref h13, .int x9, .int x10, .int x11])), (h9, .inl (gB g, 1500, .inl fn4)), (h0, .inr (1, [.ref h1, .ref h2, .ref h3, .int z4, .long y2, .long y3, .int x1, .int x2, .long y4, .long y5]))] rfl ?_
    have p6 : 0 ≤ (Int32.toInt z4) := w5.1
    have p7 : (Int32.toInt z4) ≤ 2 := w5.2.1
    have p8 : ¬ ((Int32.toInt z4) = 0) := w5.2.2
    refine r_aload_n 24 0 C dX1_takePrivate_24 rfl ?_
    refine r_lload_n 25 2 C dX1_takePrivate_25 rfl ?_
    refine r_lconst 26 0 C dX1_takePrivate_26 (by decide) ?_
    obtain ⟨z9, ez9⟩ : ∃ z_9, lg_cmp y1 0 = z_9 := ⟨_, rfl⟩
    have l1z9 : (Int32.toInt z9) < 0 ↔ (Int64.toInt y1) < 0 := by rw [← ez9]; exact lgI1 y1 0
    have l2z9 : 0 < (Int32.toInt z9) ↔ 0 < (Int64.toInt y1) := by rw [← ez9]; exact lgI2 y1 0
    refine r_lcmp 27 z9 C dX1_takePrivate_27 ez9 ?_
    refine r_if_lt 28 35 C dX1_takePrivate_28 (by decide) (fun c10 => ?_) (fun c10 => ?_)
    · skip
      have k11 : (Int32.toInt z9) < 0 := (fa_lt z9 0).mp c10
      refine r_iconst 35 0 C dX1_takePrivate_35 (by decide) ?_
      refine r_callVv 36 C dX1_takePrivate_36 [] [(h0, .inr (1, [.ref h1, .ref h2, .ref h3, .int z4, .long y2, .long y3, .int x1, .int x2, .long y4, .long y5]))] [(h1, .inr (2, [.ref h4, .int x3, .int x4, .ref h5, .ref h6, .ref h7])), (h2, .inr (3, [.ref h3, .ref h10, .ref h8, .ref h11, .int x5, .int x6, .int x7])), (h3, .inr (4, [.ref h9, .int x8])), (h4, .inl (gI g, 48, .inl fn0)), (h5, .inl (gI g, 6, .inl fn1)), (h6, .inl (gI g, 6, .inl fn2)), (h7, .inl (gI g, 6, .inl fn3)), (h8, .inr (7, [.ref h3, .ref h12, .ref h13, .int x9, .int x10, .int x11])), (h9, .inl (gB g, 1500, .inl fn4))] (fun sz => c53_X1_want l g h0 0 h1 h2 h3 z4 y2 y3 x1 x2 y4 y5 (by decide) ⟨p6, p7⟩ i_y2 i_x1 i_x2 i_y4 i_y5 sz) gX1_takePrivate_X1_want rfl ⟨rfl, rfl⟩ 1 (by decide) ⟨Nat.le_of_ble_eq_true rfl, Nat.le_of_ble_eq_true rfl⟩ 9 rfl rfl [9] [0, 1, 2, 3, 4, 5, 6, 7, 8] rfl rfl (by decide) (by decide) (by decide) rfl rfl (Nat.le_of_ble_eq_true rfl) ⟨Nat.le_of_ble_eq_true rfl, Nat.le_of_ble_eq_true rfl⟩ (fun  z12 w13 => ?_)
      refine r_ws [(h1, .inr (2, [.ref h4, .int x3, .int x4, .ref h5, .ref h6, .ref h7])), (h2, .inr (3, [.ref h3, .ref h10, .ref h8, .ref h11, .int x5, .int x6, .int x7])), (h3, .inr (4, [.ref h9, .int x8])), (h4, .inl (gI g, 48, .inl fn0)), (h5, .inl (gI g, 6, .inl fn1)), (h6, .inl (gI g, 6, .inl fn2)), (h7, .inl (gI g, 6, .inl fn3)), (h8, .inr (7, [.ref h3, .ref h12, .ref h13, .int x9, .int x10, .int x11])), (h9, .inl (gB g, 1500, .inl fn4)), (h0, .inr (1, [.ref h1, .ref h2, .ref h3, .int z12, .long y2, .long y3, .int x1, .int x2, .long y4, .long y5]))] rfl ?_
      have p14 : 0 ≤ (Int32.toInt z12) := w13.1
      have p15 : (Int32.toInt z12) ≤ 2 := w13.2.1
      have p16 : WNT (0 : Int) (Int32.toInt z4) (Int32.toInt z12) := w13.2.2.1
      have p17 : (((0 : Int) = 1 ∧ (Int32.toInt z12) = (Int32.toInt z4)) ∨ ((0 : Int) = 0 ∧ 1 ≤ (Int32.toInt z12))) := w13.2.2.2
      clear p17
      refine r_aload_n 39 0 C dX1_takePrivate_39 rfl ?_
      refine r_lload_n 40 1 C dX1_takePrivate_40 rfl ?_
      refine r_lload_n 41 1 C dX1_takePrivate_41 rfl ?_
      refine r_lload_n 42 2 C dX1_takePrivate_42 rfl ?_
      obtain ⟨z18, ez18⟩ : ∃ z_9, y0 + y1 = z_9 := ⟨_, rfl⟩
      have tz18 : (Int64.toInt z18) = (Int64.toInt y0) + (Int64.toInt y1) := by rw [← ez18]; exact fb_addLv (a := (-2147483648)) (b := 2147483647) (c := (-2147483648)) (d := 2147483647) i_y0 i_y1 (by decide) (by decide)
      refine r_ladd 43 z18 C dX1_takePrivate_43 ez18 ?_
      refine r_callVv 44 C dX1_takePrivate_44 [] [(h0, .inr (1, [.ref h1, .ref h2, .ref h3, .int z12, .long y2, .long y3, .int x1, .int x2, .long y4, .long y5])), (h1, .inr (2, [.ref h4, .int x3, .int x4, .ref h5, .ref h6, .ref h7])), (h3, .inr (4, [.ref h9, .int x8])), (h4, .inl (gI g, 48, .inl fn0)), (h5, .inl (gI g, 6, .inl fn1)), (h6, .inl (gI g, 6, .inl fn2)), (h7, .inl (gI g, 6, .inl fn3)), (h9, .inl (gB g, 1500, .inl fn4))] [(h2, .inr (3, [.ref h3, .ref h10, .ref h8, .ref h11, .int x5, .int x6, .int x7])), (h8, .inr (7, [.ref h3, .ref h12, .ref h13, .int x9, .int x10, .int x11]))] (fun sz => c73_X1_takeDict l g h0 h1 h3 h4 h5 h6 h7 h9 y0 z18 h2 z12 y2 y3 x1 x2 y4 y5 x3 x4 x8 fn0 fn1 fn2 fn3 fn4 (iv_wide (c := (-8589934592)) (d := 8589934592) i_y0 (by decide) (by decide)) ⟨p14, p15⟩ i_y2 i_x1 i_x2 i_y4 i_y5 i_x3 i_x4 i_x8 (by show (¬ ((Int32.toInt z12) = 0) ∨ 0 ≤ (Int64.toInt y0)); first | assumption | omega) sz) gX1_takePrivate_X1_takeDict rfl ⟨rfl, rfl⟩ 2 (by decide) ⟨Nat.le_of_ble_eq_true rfl, Nat.le_of_ble_eq_true rfl⟩ 9 rfl rfl [9, 0, 2, 3, 4, 5, 6, 8] [1, 7] rfl rfl (by decide) (by decide) (by decide) rfl rfl (Nat.le_of_ble_eq_true rfl) ⟨Nat.le_of_ble_eq_true rfl, Nat.le_of_ble_eq_true rfl⟩ (fun  u28 w27 => ?_)
      obtain ⟨z19, z20, z21, z22, f23, f24, f25, f26⟩ := u28
      refine r_ws [(h2, .inr (3, [.ref h3, .ref h10, .ref h8, .ref h11, .int x5, .int x6, .int x7])), (h8, .inr (7, [.ref h3, .ref h12, .ref h13, .int x9, .int x10, .int x11])), (h0, .inr (1, [.ref h1, .ref h2, .ref h3, .int z19, .long z20, .long 9223372036854775807, .int x1, .int x2, .long y4, .long y5])), (h1, .inr (2, [.ref h4, .int z21, .int z22, .ref h5, .ref h6, .ref h7])), (h3, .inr (4, [.ref h9, .int x8])), (h4, .inl (gI g, 48, .inl f23)), (h5, .inl (gI g, 6, .inl f24)), (h6, .inl (gI g, 6, .inl f25)), (h7, .inl (gI g, 6, .inl f26)), (h9, .inl (gB g, 1500, .inl fn4))] rfl ?_
      have p29 : 0 ≤ (Int32.toInt z19) := w27.1
      have p30 : (Int32.toInt z19) ≤ 2 := w27.2.1
      have p31 : -8589934592 ≤ (Int64.toInt z20) := w27.2.2.1
      have p32 : (Int64.toInt z20) ≤ 8589934592 := w27.2.2.2.1
      have p33 : 0 ≤ (Int32.toInt z21) := w27.2.2.2.2.1
      have p34 : (Int32.toInt z21) ≤ 48 := w27.2.2.2.2.2.1
      have p35 : 0 ≤ (Int32.toInt z22) := w27.2.2.2.2.2.2.1
      have p36 : (Int32.toInt z22) ≤ 1 := w27.2.2.2.2.2.2.2.1
      have p37 : SEQ (Int32.toInt z12) (Int32.toInt z19) (DICB (GB fn4 (Int32.toInt x8)) (Int32.toInt x8) (Int64.toInt y0) (Int64.toInt z18)) (fun S => S = (SC f24 f25 f26)) := w27.2.2.2.2.2.2.2.2
      refine r_aload_n 47 0 C dX1_takePrivate_47 rfl ?_
      refine r_aload_n 48 0 C dX1_takePrivate_48 rfl ?_
      refine r_get 49 C dX1_takePrivate_49 (k := 0) 2 rfl rfl hiX1 (by decide) rfl (mg 2 rfl) (Or.inl rfl) rfl ?_
      refine r_bipush 52 19 C dX1_takePrivate_52 (by decide) ?_
      refine r_iconst 54 1 C dX1_takePrivate_54 (by decide) ?_
      refine r_callVi 55 C dX1_takePrivate_55 [.ref h0] [(h1, .inr (2, [.ref h4, .int z21, .int z22, .ref h5, .ref h6, .ref h7])), (h5, .inl (gI g, 6, .inl f24))] [(h2, .inr (3, [.ref h3, .ref h10, .ref h8, .ref h11, .int x5, .int x6, .int x7])), (h8, .inr (7, [.ref h3, .ref h12, .ref h13, .int x9, .int x10, .int x11])), (h0, .inr (1, [.ref h1, .ref h2, .ref h3, .int z19, .long z20, .long 9223372036854775807, .int x1, .int x2, .long y4, .long y5])), (h3, .inr (4, [.ref h9, .int x8])), (h4, .inl (gI g, 48, .inl f23)), (h6, .inl (gI g, 6, .inl f25)), (h7, .inl (gI g, 6, .inl f26)), (h9, .inl (gB g, 1500, .inl fn4))] (fun sz => c89_X2_fits l g h1 h5 1 h4 z21 z22 h6 h7 f24 ⟨p33, p34⟩ ⟨p35, p36⟩ sz) gX1_takePrivate_X2_fits rfl ⟨rfl, rfl⟩ 2 (by decide) ⟨Nat.le_of_ble_eq_true rfl, Nat.le_of_ble_eq_true rfl⟩ 3 rfl rfl [3, 6] [0, 1, 2, 4, 5, 7, 8, 9] rfl rfl (by decide) (by decide) (by decide) rfl rfl (Nat.le_of_ble_eq_true rfl) ⟨Nat.le_of_ble_eq_true rfl, Nat.le_of_ble_eq_true rfl⟩ (fun r38 _ w39 => ?_)
      refine r_ws [(h2, .inr (3, [.ref h3, .ref h10, .ref h8, .ref h11, .int x5, .int x6, .int x7])), (h8, .inr (7, [.ref h3, .ref h12, .ref h13, .int x9, .int x10, .int x11])), (h0, .inr (1, [.ref h1, .ref h2, .ref h3, .int z19, .long z20, .long 9223372036854775807, .int x1, .int x2, .long y4, .long y5])), (h3, .inr (4, [.ref h9, .int x8])), (h4, .inl (gI g, 48, .inl f23)), (h6, .inl (gI g, 6, .inl f25)), (h7, .inl (gI g, 6, .inl f26)), (h9, .inl (gB g, 1500, .inl fn4)), (h1, .inr (2, [.ref h4, .int z21, .int z22, .ref h5, .ref h6, .ref h7])), (h5, .inl (gI g, 6, .inl f24))] rfl ?_
      have p40 : 0 ≤ (Int32.toInt r38) := w39.1
      have p41 : (Int32.toInt r38) ≤ 1 := w39.2.1
      have p42 : FTS (Int32.toInt r38) (Int32.toInt (f24 (Int32.toNatClampNeg 3))) (1 : Int) := w39.2.2
      refine r_callVv 58 C dX1_takePrivate_58 [] [(h0, .inr (1, [.ref h1, .ref h2, .ref h3, .int z19, .long z20, .long 9223372036854775807, .int x1, .int x2, .long y4, .long y5]))] [(h2, .inr (3, [.ref h3, .ref h10, .ref h8, .ref h11, .int x5, .int x6, .int x7])), (h8, .inr (7, [.ref h3, .ref h12, .ref h13, .int x9, .int x10, .int x11])), (h3, .inr (4, [.ref h9, .int x8])), (h4, .inl (gI g, 48, .inl f23)), (h6, .inl (gI g, 6, .inl f25)), (h7, .inl (gI g, 6, .inl f26)), (h9, .inl (gB g, 1500, .inl fn4)), (h1, .inr (2, [.ref h4, .int z21, .int z22, .ref h5, .ref h6, .ref h7])), (h5, .inl (gI g, 6, .inl f24))] (fun sz => c53_X1_want l g h0 r38 h1 h2 h3 z19 z20 9223372036854775807 x1 x2 y4 y5 ⟨p40, p41⟩ ⟨p29, p30⟩ ⟨p31, p32⟩ i_x1 i_x2 i_y4 i_y5 sz) gX1_takePrivate_X1_want rfl ⟨rfl, rfl⟩ 1 (by decide) ⟨Nat.le_of_ble_eq_true rfl, Nat.le_of_ble_eq_true rfl⟩ 2 rfl rfl [2] [0, 1, 3, 4, 5, 6, 7, 8, 9] rfl rfl (by decide) (by decide) (by decide) rfl rfl (Nat.le_of_ble_eq_true rfl) ⟨Nat.le_of_ble_eq_true rfl, Nat.le_of_ble_eq_true rfl⟩ (fun  z43 w44 => ?_)
      refine r_ws [(h2, .inr (3, [.ref h3, .ref h10, .ref h8, .ref h11, .int x5, .int x6, .int x7])), (h8, .inr (7, [.ref h3, .ref h12, .ref h13, .int x9, .int x10, .int x11])), (h3, .inr (4, [.ref h9, .int x8])), (h4, .inl (gI g, 48, .inl f23)), (h6, .inl (gI g, 6, .inl f25)), (h7, .inl (gI g, 6, .inl f26)), (h9, .inl (gB g, 1500, .inl fn4)), (h1, .inr (2, [.ref h4, .int z21, .int z22, .ref h5, .ref h6, .ref h7])), (h5, .inl (gI g, 6, .inl f24)), (h0, .inr (1, [.ref h1, .ref h2, .ref h3, .int z43, .long z20, .long 9223372036854775807, .int x1, .int x2, .long y4, .long y5]))] rfl ?_
      have p45 : 0 ≤ (Int32.toInt z43) := w44.1
      have p46 : (Int32.toInt z43) ≤ 2 := w44.2.1
      have p47 : WNT (Int32.toInt r38) (Int32.toInt z19) (Int32.toInt z43) := w44.2.2.1
      have p48 : (((Int32.toInt r38) = 1 ∧ (Int32.toInt z43) = (Int32.toInt z19)) ∨ ((Int32.toInt r38) = 0 ∧ 1 ≤ (Int32.toInt z43))) := w44.2.2.2
      clear p48
      refine r_aload_n 61 0 C dX1_takePrivate_61 rfl ?_
      refine r_aload_n 62 0 C dX1_takePrivate_62 rfl ?_
      refine r_get 63 C dX1_takePrivate_63 (k := 0) 9 rfl rfl hiX1 (by decide) rfl (mg 2 rfl) (Or.inl rfl) rfl ?_
      refine r_bipush 66 20 C dX1_takePrivate_66 (by decide) ?_
      refine r_iconst 68 1 C dX1_takePrivate_68 (by decide) ?_
      refine r_callVi 69 C dX1_takePrivate_69 [.ref h0] [(h1, .inr (2, [.ref h4, .int z21, .int z22, .ref h5, .ref h6, .ref h7])), (h5, .inl (gI g, 6, .inl f24))] [(h2, .inr (3, [.ref h3, .ref h10, .ref h8, .ref h11, .int x5, .int x6, .int x7])), (h8, .inr (7, [.ref h3, .ref h12, .ref h13, .int x9, .int x10, .int x11])), (h3, .inr (4, [.ref h9, .int x8])), (h4, .inl (gI g, 48, .inl f23)), (h6, .inl (gI g, 6, .inl f25)), (h7, .inl (gI g, 6, .inl f26)), (h9, .inl (gB g, 1500, .inl fn4)), (h0, .inr (1, [.ref h1, .ref h2, .ref h3, .int z43, .long z20, .long 9223372036854775807, .int x1, .int x2, .long y4, .long y5]))] (fun sz => c91_X2_fits l g h1 h5 1 h4 z21 z22 h6 h7 f24 ⟨p33, p34⟩ ⟨p35, p36⟩ sz) gX1_takePrivate_X2_fits rfl ⟨rfl, rfl⟩ 2 (by decide) ⟨Nat.le_of_ble_eq_true rfl, Nat.le_of_ble_eq_true rfl⟩ 7 rfl rfl [7, 8] [0, 1, 2, 3, 4, 5, 6, 9] rfl rfl (by decide) (by decide) (by decide) rfl rfl (Nat.le_of_ble_eq_true rfl) ⟨Nat.le_of_ble_eq_true rfl, Nat.le_of_ble_eq_true rfl⟩ (fun r49 _ w50 => ?_)
      refine r_ws [(h2, .inr (3, [.ref h3, .ref h10, .ref h8, .ref h11, .int x5, .int x6, .int x7])), (h8, .inr (7, [.ref h3, .ref h12, .ref h13, .int x9, .int x10, .int x11])), (h3, .inr (4, [.ref h9, .int x8])), (h4, .inl (gI g, 48, .inl f23)), (h6, .inl (gI g, 6, .inl f25)), (h7, .inl (gI g, 6, .inl f26)), (h9, .inl (gB g, 1500, .inl fn4)), (h0, .inr (1, [.ref h1, .ref h2, .ref h3, .int z43, .long z20, .long 9223372036854775807, .int x1, .int x2, .long y4, .long y5])), (h1, .inr (2, [.ref h4, .int z21, .int z22, .ref h5, .ref h6, .ref h7])), (h5, .inl (gI g, 6, .inl f24))] rfl ?_
      have p51 : 0 ≤ (Int32.toInt r49) := w50.1
      have p52 : (Int32.toInt r49) ≤ 1 := w50.2.1
      have p53 : FTS (Int32.toInt r49) (Int32.toInt (f24 (Int32.toNatClampNeg 4))) (1 : Int) := w50.2.2
      refine r_callVv 72 C dX1_takePrivate_72 [] [(h0, .inr (1, [.ref h1, .ref h2, .ref h3, .int z43, .long z20, .long 9223372036854775807, .int x1, .int x2, .long y4, .long y5]))] [(h2, .inr (3, [.ref h3, .ref h10, .ref h8, .ref h11, .int x5, .int x6, .int x7])), (h8, .inr (7, [.ref h3, .ref h12, .ref h13, .int x9, .int x10, .int x11])), (h3, .inr (4, [.ref h9, .int x8])), (h4, .inl (gI g, 48, .inl f23)), (h6, .inl (gI g, 6, .inl f25)), (h7, .inl (gI g, 6, .inl f26)), (h9, .inl (gB g, 1500, .inl fn4)), (h1, .inr (2, [.ref h4, .int z21, .int z22, .ref h5, .ref h6, .ref h7])), (h5, .inl (gI g, 6, .inl f24))] (fun sz => c53_X1_want l g h0 r49 h1 h2 h3 z43 z20 9223372036854775807 x1 x2 y4 y5 ⟨p51, p52⟩ ⟨p45, p46⟩ ⟨p31, p32⟩ i_x1 i_x2 i_y4 i_y5 sz) gX1_takePrivate_X1_want rfl ⟨rfl, rfl⟩ 1 (by decide) ⟨Nat.le_of_ble_eq_true rfl, Nat.le_of_ble_eq_true rfl⟩ 7 rfl rfl [7] [0, 1, 2, 3, 4, 5, 6, 8, 9] rfl rfl (by decide) (by decide) (by decide) rfl rfl (Nat.le_of_ble_eq_true rfl) ⟨Nat.le_of_ble_eq_true rfl, Nat.le_of_ble_eq_true rfl⟩ (fun  z54 w55 => ?_)
      refine r_ws [(h2, .inr (3, [.ref h3, .ref h10, .ref h8, .ref h11, .int x5, .int x6, .int x7])), (h8, .inr (7, [.ref h3, .ref h12, .ref h13, .int x9, .int x10, .int x11])), (h3, .inr (4, [.ref h9, .int x8])), (h4, .inl (gI g, 48, .inl f23)), (h6, .inl (gI g, 6, .inl f25)), (h7, .inl (gI g, 6, .inl f26)), (h9, .inl (gB g, 1500, .inl fn4)), (h1, .inr (2, [.ref h4, .int z21, .int z22, .ref h5, .ref h6, .ref h7])), (h5, .inl (gI g, 6, .inl f24)), (h0, .inr (1, [.ref h1, .ref h2, .ref h3, .int z54, .long z20, .long 9223372036854775807, .int x1, .int x2, .long y4, .long y5]))] rfl ?_
      have p56 : 0 ≤ (Int32.toInt z54) := w55.1
      have p57 : (Int32.toInt z54) ≤ 2 := w55.2.1
      have p58 : WNT (Int32.toInt r49) (Int32.toInt z43) (Int32.toInt z54) := w55.2.2.1
      have p59 : (((Int32.toInt r49) = 1 ∧ (Int32.toInt z54) = (Int32.toInt z43)) ∨ ((Int32.toInt r49) = 0 ∧ 1 ≤ (Int32.toInt z54))) := w55.2.2.2
      clear p59
      refine r_aload_n 75 0 C dX1_takePrivate_75 rfl ?_
      refine r_aload_n 76 0 C dX1_takePrivate_76 rfl ?_
      refine r_get 77 C dX1_takePrivate_77 (k := 0) 9 rfl rfl hiX1 (by decide) rfl (mg 2 rfl) (Or.inl rfl) rfl ?_
      refine r_bipush 80 21 C dX1_takePrivate_80 (by decide) ?_
      refine r_iconst 82 1 C dX1_takePrivate_82 (by decide) ?_
      refine r_callVi 83 C dX1_takePrivate_83 [.ref h0] [(h1, .inr (2, [.ref h4, .int z21, .int z22, .ref h5, .ref h6, .ref h7])), (h5, .inl (gI g, 6, .inl f24))] [(h2, .inr (3, [.ref h3, .ref h10, .ref h8, .ref h11, .int x5, .int x6, .int x7])), (h8, .inr (7, [.ref h3, .ref h12, .ref h13, .int x9, .int x10, .int x11])), (h3, .inr (4, [.ref h9, .int x8])), (h4, .inl (gI g, 48, .inl f23)), (h6, .inl (gI g, 6, .inl f25)), (h7, .inl (gI g, 6, .inl f26)), (h9, .inl (gB g, 1500, .inl fn4)), (h0, .inr (1, [.ref h1, .ref h2, .ref h3, .int z54, .long z20, .long 9223372036854775807, .int x1, .int x2, .long y4, .long y5]))] (fun sz => c93_X2_fits l g h1 h5 1 h4 z21 z22 h6 h7 f24 ⟨p33, p34⟩ ⟨p35, p36⟩ sz) gX1_takePrivate_X2_fits rfl ⟨rfl, rfl⟩ 2 (by decide) ⟨Nat.le_of_ble_eq_true rfl, Nat.le_of_ble_eq_true rfl⟩ 7 rfl rfl [7, 8] [0, 1, 2, 3, 4, 5, 6, 9] rfl rfl (by decide) (by decide) (by decide) rfl rfl (Nat.le_of_ble_eq_true rfl) ⟨Nat.le_of_ble_eq_true rfl, Nat.le_of_ble_eq_true rfl⟩ (fun r60 _ w61 => ?_)
      refine r_ws [(h2, .inr (3, [.ref h3, .ref h10, .ref h8, .ref h11, .int x5, .int x6, .int x7])), (h8, .inr (7, [.ref h3, .ref h12, .ref h13, .int x9, .int x10, .int x11])), (h3, .inr (4, [.ref h9, .int x8])), (h4, .inl (gI g, 48, .inl f23)), (h6, .inl (gI g, 6, .inl f25)), (h7, .inl (gI g, 6, .inl f26)), (h9, .inl (gB g, 1500, .inl fn4)), (h0, .inr (1, [.ref h1, .ref h2, .ref h3, .int z54, .long z20, .long 9223372036854775807, .int x1, .int x2, .long y4, .long y5])), (h1, .inr (2, [.ref h4, .int z21, .int z22, .ref h5, .ref h6, .ref h7])), (h5, .inl (gI g, 6, .inl f24))] rfl ?_
      have p62 : 0 ≤ (Int32.toInt r60) := w61.1
      have p63 : (Int32.toInt r60) ≤ 1 := w61.2.1
      have p64 : FTS (Int32.toInt r60) (Int32.toInt (f24 (Int32.toNatClampNeg 5))) (1 : Int) := w61.2.2
      refine r_callVv 86 C dX1_takePrivate_86 [] [(h0, .inr (1, [.ref h1, .ref h2, .ref h3, .int z54, .long z20, .long 9223372036854775807, .int x1, .int x2, .long y4, .long y5]))] [(h2, .inr (3, [.ref h3, .ref h10, .ref h8, .ref h11, .int x5, .int x6, .int x7])), (h8, .inr (7, [.ref h3, .ref h12, .ref h13, .int x9, .int x10, .int x11])), (h3, .inr (4, [.ref h9, .int x8])), (h4, .inl (gI g, 48, .inl f23)), (h6, .inl (gI g, 6, .inl f25)), (h7, .inl (gI g, 6, .inl f26)), (h9, .inl (gB g, 1500, .inl fn4)), (h1, .inr (2, [.ref h4, .int z21, .int z22, .ref h5, .ref h6, .ref h7])), (h5, .inl (gI g, 6, .inl f24))] (fun sz => c53_X1_want l g h0 r60 h1 h2 h3 z54 z20 9223372036854775807 x1 x2 y4 y5 ⟨p62, p63⟩ ⟨p56, p57⟩ ⟨p31, p32⟩ i_x1 i_x2 i_y4 i_y5 sz) gX1_takePrivate_X1_want rfl ⟨rfl, rfl⟩ 1 (by decide) ⟨Nat.le_of_ble_eq_true rfl, Nat.le_of_ble_eq_true rfl⟩ 7 rfl rfl [7] [0, 1, 2, 3, 4, 5, 6, 8, 9] rfl rfl (by decide) (by decide) (by decide) rfl rfl (Nat.le_of_ble_eq_true rfl) ⟨Nat.le_of_ble_eq_true rfl, Nat.le_of_ble_eq_true rfl⟩ (fun  z65 w66 => ?_)
      refine r_ws [(h2, .inr (3, [.ref h3, .ref h10, .ref h8, .ref h11, .int x5, .int x6, .int x7])), (h8, .inr (7, [.ref h3, .ref h12, .ref h13, .int x9, .int x10, .int x11])), (h3, .inr (4, [.ref h9, .int x8])), (h4, .inl (gI g, 48, .inl f23)), (h6, .inl (gI g, 6, .inl f25)), (h7, .inl (gI g, 6, .inl f26)), (h9, .inl (gB g, 1500, .inl fn4)), (h1, .inr (2, [.ref h4, .int z21, .int z22, .ref h5, .ref h6, .ref h7])), (h5, .inl (gI g, 6, .inl f24)), (h0, .inr (1, [.ref h1, .ref h2, .ref h3, .int z65, .long z20, .long 9223372036854775807, .int x1, .int x2, .long y4, .long y5]))] rfl ?_
      have p67 : 0 ≤ (Int32.toInt z65) := w66.1
      have p68 : (Int32.toInt z65) ≤ 2 := w66.2.1
      have p69 : WNT (Int32.toInt r60) (Int32.toInt z54) (Int32.toInt z65) := w66.2.2.1
      have p70 : (((Int32.toInt r60) = 1 ∧ (Int32.toInt z65) = (Int32.toInt z54)) ∨ ((Int32.toInt r60) = 0 ∧ 1 ≤ (Int32.toInt z65))) := w66.2.2.2
      clear p70
      refine r_aload_n 89 0 C dX1_takePrivate_89 rfl ?_
      refine r_get 90 C dX1_takePrivate_90 (k := 1) 9 rfl rfl hiX1 (by decide) rfl (mg 3 rfl) (Or.inl rfl) rfl ?_
      refine r_aload_n 93 0 C dX1_takePrivate_93 rfl ?_
      refine r_get 94 C dX1_takePrivate_94 (k := 0) 9 rfl rfl hiX1 (by decide) rfl (mg 2 rfl) (Or.inl rfl) rfl ?_
      refine r_bipush 97 20 C dX1_takePrivate_97 (by decide) ?_
      refine r_callVi 99 C dX1_takePrivate_99 [.ref h2] [(h1, .inr (2, [.ref h4, .int z21, .int z22, .ref h5, .ref h6, .ref h7])), (h5, .inl (gI g, 6, .inl f24)), (h6, .inl (gI g, 6, .inl f25))] [(h2, .inr (3, [.ref h3, .ref h10, .ref h8, .ref h11, .int x5, .int x6, .int x7])), (h8, .inr (7, [.ref h3, .ref h12, .ref h13, .int x9, .int x10, .int x11])), (h3, .inr (4, [.ref h9, .int x8])), (h4, .inl (gI g, 48, .inl f23)), (h7, .inl (gI g, 6, .inl f26)), (h9, .inl (gB g, 1500, .inl fn4)), (h0, .inr (1, [.ref h1, .ref h2, .ref h3, .int z65, .long z20, .long 9223372036854775807, .int x1, .int x2, .long y4, .long y5]))] (fun sz => c95_X2_first l g h1 h5 h6 h4 z21 z22 h7 f24 f25 ⟨p33, p34⟩ ⟨p35, p36⟩ sz) gX1_takePrivate_X2_first rfl ⟨rfl, rfl⟩ 1 (by decide) ⟨Nat.le_of_ble_eq_true rfl, Nat.le_of_ble_eq_true rfl⟩ 7 rfl rfl [7, 8, 4] [0, 1, 2, 3, 5, 6, 9] rfl rfl (by decide) (by decide) (by decide) rfl rfl (Nat.le_of_ble_eq_true rfl) ⟨Nat.le_of_ble_eq_true rfl, Nat.le_of_ble_eq_true rfl⟩ (fun r71 _ w72 => ?_)
      refine r_ws [(h2, .inr (3, [.ref h3, .ref h10, .ref h8, .ref h11, .int x5, .int x6, .int x7])), (h8, .inr (7, [.ref h3, .ref h12, .ref h13, .int x9, .int x10, .int x11])), (h3, .inr (4, [.ref h9, .int x8])), (h4, .inl (gI g, 48, .inl f23)), (h7, .inl (gI g, 6, .inl f26)), (h9, .inl (gB g, 1500, .inl fn4)), (h0, .inr (1, [.ref h1, .ref h2, .ref h3, .int z65, .long z20, .long 9223372036854775807, .int x1, .int x2, .long y4, .long y5])), (h1, .inr (2, [.ref h4, .int z21, .int z22, .ref h5, .ref h6, .ref h7])), (h5, .inl (gI g, 6, .inl f24)), (h6, .inl (gI g, 6, .inl f25))] rfl ?_
      have p73 : FST (Int32.toInt r71) (Int32.toInt (f24 (Int32.toNatClampNeg 4))) (Int32.toInt (f25 (Int32.toNatClampNeg 4))) := w72
      have gr71 := fb_rng r71
      refine r_putN 102 C dX1_takePrivate_102 (k := 5) 0 rfl rfl hiX3 tyX3 tyX3_ok nmX3 (by decide) rfl (mg 11 rfl) rfl rfl rfl rfl rfl (Nat.le_of_ble_eq_true rfl) [(h2, .inr (3, [.ref h3, .ref h10, .ref h8, .ref h11, .int x5, .int r71, .int x7])), (h8, .inr (7, [.ref h3, .ref h12, .ref h13, .int x9, .int x10, .int x11])), (h3, .inr (4, [.ref h9, .int x8])), (h4, .inl (gI g, 48, .inl f23)), (h7, .inl (gI g, 6, .inl f26)), (h9, .inl (gB g, 1500, .inl fn4)), (h0, .inr (1, [.ref h1, .ref h2, .ref h3, .int z65, .long z20, .long 9223372036854775807, .int x1, .int x2, .long y4, .long y5])), (h1, .inr (2, [.ref h4, .int z21, .int z22, .ref h5, .ref h6, .ref h7])), (h5, .inl (gI g, 6, .inl f24)), (h6, .inl (gI g, 6, .inl f25))] rfl ?_
      refine r_aload_n 105 0 C dX1_takePrivate_105 rfl ?_
      refine r_get 106 C dX1_takePrivate_106 (k := 1) 6 rfl rfl hiX1 (by decide) rfl (mg 3 rfl) (Or.inl rfl) rfl ?_
      refine r_aload_n 109 0 C dX1_takePrivate_109 rfl ?_
      refine r_get 110 C dX1_takePrivate_110 (k := 0) 6 rfl rfl hiX1 (by decide) rfl (mg 2 rfl) (Or.inl rfl) rfl ?_
      refine r_bipush 113 21 C dX1_takePrivate_113 (by decide) ?_
      refine r_callVi 115 C dX1_takePrivate_115 [.ref h2] [(h1, .inr (2, [.ref h4, .int z21, .int z22, .ref h5, .ref h6, .ref h7])), (h5, .inl (gI g, 6, .inl f24)), (h6, .inl (gI g, 6, .inl f25))] [(h2, .inr (3, [.ref h3, .ref h10, .ref h8, .ref h11, .int x5, .int r71, .int x7])), (h8, .inr (7, [.ref h3, .ref h12, .ref h13, .int x9, .int x10, .int x11])), (h3, .inr (4, [.ref h9, .int x8])), (h4, .inl (gI g, 48, .inl f23)), (h7, .inl (gI g, 6, .inl f26)), (h9, .inl (gB g, 1500, .inl fn4)), (h0, .inr (1, [.ref h1, .ref h2, .ref h3, .int z65, .long z20, .long 9223372036854775807, .int x1, .int x2, .long y4, .long y5]))] (fun sz => c97_X2_first l g h1 h5 h6 h4 z21 z22 h7 f24 f25 ⟨p33, p34⟩ ⟨p35, p36⟩ sz) gX1_takePrivate_X2_first rfl ⟨rfl, rfl⟩ 1 (by decide) ⟨Nat.le_of_ble_eq_true rfl, Nat.le_of_ble_eq_true rfl⟩ 7 rfl rfl [7, 8, 9] [0, 1, 2, 3, 4, 5, 6] rfl rfl (by decide) (by decide) (by decide) rfl rfl (Nat.le_of_ble_eq_true rfl) ⟨Nat.le_of_ble_eq_true rfl, Nat.le_of_ble_eq_true rfl⟩ (fun r74 _ w75 => ?_)
      refine r_ws [(h2, .inr (3, [.ref h3, .ref h10, .ref h8, .ref h11, .int x5, .int r71, .int x7])), (h8, .inr (7, [.ref h3, .ref h12, .ref h13, .int x9, .int x10, .int x11])), (h3, .inr (4, [.ref h9, .int x8])), (h4, .inl (gI g, 48, .inl f23)), (h7, .inl (gI g, 6, .inl f26)), (h9, .inl (gB g, 1500, .inl fn4)), (h0, .inr (1, [.ref h1, .ref h2, .ref h3, .int z65, .long z20, .long 9223372036854775807, .int x1, .int x2, .long y4, .long y5])), (h1, .inr (2, [.ref h4, .int z21, .int z22, .ref h5, .ref h6, .ref h7])), (h5, .inl (gI g, 6, .inl f24)), (h6, .inl (gI g, 6, .inl f25))] rfl ?_
      have p76 : FST (Int32.toInt r74) (Int32.toInt (f24 (Int32.toNatClampNeg 5))) (Int32.toInt (f25 (Int32.toNatClampNeg 5))) := w75
      have gr74 := fb_rng r74
      refine r_putN 118 C dX1_takePrivate_118 (k := 6) 0 rfl rfl hiX3 tyX3 tyX3_ok nmX3 (by decide) rfl (mg 12 rfl) rfl rfl rfl rfl rfl (Nat.le_of_ble_eq_true rfl) [(h2, .inr (3, [.ref h3, .ref h10, .ref h8, .ref h11, .int x5, .int r71, .int r74])), (h8, .inr (7, [.ref h3, .ref h12, .ref h13, .int x9, .int x10, .int x11])), (h3, .inr (4, [.ref h9, .int x8])), (h4, .inl (gI g, 48, .inl f23)), (h7, .inl (gI g, 6, .inl f26)), (h9, .inl (gB g, 1500, .inl fn4)), (h0, .inr (1, [.ref h1, .ref h2, .ref h3, .int z65, .long z20, .long 9223372036854775807, .int x1, .int x2, .long y4, .long y5])), (h1, .inr (2, [.ref h4, .int z21, .int z22, .ref h5, .ref h6, .ref h7])), (h5, .inl (gI g, 6, .inl f24)), (h6, .inl (gI g, 6, .inl f25))] rfl ?_
      refine r_aload_n 121 0 C dX1_takePrivate_121 rfl ?_
      refine r_get 122 C dX1_takePrivate_122 (k := 3) 6 rfl rfl hiX1 (by decide) rfl (mg 4 rfl) (Or.inl rfl) rfl ?_
      refine r_if_ne 125 174 C dX1_takePrivate_125 (by decide) (fun c77 => ?_) (fun c77 => ?_)
      · skip
        have k78 : ¬ ((Int32.toInt z65) = 0) := fun h_9 => c77 ((fa_eq z65 0).mpr h_9)
        exact r_vret 174 Rt dX1_takePrivate_174 (z65, z20, x1, x2, y4, y5, z21, z22, r71, r74, f23, f24, f25, f26, x9, x10, x11) (show 0 ≤ (Int32.toInt z65) ∧ (Int32.toInt z65) ≤ 2 ∧ -8589934592 ≤ (Int64.toInt z20) ∧ (Int64.toInt z20) ≤ 8589934592 ∧ -257 ≤ (Int32.toInt x1) ∧ (Int32.toInt x1) ≤ 65535 ∧ -1 ≤ (Int32.toInt x2) ∧ (Int32.toInt x2) ≤ 255 ∧ -8589934592 ≤ (Int64.toInt y4) ∧ (Int64.toInt y4) ≤ 8589934592 ∧ -8589934592 ≤ (Int64.toInt y5) ∧ (Int64.toInt y5) ≤ 8589934592 ∧ 0 ≤ (Int32.toInt z21) ∧ (Int32.toInt z21) ≤ 48 ∧ 0 ≤ (Int32.toInt z22) ∧ (Int32.toInt z22) ≤ 1 ∧ SEQ (Int32.toInt x0) (Int32.toInt z65) (PRIV (GB fn4 (Int32.toInt x8)) (Int32.toInt x8) (Int64.toInt y0) (Int64.toInt y1)) (fun q => q = ((Int32.toInt x9), (Int32.toInt r71), (Int32.toInt r74))) from ⟨(show _ ∧ _ from ⟨p67, p68⟩).1, (show _ ∧ _ from ⟨p67, p68⟩).2, (show _ ∧ _ from ⟨p31, p32⟩).1, (show _ ∧ _ from ⟨p31, p32⟩).2, i_x1.1, i_x1.2, i_x2.1, i_x2.2, i_y4.1, i_y4.2, i_y5.1, i_y5.2, (show _ ∧ _ from ⟨p33, p34⟩).1, (show _ ∧ _ from ⟨p33, p34⟩).2, (show _ ∧ _ from ⟨p35, p36⟩).1, (show _ ∧ _ from ⟨p35, p36⟩).2, (by exact priv_end (by omega) p16 (by omega) (by omega) p37 p47 p58 p69 (by have h_1 := p42; unfold FTS at h_1; omega) (by have h_1 := p53; unfold FTS at h_1; omega) (by have h_1 := p64; unfold FTS at h_1; omega) (by have h_1 := p73; unfold FST at h_1; omega) (by have h_1 := p76; unfold FST at h_1; omega) (by first | exact Or.inl ⟨by omega, by omega⟩ | exact Or.inr (Or.inl ⟨by omega, (by omega), by omega, by omega⟩)))⟩) [6, 7, 0, 2, 3, 8, 9, 4, 1, 5] (by decide) rfl (Nat.le_of_ble_eq_true rfl) (Nat.le_of_ble_eq_true rfl)
      · skip
        have k79 : (Int32.toInt z65) = 0 := (fa_eq z65 0).mp c77
        refine r_aload_n 128 0 C dX1_takePrivate_128 rfl ?_
        refine r_get 129 C dX1_takePrivate_129 (k := 0) 6 rfl rfl hiX1 (by decide) rfl (mg 2 rfl) (Or.inl rfl) rfl ?_
        refine r_bipush 132 19 C dX1_takePrivate_132 (by decide) ?_
        refine r_callVi 134 C dX1_takePrivate_134 [] [(h1, .inr (2, [.ref h4, .int z21, .int z22, .ref h5, .ref h6, .ref h7])), (h5, .inl (gI g, 6, .inl f24))] [(h2, .inr (3, [.ref h3, .ref h10, .ref h8, .ref h11, .int x5, .int r71, .int r74])), (h8, .inr (7, [.ref h3, .ref h12, .ref h13, .int x9, .int x10, .int x11])), (h3, .inr (4, [.ref h9, .int x8])), (h4, .inl (gI g, 48, .inl f23)), (h7, .inl (gI g, 6, .inl f26)), (h9, .inl (gB g, 1500, .inl fn4)), (h0, .inr (1, [.ref h1, .ref h2, .ref h3, .int z65, .long z20, .long 9223372036854775807, .int x1, .int x2, .long y4, .long y5])), (h6, .inl (gI g, 6, .inl f25))] (fun sz => c98_X2_isTold l g h1 h5 h4 z21 z22 h6 h7 f24 ⟨p33, p34⟩ ⟨p35, p36⟩ sz) gX1_takePrivate_X2_isTold rfl ⟨rfl, rfl⟩ 1 (by decide) ⟨Nat.le_of_ble_eq_true rfl, Nat.le_of_ble_eq_true rfl⟩ 7 rfl rfl [7, 8] [0, 1, 2, 3, 4, 5, 6, 9] rfl rfl (by decide) (by decide) (by decide) rfl rfl (Nat.le_of_ble_eq_true rfl) ⟨Nat.le_of_ble_eq_true rfl, Nat.le_of_ble_eq_true rfl⟩ (fun r80 _ w81 => ?_)
        refine r_ws [(h2, .inr (3, [.ref h3, .ref h10, .ref h8, .ref h11, .int x5, .int r71, .int r74])), (h8, .inr (7, [.ref h3, .ref h12, .ref h13, .int x9, .int x10, .int x11])), (h3, .inr (4, [.ref h9, .int x8])), (h4, .inl (gI g, 48, .inl f23)), (h7, .inl (gI g, 6, .inl f26)), (h9, .inl (gB g, 1500, .inl fn4)), (h0, .inr (1, [.ref h1, .ref h2, .ref h3, .int z65, .long z20, .long 9223372036854775807, .int x1, .int x2, .long y4, .long y5])), (h6, .inl (gI g, 6, .inl f25)), (h1, .inr (2, [.ref h4, .int z21, .int z22, .ref h5, .ref h6, .ref h7])), (h5, .inl (gI g, 6, .inl f24))] rfl ?_
        have p82 : 0 ≤ (Int32.toInt r80) := w81.1
        have p83 : (Int32.toInt r80) ≤ 1 := w81.2.1
        have p84 : TOL (Int32.toInt r80) (Int32.toInt (f24 (Int32.toNatClampNeg 3))) := w81.2.2
        refine r_if_eq 137 174 C dX1_takePrivate_137 (by decide) (fun c85 => ?_) (fun c85 => ?_)
        · skip
          have k86 : (Int32.toInt r80) = 0 := (fa_eq r80 0).mp c85
          exact r_vret 174 Rt dX1_takePrivate_174 (z65, z20, x1, x2, y4, y5, z21, z22, r71, r74, f23, f24, f25, f26, x9, x10, x11) (show 0 ≤ (Int32.toInt z65) ∧ (Int32.toInt z65) ≤ 2 ∧ -8589934592 ≤ (Int64.toInt z20) ∧ (Int64.toInt z20) ≤ 8589934592 ∧ -257 ≤ (Int32.toInt x1) ∧ (Int32.toInt x1) ≤ 65535 ∧ -1 ≤ (Int32.toInt x2) ∧ (Int32.toInt x2) ≤ 255 ∧ -8589934592 ≤ (Int64.toInt y4) ∧ (Int64.toInt y4) ≤ 8589934592 ∧ -8589934592 ≤ (Int64.toInt y5) ∧ (Int64.toInt y5) ≤ 8589934592 ∧ 0 ≤ (Int32.toInt z21) ∧ (Int32.toInt z21) ≤ 48 ∧ 0 ≤ (Int32.toInt z22) ∧ (Int32.toInt z22) ≤ 1 ∧ SEQ (Int32.toInt x0) (Int32.toInt z65) (PRIV (GB fn4 (Int32.toInt x8)) (Int32.toInt x8) (Int64.toInt y0) (Int64.toInt y1)) (fun q => q = ((Int32.toInt x9), (Int32.toInt r71), (Int32.toInt r74))) from ⟨(show _ ∧ _ from ⟨p67, p68⟩).1, (show _ ∧ _ from ⟨p67, p68⟩).2, (show _ ∧ _ from ⟨p31, p32⟩).1, (show _ ∧ _ from ⟨p31, p32⟩).2, i_x1.1, i_x1.2, i_x2.1, i_x2.2, i_y4.1, i_y4.2, i_y5.1, i_y5.2, (show _ ∧ _ from ⟨p33, p34⟩).1, (show _ ∧ _ from ⟨p33, p34⟩).2, (show _ ∧ _ from ⟨p35, p36⟩).1, (show _ ∧ _ from ⟨p35, p36⟩).2, (by exact priv_end (by omega) p16 (by omega) (by omega) p37 p47 p58 p69 (by have h_1 := p42; unfold FTS at h_1; omega) (by have h_1 := p53; unfold FTS at h_1; omega) (by have h_1 := p64; unfold FTS at h_1; omega) (by have h_1 := p73; unfold FST at h_1; omega) (by have h_1 := p76; unfold FST at h_1; omega) (by first | exact Or.inl ⟨by omega, by omega⟩ | exact Or.inr (Or.inl ⟨by omega, (by have h_1 := p84; unfold TOL at h_1; omega), by omega, by omega⟩)))⟩) [6, 8, 0, 2, 3, 9, 7, 4, 1, 5] (by decide) rfl (Nat.le_of_ble_eq_true rfl) (Nat.le_of_ble_eq_true rfl)
        · skip
          have k87 : ¬ ((Int32.toInt r80) = 0) := fun h_9 => c85 ((fa_eq r80 0).mpr h_9)
          refine r_aload_n 140 0 C dX1_takePrivate_140 rfl ?_
          refine r_lload_n 141 1 C dX1_takePrivate_141 rfl ?_
          refine r_aload_n 142 0 C dX1_takePrivate_142 rfl ?_
          refine r_get 143 C dX1_takePrivate_143 (k := 0) 6 rfl rfl hiX1 (by decide) rfl (mg 2 rfl) (Or.inl rfl) rfl ?_
          refine r_bipush 146 19 C dX1_takePrivate_146 (by decide) ?_
          refine r_callVi 148 C dX1_takePrivate_148 [.long y0, .ref h0] [(h1, .inr (2, [.ref h4, .int z21, .int z22, .ref h5, .ref h6, .ref h7])), (h5, .inl (gI g, 6, .inl f24)), (h6, .inl (gI g, 6, .inl f25))] [(h2, .inr (3, [.ref h3, .ref h10, .ref h8, .ref h11, .int x5, .int r71, .int r74])), (h8, .inr (7, [.ref h3, .ref h12, .ref h13, .int x9, .int x10, .int x11])), (h3, .inr (4, [.ref h9, .int x8])), (h4, .inl (gI g, 48, .inl f23)), (h7, .inl (gI g, 6, .inl f26)), (h9, .inl (gB g, 1500, .inl fn4)), (h0, .inr (1, [.ref h1, .ref h2, .ref h3, .int z65, .long z20, .long 9223372036854775807, .int x1, .int x2, .long y4, .long y5]))] (fun sz => c99_X2_first l g h1 h5 h6 h4 z21 z22 h7 f24 f25 ⟨p33, p34⟩ ⟨p35, p36⟩ sz) gX1_takePrivate_X2_first rfl ⟨rfl, rfl⟩ 1 (by decide) ⟨Nat.le_of_ble_eq_true rfl, Nat.le_of_ble_eq_true rfl⟩ 8 rfl rfl [8, 9, 7] [0, 1, 2, 3, 4, 5, 6] rfl rfl (by decide) (by decide) (by decide) rfl rfl (Nat.le_of_ble_eq_true rfl) ⟨Nat.le_of_ble_eq_true rfl, Nat.le_of_ble_eq_true rfl⟩ (fun r88 _ w89 => ?_)
          refine r_ws [(h2, .inr (3, [.ref h3, .ref h10, .ref h8, .ref h11, .int x5, .int r71, .int r74])), (h8, .inr (7, [.ref h3, .ref h12, .ref h13, .int x9, .int x10, .int x11])), (h3, .inr (4, [.ref h9, .int x8])), (h4, .inl (gI g, 48, .inl f23)), (h7, .inl (gI g, 6, .inl f26)), (h9, .inl (gB g, 1500, .inl fn4)), (h0, .inr (1, [.ref h1, .ref h2, .ref h3, .int z65, .long z20, .long 9223372036854775807, .int x1, .int x2, .long y4, .long y5])), (h1, .inr (2, [.ref h4, .int z21, .int z22, .ref h5, .ref h6, .ref h7])), (h5, .inl (gI g, 6, .inl f24)), (h6, .inl (gI g, 6, .inl f25))] rfl ?_
          have p90 : FST (Int32.toInt r88) (Int32.toInt (f24 (Int32.toNatClampNeg 3))) (Int32.toInt (f25 (Int32.toNatClampNeg 3))) := w89
          have gr88 := fb_rng r88
          obtain ⟨z91, ez91⟩ : ∃ z_9, Int32.toInt64 r88 = z_9 := ⟨_, rfl⟩
          have tz91 : (Int64.toInt z91) = (Int32.toInt r88) := by rw [← ez91]; exact Int32.toInt_toInt64 _
          refine r_i2l 151 z91 C dX1_takePrivate_151 ez91 ?_
          obtain ⟨z92, ez92⟩ : ∃ z_9, y0 + z91 = z_9 := ⟨_, rfl⟩
          have tz92 : (Int64.toInt z92) = (Int64.toInt y0) + (Int64.toInt z91) := by rw [← ez92]; exact fb_addL (by show -9223372036854775808 ≤ (Int64.toInt y0) + (Int64.toInt z91); omega) (by show (Int64.toInt y0) + (Int64.toInt z91) < 9223372036854775808; omega)
          refine r_ladd 152 z92 C dX1_takePrivate_152 ez92 ?_
          refine r_put 153 C dX1_takePrivate_153 (k := 4) 6 rfl rfl hiX1 tyX1 tyX1_ok nmX1 (by decide) rfl (mg 5 rfl) (Or.inl rfl) rfl rfl rfl rfl (Nat.le_of_ble_eq_true rfl) [(h2, .inr (3, [.ref h3, .ref h10, .ref h8, .ref h11, .int x5, .int r71, .int r74])), (h8, .inr (7, [.ref h3, .ref h12, .ref h13, .int x9, .int x10, .int x11])), (h3, .inr (4, [.ref h9, .int x8])), (h4, .inl (gI g, 48, .inl f23)), (h7, .inl (gI g, 6, .inl f26)), (h9, .inl (gB g, 1500, .inl fn4)), (h0, .inr (1, [.ref h1, .ref h2, .ref h3, .int z65, .long z92, .long 9223372036854775807, .int x1, .int x2, .long y4, .long y5])), (h1, .inr (2, [.ref h4, .int z21, .int z22, .ref h5, .ref h6, .ref h7])), (h5, .inl (gI g, 6, .inl f24)), (h6, .inl (gI g, 6, .inl f25))] rfl ?_
          refine r_aload_n 156 0 C dX1_takePrivate_156 rfl ?_
          refine r_iconst 157 0 C dX1_takePrivate_157 (by decide) ?_
          refine r_ldc 158 65535 C dX1_takePrivate_158 (mg 6 rfl) ?_
          refine r_callVv 160 C dX1_takePrivate_160 [] [(h0, .inr (1, [.ref h1, .ref h2, .ref h3, .int z65, .long z92, .long 9223372036854775807, .int x1, .int x2, .long y4, .long y5])), (h3, .inr (4, [.ref h9, .int x8])), (h9, .inl (gB g, 1500, .inl fn4))] [(h2, .inr (3, [.ref h3, .ref h10, .ref h8, .ref h11, .int x5, .int r71, .int r74])), (h8, .inr (7, [.ref h3, .ref h12, .ref h13, .int x9, .int x10, .int x11])), (h4, .inl (gI g, 48, .inl f23)), (h7, .inl (gI g, 6, .inl f26)), (h1, .inr (2, [.ref h4, .int z21, .int z22, .ref h5, .ref h6, .ref h7])), (h5, .inl (gI g, 6, .inl f24)), (h6, .inl (gI g, 6, .inl f25))] (fun sz => c57_X1_takeIndex l g h0 h3 h9 0 65535 h1 h2 z65 z92 9223372036854775807 x1 x2 y4 y5 x8 fn4 ⟨p67, p68⟩ ⟨by omega, by omega⟩ i_x1 i_x2 i_y4 i_y5 i_x8 (by show ((Int32.toInt x8) ≤ (9223372036854775807 : Int)); first | assumption | omega) sz) gX1_takePrivate_X1_takeIndex rfl ⟨rfl, rfl⟩ 2 (by decide) ⟨Nat.le_of_ble_eq_true rfl, Nat.le_of_ble_eq_true rfl⟩ 6 rfl rfl [6, 2, 5] [0, 1, 3, 4, 7, 8, 9] rfl rfl (by decide) (by decide) (by decide) rfl rfl (Nat.le_of_ble_eq_true rfl) ⟨Nat.le_of_ble_eq_true rfl, Nat.le_of_ble_eq_true rfl⟩ (fun  u100 w99 => ?_)
          obtain ⟨z93, z94, z95, z96, z97, z98⟩ := u100
          refine r_ws [(h2, .inr (3, [.ref h3, .ref h10, .ref h8, .ref h11, .int x5, .int r71, .int r74])), (h8, .inr (7, [.ref h3, .ref h12, .ref h13, .int x9, .int x10, .int x11])), (h4, .inl (gI g, 48, .inl f23)), (h7, .inl (gI g, 6, .inl f26)), (h1, .inr (2, [.ref h4, .int z21, .int z22, .ref h5, .ref h6, .ref h7])), (h5, .inl (gI g, 6, .inl f24)), (h6, .inl (gI g, 6, .inl f25)), (h0, .inr (1, [.ref h1, .ref h2, .ref h3, .int z93, .long z94, .long 9223372036854775807, .int z95, .int z96, .long z97, .long z98])), (h3, .inr (4, [.ref h9, .int x8])), (h9, .inl (gB g, 1500, .inl fn4))] rfl ?_
          have p101 : 0 ≤ (Int32.toInt z93) := w99.1
          have p102 : (Int32.toInt z93) ≤ 2 := w99.2.1
          have p103 : -8589934592 ≤ (Int64.toInt z94) := w99.2.2.1
          have p104 : (Int64.toInt z94) ≤ 8589934592 := w99.2.2.2.1
          have p105 : -257 ≤ (Int32.toInt z95) := w99.2.2.2.2.1
          have p106 : (Int32.toInt z95) ≤ 65535 := w99.2.2.2.2.2.1
          have p107 : -1 ≤ (Int32.toInt z96) := w99.2.2.2.2.2.2.1
          have p108 : (Int32.toInt z96) ≤ 255 := w99.2.2.2.2.2.2.2.1
          have p109 : -8589934592 ≤ (Int64.toInt z97) := w99.2.2.2.2.2.2.2.2.1
          have p110 : (Int64.toInt z97) ≤ 8589934592 := w99.2.2.2.2.2.2.2.2.2.1
          have p111 : -8589934592 ≤ (Int64.toInt z98) := w99.2.2.2.2.2.2.2.2.2.2.1
          have p112 : (Int64.toInt z98) ≤ 8589934592 := w99.2.2.2.2.2.2.2.2.2.2.2.1
          have p113 : SEQ (Int32.toInt z65) (Int32.toInt z93) (IDX (GB fn4 (Int32.toInt x8)) (Int32.toInt x8) (Int64.toInt z92) (0 : Int) (65535 : Int)) (IXR (Int32.toInt z95) (Int64.toInt z94) (Int32.toInt z96) (Int64.toInt z97) (Int64.toInt z98) (Int64.toInt z92)) := w99.2.2.2.2.2.2.2.2.2.2.2.2.1
          have p114 : IXN (Int32.toInt z65) (Int32.toInt z93) (0 : Int) (65535 : Int) (Int32.toInt z95) (Int64.toInt z98) := w99.2.2.2.2.2.2.2.2.2.2.2.2.2
          refine r_aload_n 163 0 C dX1_takePrivate_163 rfl ?_
          refine r_aload_n 164 0 C dX1_takePrivate_164 rfl ?_
          refine r_get 165 C dX1_takePrivate_165 (k := 1) 7 rfl rfl hiX1 (by decide) rfl (mg 3 rfl) (Or.inl rfl) rfl ?_
          refine r_getN 168 C dX1_takePrivate_168 (k := 2) 0 rfl rfl hiX3 (by decide) rfl (mg 13 rfl) rfl rfl ?_
          refine r_callVv 171 C dX1_takePrivate_171 [] [(h0, .inr (1, [.ref h1, .ref h2, .ref h3, .int z93, .long z94, .long 9223372036854775807, .int z95, .int z96, .long z97, .long z98])), (h8, .inr (7, [.ref h3, .ref h12, .ref h13, .int x9, .int x10, .int x11]))] [(h2, .inr (3, [.ref h3, .ref h10, .ref h8, .ref h11, .int x5, .int r71, .int r74])), (h4, .inl (gI g, 48, .inl f23)), (h7, .inl (gI g, 6, .inl f26)), (h1, .inr (2, [.ref h4, .int z21, .int z22, .ref h5, .ref h6, .ref h7])), (h5, .inl (gI g, 6, .inl f24)), (h6, .inl (gI g, 6, .inl f25)), (h3, .inr (4, [.ref h9, .int x8])), (h9, .inl (gB g, 1500, .inl fn4))] (fun sz => c59_X1_shelve l g h0 h8 h1 h2 h3 z93 z94 9223372036854775807 z95 z96 z97 z98 h12 h13 x9 x10 x11 ⟨p101, p102⟩ ⟨p103, p104⟩ ⟨p105, p106⟩ ⟨p107, p108⟩ ⟨p109, p110⟩ ⟨p111, p112⟩ sz) gX1_takePrivate_X1_shelve rfl ⟨rfl, rfl⟩ 1 (by decide) ⟨Nat.le_of_ble_eq_true rfl, Nat.le_of_ble_eq_true rfl⟩ 7 rfl rfl [7, 1] [0, 2, 3, 4, 5, 6, 8, 9] rfl rfl (by decide) (by decide) (by decide) rfl rfl (Nat.le_of_ble_eq_true rfl) ⟨Nat.le_of_ble_eq_true rfl, Nat.le_of_ble_eq_true rfl⟩ (fun  u119 w118 => ?_)
          obtain ⟨z115, z116, z117⟩ := u119
          refine r_ws [(h2, .inr (3, [.ref h3, .ref h10, .ref h8, .ref h11, .int x5, .int r71, .int r74])), (h4, .inl (gI g, 48, .inl f23)), (h7, .inl (gI g, 6, .inl f26)), (h1, .inr (2, [.ref h4, .int z21, .int z22, .ref h5, .ref h6, .ref h7])), (h5, .inl (gI g, 6, .inl f24)), (h6, .inl (gI g, 6, .inl f25)), (h3, .inr (4, [.ref h9, .int x8])), (h9, .inl (gB g, 1500, .inl fn4)), (h0, .inr (1, [.ref h1, .ref h2, .ref h3, .int z93, .long z94, .long 9223372036854775807, .int z95, .int z96, .long z97, .long z98])), (h8, .inr (7, [.ref h3, .ref h12, .ref h13, .int z115, .int z116, .int z117]))] rfl ?_
          have gz115 := fb_rng z115
          have gz116 := fb_rng z116
          have gz117 := fb_rng z117
          have p120 : SHV (Int32.toInt z93) (Int32.toInt z95) (Int32.toInt x9) (Int32.toInt z115) := w118
          exact r_vret 174 Rt dX1_takePrivate_174 (z93, z94, z95, z96, z97, z98, z21, z22, r71, r74, f23, f24, f25, f26, z115, z116, z117) (show 0 ≤ (Int32.toInt z93) ∧ (Int32.toInt z93) ≤ 2 ∧ -8589934592 ≤ (Int64.toInt z94) ∧ (Int64.toInt z94) ≤ 8589934592 ∧ -257 ≤ (Int32.toInt z95) ∧ (Int32.toInt z95) ≤ 65535 ∧ -1 ≤ (Int32.toInt z96) ∧ (Int32.toInt z96) ≤ 255 ∧ -8589934592 ≤ (Int64.toInt z97) ∧ (Int64.toInt z97) ≤ 8589934592 ∧ -8589934592 ≤ (Int64.toInt z98) ∧ (Int64.toInt z98) ≤ 8589934592 ∧ 0 ≤ (Int32.toInt z21) ∧ (Int32.toInt z21) ≤ 48 ∧ 0 ≤ (Int32.toInt z22) ∧ (Int32.toInt z22) ≤ 1 ∧ SEQ (Int32.toInt x0) (Int32.toInt z93) (PRIV (GB fn4 (Int32.toInt x8)) (Int32.toInt x8) (Int64.toInt y0) (Int64.toInt y1)) (fun q => q = ((Int32.toInt z115), (Int32.toInt r71), (Int32.toInt r74))) from ⟨(show _ ∧ _ from ⟨p101, p102⟩).1, (show _ ∧ _ from ⟨p101, p102⟩).2, (show _ ∧ _ from ⟨p103, p104⟩).1, (show _ ∧ _ from ⟨p103, p104⟩).2, (show _ ∧ _ from ⟨p105, p106⟩).1, (show _ ∧ _ from ⟨p105, p106⟩).2, (show _ ∧ _ from ⟨p107, p108⟩).1, (show _ ∧ _ from ⟨p107, p108⟩).2, (show _ ∧ _ from ⟨p109, p110⟩).1, (show _ ∧ _ from ⟨p109, p110⟩).2, (show _ ∧ _ from ⟨p111, p112⟩).1, (show _ ∧ _ from ⟨p111, p112⟩).2, (show _ ∧ _ from ⟨p33, p34⟩).1, (show _ ∧ _ from ⟨p33, p34⟩).2, (show _ ∧ _ from ⟨p35, p36⟩).1, (show _ ∧ _ from ⟨p35, p36⟩).2, (by exact priv_end (by omega) p16 (by omega) (by omega) p37 p47 p58 p69 (by have h_1 := p42; unfold FTS at h_1; omega) (by have h_1 := p53; unfold FTS at h_1; omega) (by have h_1 := p64; unfold FTS at h_1; omega) (by have h_1 := p73; unfold FST at h_1; omega) (by have h_1 := p76; unfold FST at h_1; omega) (Or.inr (Or.inr ⟨(by have h_1 := p84; unfold TOL at h_1; omega), seq_of (ixr_len p113 (fun h_9 => (by have h_1 := p114; unfold IXN at h_1; have h_2 := p120; unfold SHV at h_2; omega))) (idx_p (by have h_1 := p84; unfold TOL at h_1; have h_2 := p90; unfold FST at h_2; omega))⟩)))⟩) [8, 3, 0, 6, 1, 4, 5, 2, 9, 7] (by decide) rfl (Nat.le_of_ble_eq_true rfl) (Nat.le_of_ble_eq_true rfl)
    · skip
      have k121 : ¬ ((Int32.toInt z9) < 0) := fun h_9 => c10 ((fa_lt z9 0).mpr h_9)
      refine r_iconst 31 1 C dX1_takePrivate_31 (by decide) ?_
      refine r_goto 32 36 C dX1_takePrivate_32 (by decide) ?_
      refine r_callVv 36 C dX1_takePrivate_36 [] [(h0, .inr (1, [.ref h1, .ref h2, .ref h3, .int z4, .long y2, .long y3, .int x1, .int x2, .long y4, .long y5]))] [(h1, .inr (2, [.ref h4, .int x3, .int x4, .ref h5, .ref h6, .ref h7])), (h2, .inr (3, [.ref h3, .ref h10, .ref h8, .ref h11, .int x5, .int x6, .int x7])), (h3, .inr (4, [.ref h9, .int x8])), (h4, .inl (gI g, 48, .inl fn0)), (h5, .inl (gI g, 6, .inl fn1)), (h6, .inl (gI g, 6, .inl fn2)), (h7, .inl (gI g, 6, .inl fn3)), (h8, .inr (7, [.ref h3, .ref h12, .ref h13, .int x9, .int x10, .int x11])), (h9, .inl (gB g, 1500, .inl fn4))] (fun sz => c53_X1_want l g h0 1 h1 h2 h3 z4 y2 y3 x1 x2 y4 y5 (by decide) ⟨p6, p7⟩ i_y2 i_x1 i_x2 i_y4 i_y5 sz) gX1_takePrivate_X1_want rfl ⟨rfl, rfl⟩ 1 (by decide) ⟨Nat.le_of_ble_eq_true rfl, Nat.le_of_ble_eq_true rfl⟩ 9 rfl rfl [9] [0, 1, 2, 3, 4, 5, 6, 7, 8] rfl rfl (by decide) (by decide) (by decide) rfl rfl (Nat.le_of_ble_eq_true rfl) ⟨Nat.le_of_ble_eq_true rfl, Nat.le_of_ble_eq_true rfl⟩ (fun  z122 w123 => ?_)
      refine r_ws [(h1, .inr (2, [.ref h4, .int x3, .int x4, .ref h5, .ref h6, .ref h7])), (h2, .inr (3, [.ref h3, .ref h10, .ref h8, .ref h11, .int x5, .int x6, .int x7])), (h3, .inr (4, [.ref h9, .int x8])), (h4, .inl (gI g, 48, .inl fn0)), (h5, .inl (gI g, 6, .inl fn1)), (h6, .inl (gI g, 6, .inl fn2)), (h7, .inl (gI g, 6, .inl fn3)), (h8, .inr (7, [.ref h3, .ref h12, .ref h13, .int x9, .int x10, .int x11])), (h9, .inl (gB g, 1500, .inl fn4)), (h0, .inr (1, [.ref h1, .ref h2, .ref h3, .int z122, .long y2, .long y3, .int x1, .int x2, .long y4, .long y5]))] rfl ?_
      have p124 : 0 ≤ (Int32.toInt z122) := w123.1
      have p125 : (Int32.toInt z122) ≤ 2 := w123.2.1
      have p126 : WNT (1 : Int) (Int32.toInt z4) (Int32.toInt z122) := w123.2.2.1
      have p127 : (((1 : Int) = 1 ∧ (Int32.toInt z122) = (Int32.toInt z4)) ∨ ((1 : Int) = 0 ∧ 1 ≤ (Int32.toInt z122))) := w123.2.2.2
      clear p127
      refine r_aload_n 39 0 C dX1_takePrivate_39 rfl ?_
      refine r_lload_n 40 1 C dX1_takePrivate_40 rfl ?_
      refine r_lload_n 41 1 C dX1_takePrivate_41 rfl ?_
      refine r_lload_n 42 2 C dX1_takePrivate_42 rfl ?_
      obtain ⟨z128, ez128⟩ : ∃ z_9, y0 + y1 = z_9 := ⟨_, rfl⟩
      have tz128 : (Int64.toInt z128) = (Int64.toInt y0) + (Int64.toInt y1) := by rw [← ez128]; exact fb_addLv (a := (-2147483648)) (b := 2147483647) (c := (-2147483648)) (d := 2147483647) i_y0 i_y1 (by decide) (by decide)
      refine r_ladd 43 z128 C dX1_takePrivate_43 ez128 ?_
      refine r_callVv 44 C dX1_takePrivate_44 [] [(h0, .inr (1, [.ref h1, .ref h2, .ref h3, .int z122, .long y2, .long y3, .int x1, .int x2, .long y4, .long y5])), (h1, .inr (2, [.ref h4, .int x3, .int x4, .ref h5, .ref h6, .ref h7])), (h3, .inr (4, [.ref h9, .int x8])), (h4, .inl (gI g, 48, .inl fn0)), (h5, .inl (gI g, 6, .inl fn1)), (h6, .inl (gI g, 6, .inl fn2)), (h7, .inl (gI g, 6, .inl fn3)), (h9, .inl (gB g, 1500, .inl fn4))] [(h2, .inr (3, [.ref h3, .ref h10, .ref h8, .ref h11, .int x5, .int x6, .int x7])), (h8, .inr (7, [.ref h3, .ref h12, .ref h13, .int x9, .int x10, .int x11]))] (fun sz => c73_X1_takeDict l g h0 h1 h3 h4 h5 h6 h7 h9 y0 z128 h2 z122 y2 y3 x1 x2 y4 y5 x3 x4 x8 fn0 fn1 fn2 fn3 fn4 (iv_wide (c := (-8589934592)) (d := 8589934592) i_y0 (by decide) (by decide)) ⟨p124, p125⟩ i_y2 i_x1 i_x2 i_y4 i_y5 i_x3 i_x4 i_x8 (by show (¬ ((Int32.toInt z122) = 0) ∨ 0 ≤ (Int64.toInt y0)); first | assumption | omega) sz) gX1_takePrivate_X1_takeDict rfl ⟨rfl, rfl⟩ 2 (by decide) ⟨Nat.le_of_ble_eq_true rfl, Nat.le_of_ble_eq_true rfl⟩ 9 rfl rfl [9, 0, 2, 3, 4, 5, 6, 8] [1, 7] rfl rfl (by decide) (by decide) (by decide) rfl rfl (Nat.le_of_ble_eq_true rfl) ⟨Nat.le_of_ble_eq_true rfl, Nat.le_of_ble_eq_true rfl⟩ (fun  u138 w137 => ?_)
      obtain ⟨z129, z130, z131, z132, f133, f134, f135, f136⟩ := u138
      refine r_ws [(h2, .inr (3, [.ref h3, .ref h10, .ref h8, .ref h11, .int x5, .int x6, .int x7])), (h8, .inr (7, [.ref h3, .ref h12, .ref h13, .int x9, .int x10, .int x11])), (h0, .inr (1, [.ref h1, .ref h2, .ref h3, .int z129, .long z130, .long 9223372036854775807, .int x1, .int x2, .long y4, .long y5])), (h1, .inr (2, [.ref h4, .int z131, .int z132, .ref h5, .ref h6, .ref h7])), (h3, .inr (4, [.ref h9, .int x8])), (h4, .inl (gI g, 48, .inl f133)), (h5, .inl (gI g, 6, .inl f134)), (h6, .inl (gI g, 6, .inl f135)), (h7, .inl (gI g, 6, .inl f136)), (h9, .inl (gB g, 1500, .inl fn4))] rfl ?_
      have p139 : 0 ≤ (Int32.toInt z129) := w137.1
      have p140 : (Int32.toInt z129) ≤ 2 := w137.2.1
      have p141 : -8589934592 ≤ (Int64.toInt z130) := w137.2.2.1
      have p142 : (Int64.toInt z130) ≤ 8589934592 := w137.2.2.2.1
      have p143 : 0 ≤ (Int32.toInt z131) := w137.2.2.2.2.1
      have p144 : (Int32.toInt z131) ≤ 48 := w137.2.2.2.2.2.1
      have p145 : 0 ≤ (Int32.toInt z132) := w137.2.2.2.2.2.2.1
      have p146 : (Int32.toInt z132) ≤ 1 := w137.2.2.2.2.2.2.2.1
      have p147 : SEQ (Int32.toInt z122) (Int32.toInt z129) (DICB (GB fn4 (Int32.toInt x8)) (Int32.toInt x8) (Int64.toInt y0) (Int64.toInt z128)) (fun S => S = (SC f134 f135 f136)) := w137.2.2.2.2.2.2.2.2
      refine r_aload_n 47 0 C dX1_takePrivate_47 rfl ?_
      refine r_aload_n 48 0 C dX1_takePrivate_48 rfl ?_
      refine r_get 49 C dX1_takePrivate_49 (k := 0) 2 rfl rfl hiX1 (by decide) rfl (mg 2 rfl) (Or.inl rfl) rfl ?_
      refine r_bipush 52 19 C dX1_takePrivate_52 (by decide) ?_
      refine r_iconst 54 1 C dX1_takePrivate_54 (by decide) ?_
      refine r_callVi 55 C dX1_takePrivate_55 [.ref h0] [(h1, .inr (2, [.ref h4, .int z131, .int z132, .ref h5, .ref h6, .ref h7])), (h5, .inl (gI g, 6, .inl f134))] [(h2, .inr (3, [.ref h3, .ref h10, .ref h8, .ref h11, .int x5, .int x6, .int x7])), (h8, .inr (7, [.ref h3, .ref h12, .ref h13, .int x9, .int x10, .int x11])), (h0, .inr (1, [.ref h1, .ref h2, .ref h3, .int z129, .long z130, .long 9223372036854775807, .int x1, .int x2, .long y4, .long y5])), (h3, .inr (4, [.ref h9, .int x8])), (h4, .inl (gI g, 48, .inl f133)), (h6, .inl (gI g, 6, .inl f135)), (h7, .inl (gI g, 6, .inl f136)), (h9, .inl (gB g, 1500, .inl fn4))] (fun sz => c89_X2_fits l g h1 h5 1 h4 z131 z132 h6 h7 f134 ⟨p143, p144⟩ ⟨p145, p146⟩ sz) gX1_takePrivate_X2_fits rfl ⟨rfl, rfl⟩ 2 (by decide) ⟨Nat.le_of_ble_eq_true rfl, Nat.le_of_ble_eq_true rfl⟩ 3 rfl rfl [3, 6] [0, 1, 2, 4, 5, 7, 8, 9] rfl rfl (by decide) (by decide) (by decide) rfl rfl (Nat.le_of_ble_eq_true rfl) ⟨Nat.le_of_ble_eq_true rfl, Nat.le_of_ble_eq_true rfl⟩ (fun r148 _ w149 => ?_)
      refine r_ws [(h2, .inr (3, [.ref h3, .ref h10, .ref h8, .ref h11, .int x5, .int x6, .int x7])), (h8, .inr (7, [.ref h3, .ref h12, .ref h13, .int x9, .int x10, .int x11])), (h0, .inr (1, [.ref h1, .ref h2, .ref h3, .int z129, .long z130, .long 9223372036854775807, .int x1, .int x2, .long y4, .long y5])), (h3, .inr (4, [.ref h9, .int x8])), (h4, .inl (gI g, 48, .inl f133)), (h6, .inl (gI g, 6, .inl f135)), (h7, .inl (gI g, 6, .inl f136)), (h9, .inl (gB g, 1500, .inl fn4)), (h1, .inr (2, [.ref h4, .int z131, .int z132, .ref h5, .ref h6, .ref h7])), (h5, .inl (gI g, 6, .inl f134))] rfl ?_
      have p150 : 0 ≤ (Int32.toInt r148) := w149.1
      have p151 : (Int32.toInt r148) ≤ 1 := w149.2.1
      have p152 : FTS (Int32.toInt r148) (Int32.toInt (f134 (Int32.toNatClampNeg 3))) (1 : Int) := w149.2.2
      refine r_callVv 58 C dX1_takePrivate_58 [] [(h0, .inr (1, [.ref h1, .ref h2, .ref h3, .int z129, .long z130, .long 9223372036854775807, .int x1, .int x2, .long y4, .long y5]))] [(h2, .inr (3, [.ref h3, .ref h10, .ref h8, .ref h11, .int x5, .int x6, .int x7])), (h8, .inr (7, [.ref h3, .ref h12, .ref h13, .int x9, .int x10, .int x11])), (h3, .inr (4, [.ref h9, .int x8])), (h4, .inl (gI g, 48, .inl f133)), (h6, .inl (gI g, 6, .inl f135)), (h7, .inl (gI g, 6, .inl f136)), (h9, .inl (gB g, 1500, .inl fn4)), (h1, .inr (2, [.ref h4, .int z131, .int z132, .ref h5, .ref h6, .ref h7])), (h5, .inl (gI g, 6, .inl f134))] (fun sz => c53_X1_want l g h0 r148 h1 h2 h3 z129 z130 9223372036854775807 x1 x2 y4 y5 ⟨p150, p151⟩ ⟨p139, p140⟩ ⟨p141, p142⟩ i_x1 i_x2 i_y4 i_y5 sz) gX1_takePrivate_X1_want rfl ⟨rfl, rfl⟩ 1 (by decide) ⟨Nat.le_of_ble_eq_true rfl, Nat.le_of_ble_eq_true rfl⟩ 2 rfl rfl [2] [0, 1, 3, 4, 5, 6, 7, 8, 9] rfl rfl (by decide) (by decide) (by decide) rfl rfl (Nat.le_of_ble_eq_true rfl) ⟨Nat.le_of_ble_eq_true rfl, Nat.le_of_ble_eq_true rfl⟩ (fun  z153 w154 => ?_)
      refine r_ws [(h2, .inr (3, [.ref h3, .ref h10, .ref h8, .ref h11, .int x5, .int x6, .int x7])), (h8, .inr (7, [.ref h3, .ref h12, .ref h13, .int x9, .int x10, .int x11])), (h3, .inr (4, [.ref h9, .int x8])), (h4, .inl (gI g, 48, .inl f133)), (h6, .inl (gI g, 6, .inl f135)), (h7, .inl (gI g, 6, .inl f136)), (h9, .inl (gB g, 1500, .inl fn4)), (h1, .inr (2, [.ref h4, .int z131, .int z132, .ref h5, .ref h6, .ref h7])), (h5, .inl (gI g, 6, .inl f134)), (h0, .inr (1, [.ref h1, .ref h2, .ref h3, .int z153, .long z130, .long 9223372036854775807, .int x1, .int x2, .long y4, .long y5]))] rfl ?_
      have p155 : 0 ≤ (Int32.toInt z153) := w154.1
      have p156 : (Int32.toInt z153) ≤ 2 := w154.2.1
      have p157 : WNT (Int32.toInt r148) (Int32.toInt z129) (Int32.toInt z153) := w154.2.2.1
      have p158 : (((Int32.toInt r148) = 1 ∧ (Int32.toInt z153) = (Int32.toInt z129)) ∨ ((Int32.toInt r148) = 0 ∧ 1 ≤ (Int32.toInt z153))) := w154.2.2.2
      clear p158
      refine r_aload_n 61 0 C dX1_takePrivate_61 rfl ?_
      refine r_aload_n 62 0 C dX1_takePrivate_62 rfl ?_
      refine r_get 63 C dX1_takePrivate_63 (k := 0) 9 rfl rfl hiX1 (by decide) rfl (mg 2 rfl) (Or.inl rfl) rfl ?_
      refine r_bipush 66 20 C dX1_takePrivate_66 (by decide) ?_
      refine r_iconst 68 1 C dX1_takePrivate_68 (by decide) ?_
      refine r_callVi 69 C dX1_takePrivate_69 [.ref h0] [(h1, .inr (2, [.ref h4, .int z131, .int z132, .ref h5, .ref h6, .ref h7])), (h5, .inl (gI g, 6, .inl f134))] [(h2, .inr (3, [.ref h3, .ref h10, .ref h8, .ref h11, .int x5, .int x6, .int x7])), (h8, .inr (7, [.ref h3, .ref h12, .ref h13, .int x9, .int x10, .int x11])), (h3, .inr (4, [.ref h9, .int x8])), (h4, .inl (gI g, 48, .inl f133)), (h6, .inl (gI g, 6, .inl f135)), (h7, .inl (gI g, 6, .inl f136)), (h9, .inl (gB g, 1500, .inl fn4)), (h0, .inr (1, [.ref h1, .ref h2, .ref h3, .int z153, .long z130, .long 9223372036854775807, .int x1, .int x2, .long y4, .long y5]))] (fun sz => c91_X2_fits l g h1 h5 1 h4 z131 z132 h6 h7 f134 ⟨p143, p144⟩ ⟨p145, p146⟩ sz) gX1_takePrivate_X2_fits rfl ⟨rfl, rfl⟩ 2 (by decide) ⟨Nat.le_of_ble_eq_true rfl, Nat.le_of_ble_eq_true rfl⟩ 7 rfl rfl [7, 8] [0, 1, 2, 3, 4, 5, 6, 9] rfl rfl (by decide) (by decide) (by decide) rfl rfl (Nat.le_of_ble_eq_true rfl) ⟨Nat.le_of_ble_eq_true rfl, Nat.le_of_ble_eq_true rfl⟩ (fun r159 _ w160 => ?_)
      refine r_ws [(h2, .inr (3, [.ref h3, .ref h10, .ref h8, .ref h11, .int x5, .int x6, .int x7])), (h8, .inr (7, [.ref h3, .ref h12, .ref h13, .int x9, .int x10, .int x11])), (h3, .inr (4, [.ref h9, .int x8])), (h4, .inl (gI g, 48, .inl f133)), (h6, .inl (gI g, 6, .inl f135)), (h7, .inl (gI g, 6, .inl f136)), (h9, .inl (gB g, 1500, .inl fn4)), (h0, .inr (1, [.ref h1, .ref h2, .ref h3, .int z153, .long z130, .long 9223372036854775807, .int x1, .int x2, .long y4, .long y5])), (h1, .inr (2, [.ref h4, .int z131, .int z132, .ref h5, .ref h6, .ref h7])), (h5, .inl (gI g, 6, .inl f134))] rfl ?_
      have p161 : 0 ≤ (Int32.toInt r159) := w160.1
      have p162 : (Int32.toInt r159) ≤ 1 := w160.2.1
      have p163 : FTS (Int32.toInt r159) (Int32.toInt (f134 (Int32.toNatClampNeg 4))) (1 : Int) := w160.2.2
      refine r_callVv 72 C dX1_takePrivate_72 [] [(h0, .inr (1, [.ref h1, .ref h2, .ref h3, .int z153, .long z130, .long 9223372036854775807, .int x1, .int x2, .long y4, .long y5]))] [(h2, .inr (3, [.ref h3, .ref h10, .ref h8, .ref h11, .int x5, .int x6, .int x7])), (h8, .inr (7, [.ref h3, .ref h12, .ref h13, .int x9, .int x10, .int x11])), (h3, .inr (4, [.ref h9, .int x8])), (h4, .inl (gI g, 48, .inl f133)), (h6, .inl (gI g, 6, .inl f135)), (h7, .inl (gI g, 6, .inl f136)), (h9, .inl (gB g, 1500, .inl fn4)), (h1, .inr (2, [.ref h4, .int z131, .int z132, .ref h5, .ref h6, .ref h7])), (h5, .inl (gI g, 6, .inl f134))] (fun sz => c53_X1_want l g h0 r159 h1 h2 h3 z153 z130 9223372036854775807 x1 x2 y4 y5 ⟨p161, p162⟩ ⟨p155, p156⟩ ⟨p141, p142⟩ i_x1 i_x2 i_y4 i_y5 sz) gX1_takePrivate_X1_want rfl ⟨rfl, rfl⟩ 1 (by decide) ⟨Nat.le_of_ble_eq_true rfl, Nat.le_of_ble_eq_true rfl⟩ 7 rfl rfl [7] [0, 1, 2, 3, 4, 5, 6, 8, 9] rfl rfl (by decide) (by decide) (by decide) rfl rfl (Nat.le_of_ble_eq_true rfl) ⟨Nat.le_of_ble_eq_true rfl, Nat.le_of_ble_eq_true rfl⟩ (fun  z164 w165 => ?_)
      refine r_ws [(h2, .inr (3, [.ref h3, .ref h10, .ref h8, .ref h11, .int x5, .int x6, .int x7])), (h8, .inr (7, [.ref h3, .ref h12, .ref h13, .int x9, .int x10, .int x11])), (h3, .inr (4, [.ref h9, .int x8])), (h4, .inl (gI g, 48, .inl f133)), (h6, .inl (gI g, 6, .inl f135)), (h7, .inl (gI g, 6, .inl f136)), (h9, .inl (gB g, 1500, .inl fn4)), (h1, .inr (2, [.ref h4, .int z131, .int z132, .ref h5, .ref h6, .ref h7])), (h5, .inl (gI g, 6, .inl f134)), (h0, .inr (1, [.ref h1, .ref h2, .ref h3, .int z164, .long z130, .long 9223372036854775807, .int x1, .int x2, .long y4, .long y5]))] rfl ?_
      have p166 : 0 ≤ (Int32.toInt z164) := w165.1
      have p167 : (Int32.toInt z164) ≤ 2 := w165.2.1
      have p168 : WNT (Int32.toInt r159) (Int32.toInt z153) (Int32.toInt z164) := w165.2.2.1
      have p169 : (((Int32.toInt r159) = 1 ∧ (Int32.toInt z164) = (Int32.toInt z153)) ∨ ((Int32.toInt r159) = 0 ∧ 1 ≤ (Int32.toInt z164))) := w165.2.2.2
      clear p169
      refine r_aload_n 75 0 C dX1_takePrivate_75 rfl ?_
      refine r_aload_n 76 0 C dX1_takePrivate_76 rfl ?_
      refine r_get 77 C dX1_takePrivate_77 (k := 0) 9 rfl rfl hiX1 (by decide) rfl (mg 2 rfl) (Or.inl rfl) rfl ?_
      refine r_bipush 80 21 C dX1_takePrivate_80 (by decide) ?_
      refine r_iconst 82 1 C dX1_takePrivate_82 (by decide) ?_
      refine r_callVi 83 C dX1_takePrivate_83 [.ref h0] [(h1, .inr (2, [.ref h4, .int z131, .int z132, .ref h5, .ref h6, .ref h7])), (h5, .inl (gI g, 6, .inl f134))] [(h2, .inr (3, [.ref h3, .ref h10, .ref h8, .ref h11, .int x5, .int x6, .int x7])), (h8, .inr (7, [.ref h3, .ref h12, .ref h13, .int x9, .int x10, .int x11])), (h3, .inr (4, [.ref h9, .int x8])), (h4, .inl (gI g, 48, .inl f133)), (h6, .inl (gI g, 6, .inl f135)), (h7, .inl (gI g, 6, .inl f136)), (h9, .inl (gB g, 1500, .inl fn4)), (h0, .inr (1, [.ref h1, .ref h2, .ref h3, .int z164, .long z130, .long 9223372036854775807, .int x1, .int x2, .long y4, .long y5]))] (fun sz => c93_X2_fits l g h1 h5 1 h4 z131 z132 h6 h7 f134 ⟨p143, p144⟩ ⟨p145, p146⟩ sz) gX1_takePrivate_X2_fits rfl ⟨rfl, rfl⟩ 2 (by decide) ⟨Nat.le_of_ble_eq_true rfl, Nat.le_of_ble_eq_true rfl⟩ 7 rfl rfl [7, 8] [0, 1, 2, 3, 4, 5, 6, 9] rfl rfl (by decide) (by decide) (by decide) rfl rfl (Nat.le_of_ble_eq_true rfl) ⟨Nat.le_of_ble_eq_true rfl, Nat.le_of_ble_eq_true rfl⟩ (fun r170 _ w171 => ?_)
      refine r_ws [(h2, .inr (3, [.ref h3, .ref h10, .ref h8, .ref h11, .int x5, .int x6, .int x7])), (h8, .inr (7, [.ref h3, .ref h12, .ref h13, .int x9, .int x10, .int x11])), (h3, .inr (4, [.ref h9, .int x8])), (h4, .inl (gI g, 48, .inl f133)), (h6, .inl (gI g, 6, .inl f135)), (h7, .inl (gI g, 6, .inl f136)), (h9, .inl (gB g, 1500, .inl fn4)), (h0, .inr (1, [.ref h1, .ref h2, .ref h3, .int z164, .long z130, .long 9223372036854775807, .int x1, .int x2, .long y4, .long y5])), (h1, .inr (2, [.ref h4, .int z131, .int z132, .ref h5, .ref h6, .ref h7])), (h5, .inl (gI g, 6, .inl f134))] rfl ?_
      have p172 : 0 ≤ (Int32.toInt r170) := w171.1
      have p173 : (Int32.toInt r170) ≤ 1 := w171.2.1
      have p174 : FTS (Int32.toInt r170) (Int32.toInt (f134 (Int32.toNatClampNeg 5))) (1 : Int) := w171.2.2
      refine r_callVv 86 C dX1_takePrivate_86 [] [(h0, .inr (1, [.ref h1, .ref h2, .ref h3, .int z164, .long z130, .long 9223372036854775807, .int x1, .int x2, .long y4, .long y5]))] [(h2, .inr (3, [.ref h3, .ref h10, .ref h8, .ref h11, .int x5, .int x6, .int x7])), (h8, .inr (7, [.ref h3, .ref h12, .ref h13, .int x9, .int x10, .int x11])), (h3, .inr (4, [.ref h9, .int x8])), (h4, .inl (gI g, 48, .inl f133)), (h6, .inl (gI g, 6, .inl f135)), (h7, .inl (gI g, 6, .inl f136)), (h9, .inl (gB g, 1500, .inl fn4)), (h1, .inr (2, [.ref h4, .int z131, .int z132, .ref h5, .ref h6, .ref h7])), (h5, .inl (gI g, 6, .inl f134))] (fun sz => c53_X1_want l g h0 r170 h1 h2 h3 z164 z130 9223372036854775807 x1 x2 y4 y5 ⟨p172, p173⟩ ⟨p166, p167⟩ ⟨p141, p142⟩ i_x1 i_x2 i_y4 i_y5 sz) gX1_takePrivate_X1_want rfl ⟨rfl, rfl⟩ 1 (by decide) ⟨Nat.le_of_ble_eq_true rfl, Nat.le_of_ble_eq_true rfl⟩ 7 rfl rfl [7] [0, 1, 2, 3, 4, 5, 6, 8, 9] rfl rfl (by decide) (by decide) (by decide) rfl rfl (Nat.le_of_ble_eq_true rfl) ⟨Nat.le_of_ble_eq_true rfl, Nat.le_of_ble_eq_true rfl⟩ (fun  z175 w176 => ?_)
      refine r_ws [(h2, .inr (3, [.ref h3, .ref h10, .ref h8, .ref h11, .int x5, .int x6, .int x7])), (h8, .inr (7, [.ref h3, .ref h12, .ref h13, .int x9, .int x10, .int x11])), (h3, .inr (4, [.ref h9, .int x8])), (h4, .inl (gI g, 48, .inl f133)), (h6, .inl (gI g, 6, .inl f135)), (h7, .inl (gI g, 6, .inl f136)), (h9, .inl (gB g, 1500, .inl fn4)), (h1, .inr (2, [.ref h4, .int z131, .int z132, .ref h5, .ref h6, .ref h7])), (h5, .inl (gI g, 6, .inl f134)), (h0, .inr (1, [.ref h1, .ref h2, .ref h3, .int z175, .long z130, .long 9223372036854775807, .int x1, .int x2, .long y4, .long y5]))] rfl ?_
      have p177 : 0 ≤ (Int32.toInt z175) := w176.1
      have p178 : (Int32.toInt z175) ≤ 2 := w176.2.1
      have p179 : WNT (Int32.toInt r170) (Int32.toInt z164) (Int32.toInt z175) := w176.2.2.1
      have p180 : (((Int32.toInt r170) = 1 ∧ (Int32.toInt z175) = (Int32.toInt z164)) ∨ ((Int32.toInt r170) = 0 ∧ 1 ≤ (Int32.toInt z175))) := w176.2.2.2
      clear p180
      refine r_aload_n 89 0 C dX1_takePrivate_89 rfl ?_
      refine r_get 90 C dX1_takePrivate_90 (k := 1) 9 rfl rfl hiX1 (by decide) rfl (mg 3 rfl) (Or.inl rfl) rfl ?_
      refine r_aload_n 93 0 C dX1_takePrivate_93 rfl ?_
      refine r_get 94 C dX1_takePrivate_94 (k := 0) 9 rfl rfl hiX1 (by decide) rfl (mg 2 rfl) (Or.inl rfl) rfl ?_
      refine r_bipush 97 20 C dX1_takePrivate_97 (by decide) ?_
      refine r_callVi 99 C dX1_takePrivate_99 [.ref h2] [(h1, .inr (2, [.ref h4, .int z131, .int z132, .ref h5, .ref h6, .ref h7])), (h5, .inl (gI g, 6, .inl f134)), (h6, .inl (gI g, 6, .inl f135))] [(h2, .inr (3, [.ref h3, .ref h10, .ref h8, .ref h11, .int x5, .int x6, .int x7])), (h8, .inr (7, [.ref h3, .ref h12, .ref h13, .int x9, .int x10, .int x11])), (h3, .inr (4, [.ref h9, .int x8])), (h4, .inl (gI g, 48, .inl f133)), (h7, .inl (gI g, 6, .inl f136)), (h9, .inl (gB g, 1500, .inl fn4)), (h0, .inr (1, [.ref h1, .ref h2, .ref h3, .int z175, .long z130, .long 9223372036854775807, .int x1, .int x2, .long y4, .long y5]))] (fun sz => c95_X2_first l g h1 h5 h6 h4 z131 z132 h7 f134 f135 ⟨p143, p144⟩ ⟨p145, p146⟩ sz) gX1_takePrivate_X2_first rfl ⟨rfl, rfl⟩ 1 (by decide) ⟨Nat.le_of_ble_eq_true rfl, Nat.le_of_ble_eq_true rfl⟩ 7 rfl rfl [7, 8, 4] [0, 1, 2, 3, 5, 6, 9] rfl rfl (by decide) (by decide) (by decide) rfl rfl (Nat.le_of_ble_eq_true rfl) ⟨Nat.le_of_ble_eq_true rfl, Nat.le_of_ble_eq_true rfl⟩ (fun r181 _ w182 => ?_)
      refine r_ws [(h2, .inr (3, [.ref h3, .ref h10, .ref h8, .ref h11, .int x5, .int x6, .int x7])), (h8, .inr (7, [.ref h3, .ref h12, .ref h13, .int x9, .int x10, .int x11])), (h3, .inr (4, [.ref h9, .int x8])), (h4, .inl (gI g, 48, .inl f133)), (h7, .inl (gI g, 6, .inl f136)), (h9, .inl (gB g, 1500, .inl fn4)), (h0, .inr (1, [.ref h1, .ref h2, .ref h3, .int z175, .long z130, .long 9223372036854775807, .int x1, .int x2, .long y4, .long y5])), (h1, .inr (2, [.ref h4, .int z131, .int z132, .ref h5, .ref h6, .ref h7])), (h5, .inl (gI g, 6, .inl f134)), (h6, .inl (gI g, 6, .inl f135))] rfl ?_
      have p183 : FST (Int32.toInt r181) (Int32.toInt (f134 (Int32.toNatClampNeg 4))) (Int32.toInt (f135 (Int32.toNatClampNeg 4))) := w182
      have gr181 := fb_rng r181
      refine r_putN 102 C dX1_takePrivate_102 (k := 5) 0 rfl rfl hiX3 tyX3 tyX3_ok nmX3 (by decide) rfl (mg 11 rfl) rfl rfl rfl rfl rfl (Nat.le_of_ble_eq_true rfl) [(h2, .inr (3, [.ref h3, .ref h10, .ref h8, .ref h11, .int x5, .int r181, .int x7])), (h8, .inr (7, [.ref h3, .ref h12, .ref h13, .int x9, .int x10, .int x11])), (h3, .inr (4, [.ref h9, .int x8])), (h4, .inl (gI g, 48, .inl f133)), (h7, .inl (gI g, 6, .inl f136)), (h9, .inl (gB g, 1500, .inl fn4)), (h0, .inr (1, [.ref h1, .ref h2, .ref h3, .int z175, .long z130, .long 9223372036854775807, .int x1, .int x2, .long y4, .long y5])), (h1, .inr (2, [.ref h4, .int z131, .int z132, .ref h5, .ref h6, .ref h7])), (h5, .inl (gI g, 6, .inl f134)), (h6, .inl (gI g, 6, .inl f135))] rfl ?_
      refine r_aload_n 105 0 C dX1_takePrivate_105 rfl ?_
      refine r_get 106 C dX1_takePrivate_106 (k := 1) 6 rfl rfl hiX1 (by decide) rfl (mg 3 rfl) (Or.inl rfl) rfl ?_
      refine r_aload_n 109 0 C dX1_takePrivate_109 rfl ?_
      refine r_get 110 C dX1_takePrivate_110 (k := 0) 6 rfl rfl hiX1 (by decide) rfl (mg 2 rfl) (Or.inl rfl) rfl ?_
      refine r_bipush 113 21 C dX1_takePrivate_113 (by decide) ?_
      refine r_callVi 115 C dX1_takePrivate_115 [.ref h2] [(h1, .inr (2, [.ref h4, .int z131, .int z132, .ref h5, .ref h6, .ref h7])), (h5, .inl (gI g, 6, .inl f134)), (h6, .inl (gI g, 6, .inl f135))] [(h2, .inr (3, [.ref h3, .ref h10, .ref h8, .ref h11, .int x5, .int r181, .int x7])), (h8, .inr (7, [.ref h3, .ref h12, .ref h13, .int x9, .int x10, .int x11])), (h3, .inr (4, [.ref h9, .int x8])), (h4, .inl (gI g, 48, .inl f133)), (h7, .inl (gI g, 6, .inl f136)), (h9, .inl (gB g, 1500, .inl fn4)), (h0, .inr (1, [.ref h1, .ref h2, .ref h3, .int z175, .long z130, .long 9223372036854775807, .int x1, .int x2, .long y4, .long y5]))] (fun sz => c97_X2_first l g h1 h5 h6 h4 z131 z132 h7 f134 f135 ⟨p143, p144⟩ ⟨p145, p146⟩ sz) gX1_takePrivate_X2_first rfl ⟨rfl, rfl⟩ 1 (by decide) ⟨Nat.le_of_ble_eq_true rfl, Nat.le_of_ble_eq_true rfl⟩ 7 rfl rfl [7, 8, 9] [0, 1, 2, 3, 4, 5, 6] rfl rfl (by decide) (by decide) (by decide) rfl rfl (Nat.le_of_ble_eq_true rfl) ⟨Nat.le_of_ble_eq_true rfl, Nat.le_of_ble_eq_true rfl⟩ (fun r184 _ w185 => ?_)
      refine r_ws [(h2, .inr (3, [.ref h3, .ref h10, .ref h8, .ref h11, .int x5, .int r181, .int x7])), (h8, .inr (7, [.ref h3, .ref h12, .ref h13, .int x9, .int x10, .int x11])), (h3, .inr (4, [.ref h9, .int x8])), (h4, .inl (gI g, 48, .inl f133)), (h7, .inl (gI g, 6, .inl f136)), (h9, .inl (gB g, 1500, .inl fn4)), (h0, .inr (1, [.ref h1, .ref h2, .ref h3, .int z175, .long z130, .long 9223372036854775807, .int x1, .int x2, .long y4, .long y5])), (h1, .inr (2, [.ref h4, .int z131, .int z132, .ref h5, .ref h6, .ref h7])), (h5, .inl (gI g, 6, .inl f134)), (h6, .inl (gI g, 6, .inl f135))] rfl ?_
      have p186 : FST (Int32.toInt r184) (Int32.toInt (f134 (Int32.toNatClampNeg 5))) (Int32.toInt (f135 (Int32.toNatClampNeg 5))) := w185
      have gr184 := fb_rng r184
      refine r_putN 118 C dX1_takePrivate_118 (k := 6) 0 rfl rfl hiX3 tyX3 tyX3_ok nmX3 (by decide) rfl (mg 12 rfl) rfl rfl rfl rfl rfl (Nat.le_of_ble_eq_true rfl) [(h2, .inr (3, [.ref h3, .ref h10, .ref h8, .ref h11, .int x5, .int r181, .int r184])), (h8, .inr (7, [.ref h3, .ref h12, .ref h13, .int x9, .int x10, .int x11])), (h3, .inr (4, [.ref h9, .int x8])), (h4, .inl (gI g, 48, .inl f133)), (h7, .inl (gI g, 6, .inl f136)), (h9, .inl (gB g, 1500, .inl fn4)), (h0, .inr (1, [.ref h1, .ref h2, .ref h3, .int z175, .long z130, .long 9223372036854775807, .int x1, .int x2, .long y4, .long y5])), (h1, .inr (2, [.ref h4, .int z131, .int z132, .ref h5, .ref h6, .ref h7])), (h5, .inl (gI g, 6, .inl f134)), (h6, .inl (gI g, 6, .inl f135))] rfl ?_
      refine r_aload_n 121 0 C dX1_takePrivate_121 rfl ?_
      refine r_get 122 C dX1_takePrivate_122 (k := 3) 6 rfl rfl hiX1 (by decide) rfl (mg 4 rfl) (Or.inl rfl) rfl ?_
      refine r_if_ne 125 174 C dX1_takePrivate_125 (by decide) (fun c187 => ?_) (fun c187 => ?_)
      · skip
        have k188 : ¬ ((Int32.toInt z175) = 0) := fun h_9 => c187 ((fa_eq z175 0).mpr h_9)
        exact r_vret 174 Rt dX1_takePrivate_174 (z175, z130, x1, x2, y4, y5, z131, z132, r181, r184, f133, f134, f135, f136, x9, x10, x11) (show 0 ≤ (Int32.toInt z175) ∧ (Int32.toInt z175) ≤ 2 ∧ -8589934592 ≤ (Int64.toInt z130) ∧ (Int64.toInt z130) ≤ 8589934592 ∧ -257 ≤ (Int32.toInt x1) ∧ (Int32.toInt x1) ≤ 65535 ∧ -1 ≤ (Int32.toInt x2) ∧ (Int32.toInt x2) ≤ 255 ∧ -8589934592 ≤ (Int64.toInt y4) ∧ (Int64.toInt y4) ≤ 8589934592 ∧ -8589934592 ≤ (Int64.toInt y5) ∧ (Int64.toInt y5) ≤ 8589934592 ∧ 0 ≤ (Int32.toInt z131) ∧ (Int32.toInt z131) ≤ 48 ∧ 0 ≤ (Int32.toInt z132) ∧ (Int32.toInt z132) ≤ 1 ∧ SEQ (Int32.toInt x0) (Int32.toInt z175) (PRIV (GB fn4 (Int32.toInt x8)) (Int32.toInt x8) (Int64.toInt y0) (Int64.toInt y1)) (fun q => q = ((Int32.toInt x9), (Int32.toInt r181), (Int32.toInt r184))) from ⟨(show _ ∧ _ from ⟨p177, p178⟩).1, (show _ ∧ _ from ⟨p177, p178⟩).2, (show _ ∧ _ from ⟨p141, p142⟩).1, (show _ ∧ _ from ⟨p141, p142⟩).2, i_x1.1, i_x1.2, i_x2.1, i_x2.2, i_y4.1, i_y4.2, i_y5.1, i_y5.2, (show _ ∧ _ from ⟨p143, p144⟩).1, (show _ ∧ _ from ⟨p143, p144⟩).2, (show _ ∧ _ from ⟨p145, p146⟩).1, (show _ ∧ _ from ⟨p145, p146⟩).2, (by exact priv_end (by omega) p126 (by omega) (by omega) p147 p157 p168 p179 (by have h_1 := p152; unfold FTS at h_1; omega) (by have h_1 := p163; unfold FTS at h_1; omega) (by have h_1 := p174; unfold FTS at h_1; omega) (by have h_1 := p183; unfold FST at h_1; omega) (by have h_1 := p186; unfold FST at h_1; omega) (by first | exact Or.inl ⟨by omega, by omega⟩ | exact Or.inr (Or.inl ⟨by omega, (by omega), by omega, by omega⟩)))⟩) [6, 7, 0, 2, 3, 8, 9, 4, 1, 5] (by decide) rfl (Nat.le_of_ble_eq_true rfl) (Nat.le_of_ble_eq_true rfl)
      · skip
        have k189 : (Int32.toInt z175) = 0 := (fa_eq z175 0).mp c187
        refine r_aload_n 128 0 C dX1_takePrivate_128 rfl ?_
        refine r_get 129 C dX1_takePrivate_129 (k := 0) 6 rfl rfl hiX1 (by decide) rfl (mg 2 rfl) (Or.inl rfl) rfl ?_
        refine r_bipush 132 19 C dX1_takePrivate_132 (by decide) ?_
        refine r_callVi 134 C dX1_takePrivate_134 [] [(h1, .inr (2, [.ref h4, .int z131, .int z132, .ref h5, .ref h6, .ref h7])), (h5, .inl (gI g, 6, .inl f134))] [(h2, .inr (3, [.ref h3, .ref h10, .ref h8, .ref h11, .int x5, .int r181, .int r184])), (h8, .inr (7, [.ref h3, .ref h12, .ref h13, .int x9, .int x10, .int x11])), (h3, .inr (4, [.ref h9, .int x8])), (h4, .inl (gI g, 48, .inl f133)), (h7, .inl (gI g, 6, .inl f136)), (h9, .inl (gB g, 1500, .inl fn4)), (h0, .inr (1, [.ref h1, .ref h2, .ref h3, .int z175, .long z130, .long 9223372036854775807, .int x1, .int x2, .long y4, .long y5])), (h6, .inl (gI g, 6, .inl f135))] (fun sz => c98_X2_isTold l g h1 h5 h4 z131 z132 h6 h7 f134 ⟨p143, p144⟩ ⟨p145, p146⟩ sz) gX1_takePrivate_X2_isTold rfl ⟨rfl, rfl⟩ 1 (by decide) ⟨Nat.le_of_ble_eq_true rfl, Nat.le_of_ble_eq_true rfl⟩ 7 rfl rfl [7, 8] [0, 1, 2, 3, 4, 5, 6, 9] rfl rfl (by decide) (by decide) (by decide) rfl rfl (Nat.le_of_ble_eq_true rfl) ⟨Nat.le_of_ble_eq_true rfl, Nat.le_of_ble_eq_true rfl⟩ (fun r190 _ w191 => ?_)
        refine r_ws [(h2, .inr (3, [.ref h3, .ref h10, .ref h8, .ref h11, .int x5, .int r181, .int r184])), (h8, .inr (7, [.ref h3, .ref h12, .ref h13, .int x9, .int x10, .int x11])), (h3, .inr (4, [.ref h9, .int x8])), (h4, .inl (gI g, 48, .inl f133)), (h7, .inl (gI g, 6, .inl f136)), (h9, .inl (gB g, 1500, .inl fn4)), (h0, .inr (1, [.ref h1, .ref h2, .ref h3, .int z175, .long z130, .long 9223372036854775807, .int x1, .int x2, .long y4, .long y5])), (h6, .inl (gI g, 6, .inl f135)), (h1, .inr (2, [.ref h4, .int z131, .int z132, .ref h5, .ref h6, .ref h7])), (h5, .inl (gI g, 6, .inl f134))] rfl ?_
        have p192 : 0 ≤ (Int32.toInt r190) := w191.1
        have p193 : (Int32.toInt r190) ≤ 1 := w191.2.1
        have p194 : TOL (Int32.toInt r190) (Int32.toInt (f134 (Int32.toNatClampNeg 3))) := w191.2.2
        refine r_if_eq 137 174 C dX1_takePrivate_137 (by decide) (fun c195 => ?_) (fun c195 => ?_)
        · skip
          have k196 : (Int32.toInt r190) = 0 := (fa_eq r190 0).mp c195
          exact r_vret 174 Rt dX1_takePrivate_174 (z175, z130, x1, x2, y4, y5, z131, z132, r181, r184, f133, f134, f135, f136, x9, x10, x11) (show 0 ≤ (Int32.toInt z175) ∧ (Int32.toInt z175) ≤ 2 ∧ -8589934592 ≤ (Int64.toInt z130) ∧ (Int64.toInt z130) ≤ 8589934592 ∧ -257 ≤ (Int32.toInt x1) ∧ (Int32.toInt x1) ≤ 65535 ∧ -1 ≤ (Int32.toInt x2) ∧ (Int32.toInt x2) ≤ 255 ∧ -8589934592 ≤ (Int64.toInt y4) ∧ (Int64.toInt y4) ≤ 8589934592 ∧ -8589934592 ≤ (Int64.toInt y5) ∧ (Int64.toInt y5) ≤ 8589934592 ∧ 0 ≤ (Int32.toInt z131) ∧ (Int32.toInt z131) ≤ 48 ∧ 0 ≤ (Int32.toInt z132) ∧ (Int32.toInt z132) ≤ 1 ∧ SEQ (Int32.toInt x0) (Int32.toInt z175) (PRIV (GB fn4 (Int32.toInt x8)) (Int32.toInt x8) (Int64.toInt y0) (Int64.toInt y1)) (fun q => q = ((Int32.toInt x9), (Int32.toInt r181), (Int32.toInt r184))) from ⟨(show _ ∧ _ from ⟨p177, p178⟩).1, (show _ ∧ _ from ⟨p177, p178⟩).2, (show _ ∧ _ from ⟨p141, p142⟩).1, (show _ ∧ _ from ⟨p141, p142⟩).2, i_x1.1, i_x1.2, i_x2.1, i_x2.2, i_y4.1, i_y4.2, i_y5.1, i_y5.2, (show _ ∧ _ from ⟨p143, p144⟩).1, (show _ ∧ _ from ⟨p143, p144⟩).2, (show _ ∧ _ from ⟨p145, p146⟩).1, (show _ ∧ _ from ⟨p145, p146⟩).2, (by exact priv_end (by omega) p126 (by omega) (by omega) p147 p157 p168 p179 (by have h_1 := p152; unfold FTS at h_1; omega) (by have h_1 := p163; unfold FTS at h_1; omega) (by have h_1 := p174; unfold FTS at h_1; omega) (by have h_1 := p183; unfold FST at h_1; omega) (by have h_1 := p186; unfold FST at h_1; omega) (by first | exact Or.inl ⟨by omega, by omega⟩ | exact Or.inr (Or.inl ⟨by omega, (by have h_1 := p194; unfold TOL at h_1; omega), by omega, by omega⟩)))⟩) [6, 8, 0, 2, 3, 9, 7, 4, 1, 5] (by decide) rfl (Nat.le_of_ble_eq_true rfl) (Nat.le_of_ble_eq_true rfl)
        · skip
          have k197 : ¬ ((Int32.toInt r190) = 0) := fun h_9 => c195 ((fa_eq r190 0).mpr h_9)
          refine r_aload_n 140 0 C dX1_takePrivate_140 rfl ?_
          refine r_lload_n 141 1 C dX1_takePrivate_141 rfl ?_
          refine r_aload_n 142 0 C dX1_takePrivate_142 rfl ?_
          refine r_get 143 C dX1_takePrivate_143 (k := 0) 6 rfl rfl hiX1 (by decide) rfl (mg 2 rfl) (Or.inl rfl) rfl ?_
          refine r_bipush 146 19 C dX1_takePrivate_146 (by decide) ?_
          refine r_callVi 148 C dX1_takePrivate_148 [.long y0, .ref h0] [(h1, .inr (2, [.ref h4, .int z131, .int z132, .ref h5, .ref h6, .ref h7])), (h5, .inl (gI g, 6, .inl f134)), (h6, .inl (gI g, 6, .inl f135))] [(h2, .inr (3, [.ref h3, .ref h10, .ref h8, .ref h11, .int x5, .int r181, .int r184])), (h8, .inr (7, [.ref h3, .ref h12, .ref h13, .int x9, .int x10, .int x11])), (h3, .inr (4, [.ref h9, .int x8])), (h4, .inl (gI g, 48, .inl f133)), (h7, .inl (gI g, 6, .inl f136)), (h9, .inl (gB g, 1500, .inl fn4)), (h0, .inr (1, [.ref h1, .ref h2, .ref h3, .int z175, .long z130, .long 9223372036854775807, .int x1, .int x2, .long y4, .long y5]))] (fun sz => c99_X2_first l g h1 h5 h6 h4 z131 z132 h7 f134 f135 ⟨p143, p144⟩ ⟨p145, p146⟩ sz) gX1_takePrivate_X2_first rfl ⟨rfl, rfl⟩ 1 (by decide) ⟨Nat.le_of_ble_eq_true rfl, Nat.le_of_ble_eq_true rfl⟩ 8 rfl rfl [8, 9, 7] [0, 1, 2, 3, 4, 5, 6] rfl rfl (by decide) (by decide) (by decide) rfl rfl (Nat.le_of_ble_eq_true rfl) ⟨Nat.le_of_ble_eq_true rfl, Nat.le_of_ble_eq_true rfl⟩ (fun r198 _ w199 => ?_)
          refine r_ws [(h2, .inr (3, [.ref h3, .ref h10, .ref h8, .ref h11, .int x5, .int r181, .int r184])), (h8, .inr (7, [.ref h3, .ref h12, .ref h13, .int x9, .int x10, .int x11])), (h3, .inr (4, [.ref h9, .int x8])), (h4, .inl (gI g, 48, .inl f133)), (h7, .inl (gI g, 6, .inl f136)), (h9, .inl (gB g, 1500, .inl fn4)), (h0, .inr (1, [.ref h1, .ref h2, .ref h3, .int z175, .long z130, .long 9223372036854775807, .int x1, .int x2, .long y4, .long y5])), (h1, .inr (2, [.ref h4, .int z131, .int z132, .ref h5, .ref h6, .ref h7])), (h5, .inl (gI g, 6, .inl f134)), (h6, .inl (gI g, 6, .inl f135))] rfl ?_
          have p200 : FST (Int32.toInt r198) (Int32.toInt (f134 (Int32.toNatClampNeg 3))) (Int32.toInt (f135 (Int32.toNatClampNeg 3))) := w199
          have gr198 := fb_rng r198
          obtain ⟨z201, ez201⟩ : ∃ z_9, Int32.toInt64 r198 = z_9 := ⟨_, rfl⟩
          have tz201 : (Int64.toInt z201) = (Int32.toInt r198) := by rw [← ez201]; exact Int32.toInt_toInt64 _
          refine r_i2l 151 z201 C dX1_takePrivate_151 ez201 ?_
          obtain ⟨z202, ez202⟩ : ∃ z_9, y0 + z201 = z_9 := ⟨_, rfl⟩
          have tz202 : (Int64.toInt z202) = (Int64.toInt y0) + (Int64.toInt z201) := by rw [← ez202]; exact fb_addL (by show -9223372036854775808 ≤ (Int64.toInt y0) + (Int64.toInt z201); omega) (by show (Int64.toInt y0) + (Int64.toInt z201) < 9223372036854775808; omega)
          refine r_ladd 152 z202 C dX1_takePrivate_152 ez202 ?_
          refine r_put 153 C dX1_takePrivate_153 (k := 4) 6 rfl rfl hiX1 tyX1 tyX1_ok nmX1 (by decide) rfl (mg 5 rfl) (Or.inl rfl) rfl rfl rfl rfl (Nat.le_of_ble_eq_true rfl) [(h2, .inr (3, [.ref h3, .ref h10, .ref h8, .ref h11, .int x5, .int r181, .int r184])), (h8, .inr (7, [.ref h3, .ref h12, .ref h13, .int x9, .int x10, .int x11])), (h3, .inr (4, [.ref h9, .int x8])), (h4, .inl (gI g, 48, .inl f133)), (h7, .inl (gI g, 6, .inl f136)), (h9, .inl (gB g, 1500, .inl fn4)), (h0, .inr (1, [.ref h1, .ref h2, .ref h3, .int z175, .long z202, .long 9223372036854775807, .int x1, .int x2, .long y4, .long y5])), (h1, .inr (2, [.ref h4, .int z131, .int z132, .ref h5, .ref h6, .ref h7])), (h5, .inl (gI g, 6, .inl f134)), (h6, .inl (gI g, 6, .inl f135))] rfl ?_
          refine r_aload_n 156 0 C dX1_takePrivate_156 rfl ?_
          refine r_iconst 157 0 C dX1_takePrivate_157 (by decide) ?_
          refine r_ldc 158 65535 C dX1_takePrivate_158 (mg 6 rfl) ?_
          refine r_callVv 160 C dX1_takePrivate_160 [] [(h0, .inr (1, [.ref h1, .ref h2, .ref h3, .int z175, .long z202, .long 9223372036854775807, .int x1, .int x2, .long y4, .long y5])), (h3, .inr (4, [.ref h9, .int x8])), (h9, .inl (gB g, 1500, .inl fn4))] [(h2, .inr (3, [.ref h3, .ref h10, .ref h8, .ref h11, .int x5, .int r181, .int r184])), (h8, .inr (7, [.ref h3, .ref h12, .ref h13, .int x9, .int x10, .int x11])), (h4, .inl (gI g, 48, .inl f133)), (h7, .inl (gI g, 6, .inl f136)), (h1, .inr (2, [.ref h4, .int z131, .int z132, .ref h5, .ref h6, .ref h7])), (h5, .inl (gI g, 6, .inl f134)), (h6, .inl (gI g, 6, .inl f135))] (fun sz => c57_X1_takeIndex l g h0 h3 h9 0 65535 h1 h2 z175 z202 9223372036854775807 x1 x2 y4 y5 x8 fn4 ⟨p177, p178⟩ ⟨by omega, by omega⟩ i_x1 i_x2 i_y4 i_y5 i_x8 (by show ((Int32.toInt x8) ≤ (9223372036854775807 : Int)); first | assumption | omega) sz) gX1_takePrivate_X1_takeIndex rfl ⟨rfl, rfl⟩ 2 (by decide) ⟨Nat.le_of_ble_eq_true rfl, Nat.le_of_ble_eq_true rfl⟩ 6 rfl rfl [6, 2, 5] [0, 1, 3, 4, 7, 8, 9] rfl rfl (by decide) (by decide) (by decide) rfl rfl (Nat.le_of_ble_eq_true rfl) ⟨Nat.le_of_ble_eq_true rfl, Nat.le_of_ble_eq_true rfl⟩ (fun  u210 w209 => ?_)
          obtain ⟨z203, z204, z205, z206, z207, z208⟩ := u210
          refine r_ws [(h2, .inr (3, [.ref h3, .ref h10, .ref h8, .ref h11, .int x5, .int r181, .int r184])), (h8, .inr (7, [.ref h3, .ref h12, .ref h13, .int x9, .int x10, .int x11])), (h4, .inl (gI g, 48, .inl f133)), (h7, .inl (gI g, 6, .inl f136)), (h1, .inr (2, [.ref h4, .int z131, .int z132, .ref h5, .ref h6, .ref h7])), (h5, .inl (gI g, 6, .inl f134)), (h6, .inl (gI g, 6, .inl f135)), (h0, .inr (1, [.ref h1, .ref h2, .ref h3, .int z203, .long z204, .long 9223372036854775807, .int z205, .int z206, .long z207, .long z208])), (h3, .inr (4, [.ref h9, .int x8])), (h9, .inl (gB g, 1500, .inl fn4))] rfl ?_
          have p211 : 0 ≤ (Int32.toInt z203) := w209.1
          have p212 : (Int32.toInt z203) ≤ 2 := w209.2.1
          have p213 : -8589934592 ≤ (Int64.toInt z204) := w209.2.2.1
          have p214 : (Int64.toInt z204) ≤ 8589934592 := w209.2.2.2.1
          have p215 : -257 ≤ (Int32.toInt z205) := w209.2.2.2.2.1
          have p216 : (Int32.toInt z205) ≤ 65535 := w209.2.2.2.2.2.1
          have p217 : -1 ≤ (Int32.toInt z206) := w209.2.2.2.2.2.2.1
          have p218 : (Int32.toInt z206) ≤ 255 := w209.2.2.2.2.2.2.2.1
          have p219 : -8589934592 ≤ (Int64.toInt z207) := w209.2.2.2.2.2.2.2.2.1
          have p220 : (Int64.toInt z207) ≤ 8589934592 := w209.2.2.2.2.2.2.2.2.2.1
          have p221 : -8589934592 ≤ (Int64.toInt z208) := w209.2.2.2.2.2.2.2.2.2.2.1
          have p222 : (Int64.toInt z208) ≤ 8589934592 := w209.2.2.2.2.2.2.2.2.2.2.2.1
          have p223 : SEQ (Int32.toInt z175) (Int32.toInt z203) (IDX (GB fn4 (Int32.toInt x8)) (Int32.toInt x8) (Int64.toInt z202) (0 : Int) (65535 : Int)) (IXR (Int32.toInt z205) (Int64.toInt z204) (Int32.toInt z206) (Int64.toInt z207) (Int64.toInt z208) (Int64.toInt z202)) := w209.2.2.2.2.2.2.2.2.2.2.2.2.1
          have p224 : IXN (Int32.toInt z175) (Int32.toInt z203) (0 : Int) (65535 : Int) (Int32.toInt z205) (Int64.toInt z208) := w209.2.2.2.2.2.2.2.2.2.2.2.2.2
          refine r_aload_n 163 0 C dX1_takePrivate_163 rfl ?_
          refine r_aload_n 164 0 C dX1_takePrivate_164 rfl ?_
          refine r_get 165 C dX1_takePrivate_165 (k := 1) 7 rfl rfl hiX1 (by decide) rfl (mg 3 rfl) (Or.inl rfl) rfl ?_
          refine r_getN 168 C dX1_takePrivate_168 (k := 2) 0 rfl rfl hiX3 (by decide) rfl (mg 13 rfl) rfl rfl ?_
          refine r_callVv 171 C dX1_takePrivate_171 [] [(h0, .inr (1, [.ref h1, .ref h2, .ref h3, .int z203, .long z204, .long 9223372036854775807, .int z205, .int z206, .long z207, .long z208])), (h8, .inr (7, [.ref h3, .ref h12, .ref h13, .int x9, .int x10, .int x11]))] [(h2, .inr (3, [.ref h3, .ref h10, .ref h8, .ref h11, .int x5, .int r181, .int r184])), (h4, .inl (gI g, 48, .inl f133)), (h7, .inl (gI g, 6, .inl f136)), (h1, .inr (2, [.ref h4, .int z131, .int z132, .ref h5, .ref h6, .ref h7])), (h5, .inl (gI g, 6, .inl f134)), (h6, .inl (gI g, 6, .inl f135)), (h3, .inr (4, [.ref h9, .int x8])), (h9, .inl (gB g, 1500, .inl fn4))] (fun sz => c59_X1_shelve l g h0 h8 h1 h2 h3 z203 z204 9223372036854775807 z205 z206 z207 z208 h12 h13 x9 x10 x11 ⟨p211, p212⟩ ⟨p213, p214⟩ ⟨p215, p216⟩ ⟨p217, p218⟩ ⟨p219, p220⟩ ⟨p221, p222⟩ sz) gX1_takePrivate_X1_shelve rfl ⟨rfl, rfl⟩ 1 (by decide) ⟨Nat.le_of_ble_eq_true rfl, Nat.le_of_ble_eq_true rfl⟩ 7 rfl rfl [7, 1] [0, 2, 3, 4, 5, 6, 8, 9] rfl rfl (by decide) (by decide) (by decide) rfl rfl (Nat.le_of_ble_eq_true rfl) ⟨Nat.le_of_ble_eq_true rfl, Nat.le_of_ble_eq_true rfl⟩ (fun  u229 w228 => ?_)
          obtain ⟨z225, z226, z227⟩ := u229
          refine r_ws [(h2, .inr (3, [.ref h3, .ref h10, .ref h8, .ref h11, .int x5, .int r181, .int r184])), (h4, .inl (gI g, 48, .inl f133)), (h7, .inl (gI g, 6, .inl f136)), (h1, .inr (2, [.ref h4, .int z131, .int z132, .ref h5, .ref h6, .ref h7])), (h5, .inl (gI g, 6, .inl f134)), (h6, .inl (gI g, 6, .inl f135)), (h3, .inr (4, [.ref h9, .int x8])), (h9, .inl (gB g, 1500, .inl fn4)), (h0, .inr (1, [.ref h1, .ref h2, .ref h3, .int z203, .long z204, .long 9223372036854775807, .int z205, .int z206, .long z207, .long z208])), (h8, .inr (7, [.ref h3, .ref h12, .ref h13, .int z225, .int z226, .int z227]))] rfl ?_
          have gz225 := fb_rng z225
          have gz226 := fb_rng z226
          have gz227 := fb_rng z227
          have p230 : SHV (Int32.toInt z203) (Int32.toInt z205) (Int32.toInt x9) (Int32.toInt z225) := w228
          exact r_vret 174 Rt dX1_takePrivate_174 (z203, z204, z205, z206, z207, z208, z131, z132, r181, r184, f133, f134, f135, f136, z225, z226, z227) (show 0 ≤ (Int32.toInt z203) ∧ (Int32.toInt z203) ≤ 2 ∧ -8589934592 ≤ (Int64.toInt z204) ∧ (Int64.toInt z204) ≤ 8589934592 ∧ -257 ≤ (Int32.toInt z205) ∧ (Int32.toInt z205) ≤ 65535 ∧ -1 ≤ (Int32.toInt z206) ∧ (Int32.toInt z206) ≤ 255 ∧ -8589934592 ≤ (Int64.toInt z207) ∧ (Int64.toInt z207) ≤ 8589934592 ∧ -8589934592 ≤ (Int64.toInt z208) ∧ (Int64.toInt z208) ≤ 8589934592 ∧ 0 ≤ (Int32.toInt z131) ∧ (Int32.toInt z131) ≤ 48 ∧ 0 ≤ (Int32.toInt z132) ∧ (Int32.toInt z132) ≤ 1 ∧ SEQ (Int32.toInt x0) (Int32.toInt z203) (PRIV (GB fn4 (Int32.toInt x8)) (Int32.toInt x8) (Int64.toInt y0) (Int64.toInt y1)) (fun q => q = ((Int32.toInt z225), (Int32.toInt r181), (Int32.toInt r184))) from ⟨(show _ ∧ _ from ⟨p211, p212⟩).1, (show _ ∧ _ from ⟨p211, p212⟩).2, (show _ ∧ _ from ⟨p213, p214⟩).1, (show _ ∧ _ from ⟨p213, p214⟩).2, (show _ ∧ _ from ⟨p215, p216⟩).1, (show _ ∧ _ from ⟨p215, p216⟩).2, (show _ ∧ _ from ⟨p217, p218⟩).1, (show _ ∧ _ from ⟨p217, p218⟩).2, (show _ ∧ _ from ⟨p219, p220⟩).1, (show _ ∧ _ from ⟨p219, p220⟩).2, (show _ ∧ _ from ⟨p221, p222⟩).1, (show _ ∧ _ from ⟨p221, p222⟩).2, (show _ ∧ _ from ⟨p143, p144⟩).1, (show _ ∧ _ from ⟨p143, p144⟩).2, (show _ ∧ _ from ⟨p145, p146⟩).1, (show _ ∧ _ from ⟨p145, p146⟩).2, (by exact priv_end (by omega) p126 (by omega) (by omega) p147 p157 p168 p179 (by have h_1 := p152; unfold FTS at h_1; omega) (by have h_1 := p163; unfold FTS at h_1; omega) (by have h_1 := p174; unfold FTS at h_1; omega) (by have h_1 := p183; unfold FST at h_1; omega) (by have h_1 := p186; unfold FST at h_1; omega) (Or.inr (Or.inr ⟨(by have h_1 := p194; unfold TOL at h_1; omega), seq_of (ixr_len p223 (fun h_9 => (by have h_1 := p224; unfold IXN at h_1; have h_2 := p230; unfold SHV at h_2; omega))) (idx_p (by have h_1 := p194; unfold TOL at h_1; have h_2 := p200; unfold FST at h_2; omega))⟩)))⟩) [8, 3, 0, 6, 1, 4, 5, 2, 9, 7] (by decide) rfl (Nat.le_of_ble_eq_true rfl) (Nat.le_of_ble_eq_true rfl)
  · skip
    have k231 : ¬ ((Int32.toInt z1) < 0) := fun h_9 => c2 ((fa_lt z1 0).mpr h_9)
    refine r_lload_n 6 1 C dX1_takePrivate_6 rfl ?_
    refine r_aload_n 7 0 C dX1_takePrivate_7 rfl ?_
    refine r_get 8 C dX1_takePrivate_8 (k := 2) 0 rfl rfl hiX1 (by decide) rfl (mg 1 rfl) (Or.inl rfl) rfl ?_
    refine r_callVi 11 C dX1_takePrivate_11 [.long y0] [(h3, .inr (4, [.ref h9, .int x8]))] [(h0, .inr (1, [.ref h1, .ref h2, .ref h3, .int x0, .long y2, .long y3, .int x1, .int x2, .long y4, .long y5])), (h1, .inr (2, [.ref h4, .int x3, .int x4, .ref h5, .ref h6, .ref h7])), (h2, .inr (3, [.ref h3, .ref h10, .ref h8, .ref h11, .int x5, .int x6, .int x7])), (h4, .inl (gI g, 48, .inl fn0)), (h5, .inl (gI g, 6, .inl fn1)), (h6, .inl (gI g, 6, .inl fn2)), (h7, .inl (gI g, 6, .inl fn3)), (h8, .inr (7, [.ref h3, .ref h12, .ref h13, .int x9, .int x10, .int x11])), (h9, .inl (gB g, 1500, .inl fn4))] (fun sz => c0_X5_size l g h3 h9 x8 i_x8 sz) gX1_takePrivate_X5_size rfl ⟨rfl, rfl⟩ 0 (by decide) ⟨Nat.le_of_ble_eq_true rfl, Nat.le_of_ble_eq_true rfl⟩ 3 rfl rfl [3] [0, 1, 2, 4, 5, 6, 7, 8, 9] rfl rfl (by decide) (by decide) (by decide) rfl rfl (Nat.le_of_ble_eq_true rfl) ⟨Nat.le_of_ble_eq_true rfl, Nat.le_of_ble_eq_true rfl⟩ (fun r232 _ w233 => ?_)
    refine r_ws [(h0, .inr (1, [.ref h1, .ref h2, .ref h3, .int x0, .long y2, .long y3, .int x1, .int x2, .long y4, .long y5])), (h1, .inr (2, [.ref h4, .int x3, .int x4, .ref h5, .ref h6, .ref h7])), (h2, .inr (3, [.ref h3, .ref h10, .ref h8, .ref h11, .int x5, .int x6, .int x7])), (h4, .inl (gI g, 48, .inl fn0)), (h5, .inl (gI g, 6, .inl fn1)), (h6, .inl (gI g, 6, .inl fn2)), (h7, .inl (gI g, 6, .inl fn3)), (h8, .inr (7, [.ref h3, .ref h12, .ref h13, .int x9, .int x10, .int x11])), (h9, .inl (gB g, 1500, .inl fn4)), (h3, .inr (4, [.ref h9, .int x8]))] rfl ?_
    have p234 : x8 = r232 := (w233).symm
    subst p234
    obtain ⟨z235, ez235⟩ : ∃ z_9, Int32.toInt64 x8 = z_9 := ⟨_, rfl⟩
    have tz235 : (Int64.toInt z235) = (Int32.toInt x8) := by rw [← ez235]; exact Int32.toInt_toInt64 _
    refine r_i2l 14 z235 C dX1_takePrivate_14 ez235 ?_
    obtain ⟨z236, ez236⟩ : ∃ z_9, lg_cmp y0 z235 = z_9 := ⟨_, rfl⟩
    have l1z236 : (Int32.toInt z236) < 0 ↔ (Int64.toInt y0) < (Int64.toInt z235) := by rw [← ez236]; exact lgI1 y0 z235
    have l2z236 : 0 < (Int32.toInt z236) ↔ (Int64.toInt z235) < (Int64.toInt y0) := by rw [← ez236]; exact lgI2 y0 z235
    refine r_lcmp 15 z236 C dX1_takePrivate_15 ez236 ?_
    refine r_if_le 16 24 C dX1_takePrivate_16 (by decide) (fun c237 => ?_) (fun c237 => ?_)
    · skip
      have k238 : (Int32.toInt z236) ≤ 0 := (fa_le z236 0).mp c237
      refine r_aload_n 24 0 C dX1_takePrivate_24 rfl ?_
      refine r_lload_n 25 2 C dX1_takePrivate_25 rfl ?_
      refine r_lconst 26 0 C dX1_takePrivate_26 (by decide) ?_
      obtain ⟨z239, ez239⟩ : ∃ z_9, lg_cmp y1 0 = z_9 := ⟨_, rfl⟩
      have l1z239 : (Int32.toInt z239) < 0 ↔ (Int64.toInt y1) < 0 := by rw [← ez239]; exact lgI1 y1 0
      have l2z239 : 0 < (Int32.toInt z239) ↔ 0 < (Int64.toInt y1) := by rw [← ez239]; exact lgI2 y1 0
      refine r_lcmp 27 z239 C dX1_takePrivate_27 ez239 ?_
      refine r_if_lt 28 35 C dX1_takePrivate_28 (by decide) (fun c240 => ?_) (fun c240 => ?_)
      · skip
        have k241 : (Int32.toInt z239) < 0 := (fa_lt z239 0).mp c240
        refine r_iconst 35 0 C dX1_takePrivate_35 (by decide) ?_
        refine r_callVv 36 C dX1_takePrivate_36 [] [(h0, .inr (1, [.ref h1, .ref h2, .ref h3, .int x0, .long y2, .long y3, .int x1, .int x2, .long y4, .long y5]))] [(h1, .inr (2, [.ref h4, .int x3, .int x4, .ref h5, .ref h6, .ref h7])), (h2, .inr (3, [.ref h3, .ref h10, .ref h8, .ref h11, .int x5, .int x6, .int x7])), (h4, .inl (gI g, 48, .inl fn0)), (h5, .inl (gI g, 6, .inl fn1)), (h6, .inl (gI g, 6, .inl fn2)), (h7, .inl (gI g, 6, .inl fn3)), (h8, .inr (7, [.ref h3, .ref h12, .ref h13, .int x9, .int x10, .int x11])), (h9, .inl (gB g, 1500, .inl fn4)), (h3, .inr (4, [.ref h9, .int x8]))] (fun sz => c53_X1_want l g h0 0 h1 h2 h3 x0 y2 y3 x1 x2 y4 y5 (by decide) i_x0 i_y2 i_x1 i_x2 i_y4 i_y5 sz) gX1_takePrivate_X1_want rfl ⟨rfl, rfl⟩ 1 (by decide) ⟨Nat.le_of_ble_eq_true rfl, Nat.le_of_ble_eq_true rfl⟩ 0 rfl rfl [0] [1, 2, 3, 4, 5, 6, 7, 8, 9] rfl rfl (by decide) (by decide) (by decide) rfl rfl (Nat.le_of_ble_eq_true rfl) ⟨Nat.le_of_ble_eq_true rfl, Nat.le_of_ble_eq_true rfl⟩ (fun  z242 w243 => ?_)
        refine r_ws [(h1, .inr (2, [.ref h4, .int x3, .int x4, .ref h5, .ref h6, .ref h7])), (h2, .inr (3, [.ref h3, .ref h10, .ref h8, .ref h11, .int x5, .int x6, .int x7])), (h4, .inl (gI g, 48, .inl fn0)), (h5, .inl (gI g, 6, .inl fn1)), (h6, .inl (gI g, 6, .inl fn2)), (h7, .inl (gI g, 6, .inl fn3)), (h8, .inr (7, [.ref h3, .ref h12, .ref h13, .int x9, .int x10, .int x11])), (h9, .inl (gB g, 1500, .inl fn4)), (h3, .inr (4, [.ref h9, .int x8])), (h0, .inr (1, [.ref h1, .ref h2, .ref h3, .int z242, .long y2, .long y3, .int x1, .int x2, .long y4, .long y5]))] rfl ?_
        have p244 : 0 ≤ (Int32.toInt z242) := w243.1
        have p245 : (Int32.toInt z242) ≤ 2 := w243.2.1
        have p246 : WNT (0 : Int) (Int32.toInt x0) (Int32.toInt z242) := w243.2.2.1
        have p247 : (((0 : Int) = 1 ∧ (Int32.toInt z242) = (Int32.toInt x0)) ∨ ((0 : Int) = 0 ∧ 1 ≤ (Int32.toInt z242))) := w243.2.2.2
        clear p247
        refine r_aload_n 39 0 C dX1_takePrivate_39 rfl ?_
        refine r_lload_n 40 1 C dX1_takePrivate_40 rfl ?_
        refine r_lload_n 41 1 C dX1_takePrivate_41 rfl ?_
        refine r_lload_n 42 2 C dX1_takePrivate_42 rfl ?_
        obtain ⟨z248, ez248⟩ : ∃ z_9, y0 + y1 = z_9 := ⟨_, rfl⟩
        have tz248 : (Int64.toInt z248) = (Int64.toInt y0) + (Int64.toInt y1) := by rw [← ez248]; exact fb_addLv (a := (-2147483648)) (b := 2147483647) (c := (-2147483648)) (d := 2147483647) i_y0 i_y1 (by decide) (by decide)
        refine r_ladd 43 z248 C dX1_takePrivate_43 ez248 ?_
        refine r_callVv 44 C dX1_takePrivate_44 [] [(h0, .inr (1, [.ref h1, .ref h2, .ref h3, .int z242, .long y2, .long y3, .int x1, .int x2, .long y4, .long y5])), (h1, .inr (2, [.ref h4, .int x3, .int x4, .ref h5, .ref h6, .ref h7])), (h3, .inr (4, [.ref h9, .int x8])), (h4, .inl (gI g, 48, .inl fn0)), (h5, .inl (gI g, 6, .inl fn1)), (h6, .inl (gI g, 6, .inl fn2)), (h7, .inl (gI g, 6, .inl fn3)), (h9, .inl (gB g, 1500, .inl fn4))] [(h2, .inr (3, [.ref h3, .ref h10, .ref h8, .ref h11, .int x5, .int x6, .int x7])), (h8, .inr (7, [.ref h3, .ref h12, .ref h13, .int x9, .int x10, .int x11]))] (fun sz => c73_X1_takeDict l g h0 h1 h3 h4 h5 h6 h7 h9 y0 z248 h2 z242 y2 y3 x1 x2 y4 y5 x3 x4 x8 fn0 fn1 fn2 fn3 fn4 (iv_wide (c := (-8589934592)) (d := 8589934592) i_y0 (by decide) (by decide)) ⟨p244, p245⟩ i_y2 i_x1 i_x2 i_y4 i_y5 i_x3 i_x4 i_x8 (by show (¬ ((Int32.toInt z242) = 0) ∨ 0 ≤ (Int64.toInt y0)); first | assumption | omega) sz) gX1_takePrivate_X1_takeDict rfl ⟨rfl, rfl⟩ 2 (by decide) ⟨Nat.le_of_ble_eq_true rfl, Nat.le_of_ble_eq_true rfl⟩ 9 rfl rfl [9, 0, 8, 2, 3, 4, 5, 7] [1, 6] rfl rfl (by decide) (by decide) (by decide) rfl rfl (Nat.le_of_ble_eq_true rfl) ⟨Nat.le_of_ble_eq_true rfl, Nat.le_of_ble_eq_true rfl⟩ (fun  u258 w257 => ?_)
        obtain ⟨z249, z250, z251, z252, f253, f254, f255, f256⟩ := u258
        refine r_ws [(h2, .inr (3, [.ref h3, .ref h10, .ref h8, .ref h11, .int x5, .int x6, .int x7])), (h8, .inr (7, [.ref h3, .ref h12, .ref h13, .int x9, .int x10, .int x11])), (h0, .inr (1, [.ref h1, .ref h2, .ref h3, .int z249, .long z250, .long 9223372036854775807, .int x1, .int x2, .long y4, .long y5])), (h1, .inr (2, [.ref h4, .int z251, .int z252, .ref h5, .ref h6, .ref h7])), (h3, .inr (4, [.ref h9, .int x8])), (h4, .inl (gI g, 48, .inl f253)), (h5, .inl (gI g, 6, .inl f254)), (h6, .inl (gI g, 6, .inl f255)), (h7, .inl (gI g, 6, .inl f256)), (h9, .inl (gB g, 1500, .inl fn4))] rfl ?_
        have p259 : 0 ≤ (Int32.toInt z249) := w257.1
        have p260 : (Int32.toInt z249) ≤ 2 := w257.2.1
        have p261 : -8589934592 ≤ (Int64.toInt z250) := w257.2.2.1
        have p262 : (Int64.toInt z250) ≤ 8589934592 := w257.2.2.2.1
        have p263 : 0 ≤ (Int32.toInt z251) := w257.2.2.2.2.1
        have p264 : (Int32.toInt z251) ≤ 48 := w257.2.2.2.2.2.1
        have p265 : 0 ≤ (Int32.toInt z252) := w257.2.2.2.2.2.2.1
        have p266 : (Int32.toInt z252) ≤ 1 := w257.2.2.2.2.2.2.2.1
        have p267 : SEQ (Int32.toInt z242) (Int32.toInt z249) (DICB (GB fn4 (Int32.toInt x8)) (Int32.toInt x8) (Int64.toInt y0) (Int64.toInt z248)) (fun S => S = (SC f254 f255 f256)) := w257.2.2.2.2.2.2.2.2
        refine r_aload_n 47 0 C dX1_takePrivate_47 rfl ?_
        refine r_aload_n 48 0 C dX1_takePrivate_48 rfl ?_
        refine r_get 49 C dX1_takePrivate_49 (k := 0) 2 rfl rfl hiX1 (by decide) rfl (mg 2 rfl) (Or.inl rfl) rfl ?_
        refine r_bipush 52 19 C dX1_takePrivate_52 (by decide) ?_
        refine r_iconst 54 1 C dX1_takePrivate_54 (by decide) ?_
        refine r_callVi 55 C dX1_takePrivate_55 [.ref h0] [(h1, .inr (2, [.ref h4, .int z251, .int z252, .ref h5, .ref h6, .ref h7])), (h5, .inl (gI g, 6, .inl f254))] [(h2, .inr (3, [.ref h3, .ref h10, .ref h8, .ref h11, .int x5, .int x6, .int x7])), (h8, .inr (7, [.ref h3, .ref h12, .ref h13, .int x9, .int x10, .int x11])), (h0, .inr (1, [.ref h1, .ref h2, .ref h3, .int z249, .long z250, .long 9223372036854775807, .int x1, .int x2, .long y4, .long y5])), (h3, .inr (4, [.ref h9, .int x8])), (h4, .inl (gI g, 48, .inl f253)), (h6, .inl (gI g, 6, .inl f255)), (h7, .inl (gI g, 6, .inl f256)), (h9, .inl (gB g, 1500, .inl fn4))] (fun sz => c89_X2_fits l g h1 h5 1 h4 z251 z252 h6 h7 f254 ⟨p263, p264⟩ ⟨p265, p266⟩ sz) gX1_takePrivate_X2_fits rfl ⟨rfl, rfl⟩ 2 (by decide) ⟨Nat.le_of_ble_eq_true rfl, Nat.le_of_ble_eq_true rfl⟩ 3 rfl rfl [3, 6] [0, 1, 2, 4, 5, 7, 8, 9] rfl rfl (by decide) (by decide) (by decide) rfl rfl (Nat.le_of_ble_eq_true rfl) ⟨Nat.le_of_ble_eq_true rfl, Nat.le_of_ble_eq_true rfl⟩ (fun r268 _ w269 => ?_)
        refine r_ws [(h2, .inr (3, [.ref h3, .ref h10, .ref h8, .ref h11, .int x5, .int x6, .int x7])), (h8, .inr (7, [.ref h3, .ref h12, .ref h13, .int x9, .int x10, .int x11])), (h0, .inr (1, [.ref h1, .ref h2, .ref h3, .int z249, .long z250, .long 9223372036854775807, .int x1, .int x2, .long y4, .long y5])), (h3, .inr (4, [.ref h9, .int x8])), (h4, .inl (gI g, 48, .inl f253)), (h6, .inl (gI g, 6, .inl f255)), (h7, .inl (gI g, 6, .inl f256)), (h9, .inl (gB g, 1500, .inl fn4)), (h1, .inr (2, [.ref h4, .int z251, .int z252, .ref h5, .ref h6, .ref h7])), (h5, .inl (gI g, 6, .inl f254))] rfl ?_
        have p270 : 0 ≤ (Int32.toInt r268) := w269.1
        have p271 : (Int32.toInt r268) ≤ 1 := w269.2.1
        have p272 : FTS (Int32.toInt r268) (Int32.toInt (f254 (Int32.toNatClampNeg 3))) (1 : Int) := w269.2.2
        refine r_callVv 58 C dX1_takePrivate_58 [] [(h0, .inr (1, [.ref h1, .ref h2, .ref h3, .int z249, .long z250, .long 9223372036854775807, .int x1, .int x2, .long y4, .long y5]))] [(h2, .inr (3, [.ref h3, .ref h10, .ref h8, .ref h11, .int x5, .int x6, .int x7])), (h8, .inr (7, [.ref h3, .ref h12, .ref h13, .int x9, .int x10, .int x11])), (h3, .inr (4, [.ref h9, .int x8])), (h4, .inl (gI g, 48, .inl f253)), (h6, .inl (gI g, 6, .inl f255)), (h7, .inl (gI g, 6, .inl f256)), (h9, .inl (gB g, 1500, .inl fn4)), (h1, .inr (2, [.ref h4, .int z251, .int z252, .ref h5, .ref h6, .ref h7])), (h5, .inl (gI g, 6, .inl f254))] (fun sz => c53_X1_want l g h0 r268 h1 h2 h3 z249 z250 9223372036854775807 x1 x2 y4 y5 ⟨p270, p271⟩ ⟨p259, p260⟩ ⟨p261, p262⟩ i_x1 i_x2 i_y4 i_y5 sz) gX1_takePrivate_X1_want rfl ⟨rfl, rfl⟩ 1 (by decide) ⟨Nat.le_of_ble_eq_true rfl, Nat.le_of_ble_eq_true rfl⟩ 2 rfl rfl [2] [0, 1, 3, 4, 5, 6, 7, 8, 9] rfl rfl (by decide) (by decide) (by decide) rfl rfl (Nat.le_of_ble_eq_true rfl) ⟨Nat.le_of_ble_eq_true rfl, Nat.le_of_ble_eq_true rfl⟩ (fun  z273 w274 => ?_)
        refine r_ws [(h2, .inr (3, [.ref h3, .ref h10, .ref h8, .ref h11, .int x5, .int x6, .int x7])), (h8, .inr (7, [.ref h3, .ref h12, .ref h13, .int x9, .int x10, .int x11])), (h3, .inr (4, [.ref h9, .int x8])), (h4, .inl (gI g, 48, .inl f253)), (h6, .inl (gI g, 6, .inl f255)), (h7, .inl (gI g, 6, .inl f256)), (h9, .inl (gB g, 1500, .inl fn4)), (h1, .inr (2, [.ref h4, .int z251, .int z252, .ref h5, .ref h6, .ref h7])), (h5, .inl (gI g, 6, .inl f254)), (h0, .inr (1, [.ref h1, .ref h2, .ref h3, .int z273, .long z250, .long 9223372036854775807, .int x1, .int x2, .long y4, .long y5]))] rfl ?_
        have p275 : 0 ≤ (Int32.toInt z273) := w274.1
        have p276 : (Int32.toInt z273) ≤ 2 := w274.2.1
        have p277 : WNT (Int32.toInt r268) (Int32.toInt z249) (Int32.toInt z273) := w274.2.2.1
        have p278 : (((Int32.toInt r268) = 1 ∧ (Int32.toInt z273) = (Int32.toInt z249)) ∨ ((Int32.toInt r268) = 0 ∧ 1 ≤ (Int32.toInt z273))) := w274.2.2.2
        clear p278
        refine r_aload_n 61 0 C dX1_takePrivate_61 rfl ?_
        refine r_aload_n 62 0 C dX1_takePrivate_62 rfl ?_
        refine r_get 63 C dX1_takePrivate_63 (k := 0) 9 rfl rfl hiX1 (by decide) rfl (mg 2 rfl) (Or.inl rfl) rfl ?_
        refine r_bipush 66 20 C dX1_takePrivate_66 (by decide) ?_
        refine r_iconst 68 1 C dX1_takePrivate_68 (by decide) ?_
        refine r_callVi 69 C dX1_takePrivate_69 [.ref h0] [(h1, .inr (2, [.ref h4, .int z251, .int z252, .ref h5, .ref h6, .ref h7])), (h5, .inl (gI g, 6, .inl f254))] [(h2, .inr (3, [.ref h3, .ref h10, .ref h8, .ref h11, .int x5, .int x6, .int x7])), (h8, .inr (7, [.ref h3, .ref h12, .ref h13, .int x9, .int x10, .int x11])), (h3, .inr (4, [.ref h9, .int x8])), (h4, .inl (gI g, 48, .inl f253)), (h6, .inl (gI g, 6, .inl f255)), (h7, .inl (gI g, 6, .inl f256)), (h9, .inl (gB g, 1500, .inl fn4)), (h0, .inr (1, [.ref h1, .ref h2, .ref h3, .int z273, .long z250, .long 9223372036854775807, .int x1, .int x2, .long y4, .long y5]))] (fun sz => c91_X2_fits l g h1 h5 1 h4 z251 z252 h6 h7 f254 ⟨p263, p264⟩ ⟨p265, p266⟩ sz) gX1_takePrivate_X2_fits rfl ⟨rfl, rfl⟩ 2 (by decide) ⟨Nat.le_of_ble_eq_true rfl, Nat.le_of_ble_eq_true rfl⟩ 7 rfl rfl [7, 8] [0, 1, 2, 3, 4, 5, 6, 9] rfl rfl (by decide) (by decide) (by decide) rfl rfl (Nat.le_of_ble_eq_true rfl) ⟨Nat.le_of_ble_eq_true rfl, Nat.le_of_ble_eq_true rfl⟩ (fun r279 _ w280 => ?_)
        refine r_ws [(h2, .inr (3, [.ref h3, .ref h10, .ref h8, .ref h11, .int x5, .int x6, .int x7])), (h8, .inr (7, [.ref h3, .ref h12, .ref h13, .int x9, .int x10, .int x11])), (h3, .inr (4, [.ref h9, .int x8])), (h4, .inl (gI g, 48, .inl f253)), (h6, .inl (gI g, 6, .inl f255)), (h7, .inl (gI g, 6, .inl f256)), (h9, .inl (gB g, 1500, .inl fn4)), (h0, .inr (1, [.ref h1, .ref h2, .ref h3, .int z273, .long z250, .long 9223372036854775807, .int x1, .int x2, .long y4, .long y5])), (h1, .inr (2, [.ref h4, .int z251, .int z252, .ref h5, .ref h6, .ref h7])), (h5, .inl (gI g, 6, .inl f254))] rfl ?_
        have p281 : 0 ≤ (Int32.toInt r279) := w280.1
        have p282 : (Int32.toInt r279) ≤ 1 := w280.2.1
        have p283 : FTS (Int32.toInt r279) (Int32.toInt (f254 (Int32.toNatClampNeg 4))) (1 : Int) := w280.2.2
        refine r_callVv 72 C dX1_takePrivate_72 [] [(h0, .inr (1, [.ref h1, .ref h2, .ref h3, .int z273, .long z250, .long 9223372036854775807, .int x1, .int x2, .long y4, .long y5]))] [(h2, .inr (3, [.ref h3, .ref h10, .ref h8, .ref h11, .int x5, .int x6, .int x7])), (h8, .inr (7, [.ref h3, .ref h12, .ref h13, .int x9, .int x10, .int x11])), (h3, .inr (4, [.ref h9, .int x8])), (h4, .inl (gI g, 48, .inl f253)), (h6, .inl (gI g, 6, .inl f255)), (h7, .inl (gI g, 6, .inl f256)), (h9, .inl (gB g, 1500, .inl fn4)), (h1, .inr (2, [.ref h4, .int z251, .int z252, .ref h5, .ref h6, .ref h7])), (h5, .inl (gI g, 6, .inl f254))] (fun sz => c53_X1_want l g h0 r279 h1 h2 h3 z273 z250 9223372036854775807 x1 x2 y4 y5 ⟨p281, p282⟩ ⟨p275, p276⟩ ⟨p261, p262⟩ i_x1 i_x2 i_y4 i_y5 sz) gX1_takePrivate_X1_want rfl ⟨rfl, rfl⟩ 1 (by decide) ⟨Nat.le_of_ble_eq_true rfl, Nat.le_of_ble_eq_true rfl⟩ 7 rfl rfl [7] [0, 1, 2, 3, 4, 5, 6, 8, 9] rfl rfl (by decide) (by decide) (by decide) rfl rfl (Nat.le_of_ble_eq_true rfl) ⟨Nat.le_of_ble_eq_true rfl, Nat.le_of_ble_eq_true rfl⟩ (fun  z284 w285 => ?_)
        refine r_ws [(h2, .inr (3, [.ref h3, .ref h10, .ref h8, .ref h11, .int x5, .int x6, .int x7])), (h8, .inr (7, [.ref h3, .ref h12, .ref h13, .int x9, .int x10, .int x11])), (h3, .inr (4, [.ref h9, .int x8])), (h4, .inl (gI g, 48, .inl f253)), (h6, .inl (gI g, 6, .inl f255)), (h7, .inl (gI g, 6, .inl f256)), (h9, .inl (gB g, 1500, .inl fn4)), (h1, .inr (2, [.ref h4, .int z251, .int z252, .ref h5, .ref h6, .ref h7])), (h5, .inl (gI g, 6, .inl f254)), (h0, .inr (1, [.ref h1, .ref h2, .ref h3, .int z284, .long z250, .long 9223372036854775807, .int x1, .int x2, .long y4, .long y5]))] rfl ?_
        have p286 : 0 ≤ (Int32.toInt z284) := w285.1
        have p287 : (Int32.toInt z284) ≤ 2 := w285.2.1
        have p288 : WNT (Int32.toInt r279) (Int32.toInt z273) (Int32.toInt z284) := w285.2.2.1
        have p289 : (((Int32.toInt r279) = 1 ∧ (Int32.toInt z284) = (Int32.toInt z273)) ∨ ((Int32.toInt r279) = 0 ∧ 1 ≤ (Int32.toInt z284))) := w285.2.2.2
        clear p289
        refine r_aload_n 75 0 C dX1_takePrivate_75 rfl ?_
        refine r_aload_n 76 0 C dX1_takePrivate_76 rfl ?_
        refine r_get 77 C dX1_takePrivate_77 (k := 0) 9 rfl rfl hiX1 (by decide) rfl (mg 2 rfl) (Or.inl rfl) rfl ?_
        refine r_bipush 80 21 C dX1_takePrivate_80 (by decide) ?_
        refine r_iconst 82 1 C dX1_takePrivate_82 (by decide) ?_
        refine r_callVi 83 C dX1_takePrivate_83 [.ref h0] [(h1, .inr (2, [.ref h4, .int z251, .int z252, .ref h5, .ref h6, .ref h7])), (h5, .inl (gI g, 6, .inl f254))] [(h2, .inr (3, [.ref h3, .ref h10, .ref h8, .ref h11, .int x5, .int x6, .int x7])), (h8, .inr (7, [.ref h3, .ref h12, .ref h13, .int x9, .int x10, .int x11])), (h3, .inr (4, [.ref h9, .int x8])), (h4, .inl (gI g, 48, .inl f253)), (h6, .inl (gI g, 6, .inl f255)), (h7, .inl (gI g, 6, .inl f256)), (h9, .inl (gB g, 1500, .inl fn4)), (h0, .inr (1, [.ref h1, .ref h2, .ref h3, .int z284, .long z250, .long 9223372036854775807, .int x1, .int x2, .long y4, .long y5]))] (fun sz => c93_X2_fits l g h1 h5 1 h4 z251 z252 h6 h7 f254 ⟨p263, p264⟩ ⟨p265, p266⟩ sz) gX1_takePrivate_X2_fits rfl ⟨rfl, rfl⟩ 2 (by decide) ⟨Nat.le_of_ble_eq_true rfl, Nat.le_of_ble_eq_true rfl⟩ 7 rfl rfl [7, 8] [0, 1, 2, 3, 4, 5, 6, 9] rfl rfl (by decide) (by decide) (by decide) rfl rfl (Nat.le_of_ble_eq_true rfl) ⟨Nat.le_of_ble_eq_true rfl, Nat.le_of_ble_eq_true rfl⟩ (fun r290 _ w291 => ?_)
        refine r_ws [(h2, .inr (3, [.ref h3, .ref h10, .ref h8, .ref h11, .int x5, .int x6, .int x7])), (h8, .inr (7, [.ref h3, .ref h12, .ref h13, .int x9, .int x10, .int x11])), (h3, .inr (4, [.ref h9, .int x8])), (h4, .inl (gI g, 48, .inl f253)), (h6, .inl (gI g, 6, .inl f255)), (h7, .inl (gI g, 6, .inl f256)), (h9, .inl (gB g, 1500, .inl fn4)), (h0, .inr (1, [.ref h1, .ref h2, .ref h3, .int z284, .long z250, .long 9223372036854775807, .int x1, .int x2, .long y4, .long y5])), (h1, .inr (2, [.ref h4, .int z251, .int z252, .ref h5, .ref h6, .ref h7])), (h5, .inl (gI g, 6, .inl f254))] rfl ?_
        have p292 : 0 ≤ (Int32.toInt r290) := w291.1
        have p293 : (Int32.toInt r290) ≤ 1 := w291.2.1
        have p294 : FTS (Int32.toInt r290) (Int32.toInt (f254 (Int32.toNatClampNeg 5))) (1 : Int) := w291.2.2
        refine r_callVv 86 C dX1_takePrivate_86 [] [(h0, .inr (1, [.ref h1, .ref h2, .ref h3, .int z284, .long z250, .long 9223372036854775807, .int x1, .int x2, .long y4, .long y5]))] [(h2, .inr (3, [.ref h3, .ref h10, .ref h8, .ref h11, .int x5, .int x6, .int x7])), (h8, .inr (7, [.ref h3, .ref h12, .ref h13, .int x9, .int x10, .int x11])), (h3, .inr (4, [.ref h9, .int x8])), (h4, .inl (gI g, 48, .inl f253)), (h6, .inl (gI g, 6, .inl f255)), (h7, .inl (gI g, 6, .inl f256)), (h9, .inl (gB g, 1500, .inl fn4)), (h1, .inr (2, [.ref h4, .int z251, .int z252, .ref h5, .ref h6, .ref h7])), (h5, .inl (gI g, 6, .inl f254))] (fun sz => c53_X1_want l g h0 r290 h1 h2 h3 z284 z250 9223372036854775807 x1 x2 y4 y5 ⟨p292, p293⟩ ⟨p286, p287⟩ ⟨p261, p262⟩ i_x1 i_x2 i_y4 i_y5 sz) gX1_takePrivate_X1_want rfl ⟨rfl, rfl⟩ 1 (by decide) ⟨Nat.le_of_ble_eq_true rfl, Nat.le_of_ble_eq_true rfl⟩ 7 rfl rfl [7] [0, 1, 2, 3, 4, 5, 6, 8, 9] rfl rfl (by decide) (by decide) (by decide) rfl rfl (Nat.le_of_ble_eq_true rfl) ⟨Nat.le_of_ble_eq_true rfl, Nat.le_of_ble_eq_true rfl⟩ (fun  z295 w296 => ?_)
        refine r_ws [(h2, .inr (3, [.ref h3, .ref h10, .ref h8, .ref h11, .int x5, .int x6, .int x7])), (h8, .inr (7, [.ref h3, .ref h12, .ref h13, .int x9, .int x10, .int x11])), (h3, .inr (4, [.ref h9, .int x8])), (h4, .inl (gI g, 48, .inl f253)), (h6, .inl (gI g, 6, .inl f255)), (h7, .inl (gI g, 6, .inl f256)), (h9, .inl (gB g, 1500, .inl fn4)), (h1, .inr (2, [.ref h4, .int z251, .int z252, .ref h5, .ref h6, .ref h7])), (h5, .inl (gI g, 6, .inl f254)), (h0, .inr (1, [.ref h1, .ref h2, .ref h3, .int z295, .long z250, .long 9223372036854775807, .int x1, .int x2, .long y4, .long y5]))] rfl ?_
        have p297 : 0 ≤ (Int32.toInt z295) := w296.1
        have p298 : (Int32.toInt z295) ≤ 2 := w296.2.1
        have p299 : WNT (Int32.toInt r290) (Int32.toInt z284) (Int32.toInt z295) := w296.2.2.1
        have p300 : (((Int32.toInt r290) = 1 ∧ (Int32.toInt z295) = (Int32.toInt z284)) ∨ ((Int32.toInt r290) = 0 ∧ 1 ≤ (Int32.toInt z295))) := w296.2.2.2
        clear p300
        refine r_aload_n 89 0 C dX1_takePrivate_89 rfl ?_
        refine r_get 90 C dX1_takePrivate_90 (k := 1) 9 rfl rfl hiX1 (by decide) rfl (mg 3 rfl) (Or.inl rfl) rfl ?_
        refine r_aload_n 93 0 C dX1_takePrivate_93 rfl ?_
        refine r_get 94 C dX1_takePrivate_94 (k := 0) 9 rfl rfl hiX1 (by decide) rfl (mg 2 rfl) (Or.inl rfl) rfl ?_
        refine r_bipush 97 20 C dX1_takePrivate_97 (by decide) ?_
        refine r_callVi 99 C dX1_takePrivate_99 [.ref h2] [(h1, .inr (2, [.ref h4, .int z251, .int z252, .ref h5, .ref h6, .ref h7])), (h5, .inl (gI g, 6, .inl f254)), (h6, .inl (gI g, 6, .inl f255))] [(h2, .inr (3, [.ref h3, .ref h10, .ref h8, .ref h11, .int x5, .int x6, .int x7])), (h8, .inr (7, [.ref h3, .ref h12, .ref h13, .int x9, .int x10, .int x11])), (h3, .inr (4, [.ref h9, .int x8])), (h4, .inl (gI g, 48, .inl f253)), (h7, .inl (gI g, 6, .inl f256)), (h9, .inl (gB g, 1500, .inl fn4)), (h0, .inr (1, [.ref h1, .ref h2, .ref h3, .int z295, .long z250, .long 9223372036854775807, .int x1, .int x2, .long y4, .long y5]))] (fun sz => c95_X2_first l g h1 h5 h6 h4 z251 z252 h7 f254 f255 ⟨p263, p264⟩ ⟨p265, p266⟩ sz) gX1_takePrivate_X2_first rfl ⟨rfl, rfl⟩ 1 (by decide) ⟨Nat.le_of_ble_eq_true rfl, Nat.le_of_ble_eq_true rfl⟩ 7 rfl rfl [7, 8, 4] [0, 1, 2, 3, 5, 6, 9] rfl rfl (by decide) (by decide) (by decide) rfl rfl (Nat.le_of_ble_eq_true rfl) ⟨Nat.le_of_ble_eq_true rfl, Nat.le_of_ble_eq_true rfl⟩ (fun r301 _ w302 => ?_)
        refine r_ws [(h2, .inr (3, [.ref h3, .ref h10, .ref h8, .ref h11, .int x5, .int x6, .int x7])), (h8, .inr (7, [.ref h3, .ref h12, .ref h13, .int x9, .int x10, .int x11])), (h3, .inr (4, [.ref h9, .int x8])), (h4, .inl (gI g, 48, .inl f253)), (h7, .inl (gI g, 6, .inl f256)), (h9, .inl (gB g, 1500, .inl fn4)), (h0, .inr (1, [.ref h1, .ref h2, .ref h3, .int z295, .long z250, .long 9223372036854775807, .int x1, .int x2, .long y4, .long y5])), (h1, .inr (2, [.ref h4, .int z251, .int z252, .ref h5, .ref h6, .ref h7])), (h5, .inl (gI g, 6, .inl f254)), (h6, .inl (gI g, 6, .inl f255))] rfl ?_
        have p303 : FST (Int32.toInt r301) (Int32.toInt (f254 (Int32.toNatClampNeg 4))) (Int32.toInt (f255 (Int32.toNatClampNeg 4))) := w302
        have gr301 := fb_rng r301
        refine r_putN 102 C dX1_takePrivate_102 (k := 5) 0 rfl rfl hiX3 tyX3 tyX3_ok nmX3 (by decide) rfl (mg 11 rfl) rfl rfl rfl rfl rfl (Nat.le_of_ble_eq_true rfl) [(h2, .inr (3, [.ref h3, .ref h10, .ref h8, .ref h11, .int x5, .int r301, .int x7])), (h8, .inr (7, [.ref h3, .ref h12, .ref h13, .int x9, .int x10, .int x11])), (h3, .inr (4, [.ref h9, .int x8])), (h4, .inl (gI g, 48, .inl f253)), (h7, .inl (gI g, 6, .inl f256)), (h9, .inl (gB g, 1500, .inl fn4)), (h0, .inr (1, [.ref h1, .ref h2, .ref h3, .int z295, .long z250, .long 9223372036854775807, .int x1, .int x2, .long y4, .long y5])), (h1, .inr (2, [.ref h4, .int z251, .int z252, .ref h5, .ref h6, .ref h7])), (h5, .inl (gI g, 6, .inl f254)), (h6, .inl (gI g, 6, .inl f255))] rfl ?_
        refine r_aload_n 105 0 C dX1_takePrivate_105 rfl ?_
        refine r_get 106 C dX1_takePrivate_106 (k := 1) 6 rfl rfl hiX1 (by decide) rfl (mg 3 rfl) (Or.inl rfl) rfl ?_
        refine r_aload_n 109 0 C dX1_takePrivate_109 rfl ?_
        refine r_get 110 C dX1_takePrivate_110 (k := 0) 6 rfl rfl hiX1 (by decide) rfl (mg 2 rfl) (Or.inl rfl) rfl ?_
        refine r_bipush 113 21 C dX1_takePrivate_113 (by decide) ?_
        refine r_callVi 115 C dX1_takePrivate_115 [.ref h2] [(h1, .inr (2, [.ref h4, .int z251, .int z252, .ref h5, .ref h6, .ref h7])), (h5, .inl (gI g, 6, .inl f254)), (h6, .inl (gI g, 6, .inl f255))] [(h2, .inr (3, [.ref h3, .ref h10, .ref h8, .ref h11, .int x5, .int r301, .int x7])), (h8, .inr (7, [.ref h3, .ref h12, .ref h13, .int x9, .int x10, .int x11])), (h3, .inr (4, [.ref h9, .int x8])), (h4, .inl (gI g, 48, .inl f253)), (h7, .inl (gI g, 6, .inl f256)), (h9, .inl (gB g, 1500, .inl fn4)), (h0, .inr (1, [.ref h1, .ref h2, .ref h3, .int z295, .long z250, .long 9223372036854775807, .int x1, .int x2, .long y4, .long y5]))] (fun sz => c97_X2_first l g h1 h5 h6 h4 z251 z252 h7 f254 f255 ⟨p263, p264⟩ ⟨p265, p266⟩ sz) gX1_takePrivate_X2_first rfl ⟨rfl, rfl⟩ 1 (by decide) ⟨Nat.le_of_ble_eq_true rfl, Nat.le_of_ble_eq_true rfl⟩ 7 rfl rfl [7, 8, 9] [0, 1, 2, 3, 4, 5, 6] rfl rfl (by decide) (by decide) (by decide) rfl rfl (Nat.le_of_ble_eq_true rfl) ⟨Nat.le_of_ble_eq_true rfl, Nat.le_of_ble_eq_true rfl⟩ (fun r304 _ w305 => ?_)
        refine r_ws [(h2, .inr (3, [.ref h3, .ref h10, .ref h8, .ref h11, .int x5, .int r301, .int x7])), (h8, .inr (7, [.ref h3, .ref h12, .ref h13, .int x9, .int x10, .int x11])), (h3, .inr (4, [.ref h9, .int x8])), (h4, .inl (gI g, 48, .inl f253)), (h7, .inl (gI g, 6, .inl f256)), (h9, .inl (gB g, 1500, .inl fn4)), (h0, .inr (1, [.ref h1, .ref h2, .ref h3, .int z295, .long z250, .long 9223372036854775807, .int x1, .int x2, .long y4, .long y5])), (h1, .inr (2, [.ref h4, .int z251, .int z252, .ref h5, .ref h6, .ref h7])), (h5, .inl (gI g, 6, .inl f254)), (h6, .inl (gI g, 6, .inl f255))] rfl ?_
        have p306 : FST (Int32.toInt r304) (Int32.toInt (f254 (Int32.toNatClampNeg 5))) (Int32.toInt (f255 (Int32.toNatClampNeg 5))) := w305
        have gr304 := fb_rng r304
        refine r_putN 118 C dX1_takePrivate_118 (k := 6) 0 rfl rfl hiX3 tyX3 tyX3_ok nmX3 (by decide) rfl (mg 12 rfl) rfl rfl rfl rfl rfl (Nat.le_of_ble_eq_true rfl) [(h2, .inr (3, [.ref h3, .ref h10, .ref h8, .ref h11, .int x5, .int r301, .int r304])), (h8, .inr (7, [.ref h3, .ref h12, .ref h13, .int x9, .int x10, .int x11])), (h3, .inr (4, [.ref h9, .int x8])), (h4, .inl (gI g, 48, .inl f253)), (h7, .inl (gI g, 6, .inl f256)), (h9, .inl (gB g, 1500, .inl fn4)), (h0, .inr (1, [.ref h1, .ref h2, .ref h3, .int z295, .long z250, .long 9223372036854775807, .int x1, .int x2, .long y4, .long y5])), (h1, .inr (2, [.ref h4, .int z251, .int z252, .ref h5, .ref h6, .ref h7])), (h5, .inl (gI g, 6, .inl f254)), (h6, .inl (gI g, 6, .inl f255))] rfl ?_
        refine r_aload_n 121 0 C dX1_takePrivate_121 rfl ?_
        refine r_get 122 C dX1_takePrivate_122 (k := 3) 6 rfl rfl hiX1 (by decide) rfl (mg 4 rfl) (Or.inl rfl) rfl ?_
        refine r_if_ne 125 174 C dX1_takePrivate_125 (by decide) (fun c307 => ?_) (fun c307 => ?_)
        · skip
          have k308 : ¬ ((Int32.toInt z295) = 0) := fun h_9 => c307 ((fa_eq z295 0).mpr h_9)
          exact r_vret 174 Rt dX1_takePrivate_174 (z295, z250, x1, x2, y4, y5, z251, z252, r301, r304, f253, f254, f255, f256, x9, x10, x11) (show 0 ≤ (Int32.toInt z295) ∧ (Int32.toInt z295) ≤ 2 ∧ -8589934592 ≤ (Int64.toInt z250) ∧ (Int64.toInt z250) ≤ 8589934592 ∧ -257 ≤ (Int32.toInt x1) ∧ (Int32.toInt x1) ≤ 65535 ∧ -1 ≤ (Int32.toInt x2) ∧ (Int32.toInt x2) ≤ 255 ∧ -8589934592 ≤ (Int64.toInt y4) ∧ (Int64.toInt y4) ≤ 8589934592 ∧ -8589934592 ≤ (Int64.toInt y5) ∧ (Int64.toInt y5) ≤ 8589934592 ∧ 0 ≤ (Int32.toInt z251) ∧ (Int32.toInt z251) ≤ 48 ∧ 0 ≤ (Int32.toInt z252) ∧ (Int32.toInt z252) ≤ 1 ∧ SEQ (Int32.toInt x0) (Int32.toInt z295) (PRIV (GB fn4 (Int32.toInt x8)) (Int32.toInt x8) (Int64.toInt y0) (Int64.toInt y1)) (fun q => q = ((Int32.toInt x9), (Int32.toInt r301), (Int32.toInt r304))) from ⟨(show _ ∧ _ from ⟨p297, p298⟩).1, (show _ ∧ _ from ⟨p297, p298⟩).2, (show _ ∧ _ from ⟨p261, p262⟩).1, (show _ ∧ _ from ⟨p261, p262⟩).2, i_x1.1, i_x1.2, i_x2.1, i_x2.2, i_y4.1, i_y4.2, i_y5.1, i_y5.2, (show _ ∧ _ from ⟨p263, p264⟩).1, (show _ ∧ _ from ⟨p263, p264⟩).2, (show _ ∧ _ from ⟨p265, p266⟩).1, (show _ ∧ _ from ⟨p265, p266⟩).2, (by exact priv_end (by omega) p246 (by omega) (by omega) p267 p277 p288 p299 (by have h_1 := p272; unfold FTS at h_1; omega) (by have h_1 := p283; unfold FTS at h_1; omega) (by have h_1 := p294; unfold FTS at h_1; omega) (by have h_1 := p303; unfold FST at h_1; omega) (by have h_1 := p306; unfold FST at h_1; omega) (by first | exact Or.inl ⟨by omega, by omega⟩ | exact Or.inr (Or.inl ⟨by omega, (by omega), by omega, by omega⟩)))⟩) [6, 7, 0, 2, 3, 8, 9, 4, 1, 5] (by decide) rfl (Nat.le_of_ble_eq_true rfl) (Nat.le_of_ble_eq_true rfl)
        · skip
          have k309 : (Int32.toInt z295) = 0 := (fa_eq z295 0).mp c307
          refine r_aload_n 128 0 C dX1_takePrivate_128 rfl ?_
          refine r_get 129 C dX1_takePrivate_129 (k := 0) 6 rfl rfl hiX1 (by decide) rfl (mg 2 rfl) (Or.inl rfl) rfl ?_
          refine r_bipush 132 19 C dX1_takePrivate_132 (by decide) ?_
          refine r_callVi 134 C dX1_takePrivate_134 [] [(h1, .inr (2, [.ref h4, .int z251, .int z252, .ref h5, .ref h6, .ref h7])), (h5, .inl (gI g, 6, .inl f254))] [(h2, .inr (3, [.ref h3, .ref h10, .ref h8, .ref h11, .int x5, .int r301, .int r304])), (h8, .inr (7, [.ref h3, .ref h12, .ref h13, .int x9, .int x10, .int x11])), (h3, .inr (4, [.ref h9, .int x8])), (h4, .inl (gI g, 48, .inl f253)), (h7, .inl (gI g, 6, .inl f256)), (h9, .inl (gB g, 1500, .inl fn4)), (h0, .inr (1, [.ref h1, .ref h2, .ref h3, .int z295, .long z250, .long 9223372036854775807, .int x1, .int x2, .long y4, .long y5])), (h6, .inl (gI g, 6, .inl f255))] (fun sz => c98_X2_isTold l g h1 h5 h4 z251 z252 h6 h7 f254 ⟨p263, p264⟩ ⟨p265, p266⟩ sz) gX1_takePrivate_X2_isTold rfl ⟨rfl, rfl⟩ 1 (by decide) ⟨Nat.le_of_ble_eq_true rfl, Nat.le_of_ble_eq_true rfl⟩ 7 rfl rfl [7, 8] [0, 1, 2, 3, 4, 5, 6, 9] rfl rfl (by decide) (by decide) (by decide) rfl rfl (Nat.le_of_ble_eq_true rfl) ⟨Nat.le_of_ble_eq_true rfl, Nat.le_of_ble_eq_true rfl⟩ (fun r310 _ w311 => ?_)
          refine r_ws [(h2, .inr (3, [.ref h3, .ref h10, .ref h8, .ref h11, .int x5, .int r301, .int r304])), (h8, .inr (7, [.ref h3, .ref h12, .ref h13, .int x9, .int x10, .int x11])), (h3, .inr (4, [.ref h9, .int x8])), (h4, .inl (gI g, 48, .inl f253)), (h7, .inl (gI g, 6, .inl f256)), (h9, .inl (gB g, 1500, .inl fn4)), (h0, .inr (1, [.ref h1, .ref h2, .ref h3, .int z295, .long z250, .long 9223372036854775807, .int x1, .int x2, .long y4, .long y5])), (h6, .inl (gI g, 6, .inl f255)), (h1, .inr (2, [.ref h4, .int z251, .int z252, .ref h5, .ref h6, .ref h7])), (h5, .inl (gI g, 6, .inl f254))] rfl ?_
          have p312 : 0 ≤ (Int32.toInt r310) := w311.1
          have p313 : (Int32.toInt r310) ≤ 1 := w311.2.1
          have p314 : TOL (Int32.toInt r310) (Int32.toInt (f254 (Int32.toNatClampNeg 3))) := w311.2.2
          refine r_if_eq 137 174 C dX1_takePrivate_137 (by decide) (fun c315 => ?_) (fun c315 => ?_)
          · skip
            have k316 : (Int32.toInt r310) = 0 := (fa_eq r310 0).mp c315
            exact r_vret 174 Rt dX1_takePrivate_174 (z295, z250, x1, x2, y4, y5, z251, z252, r301, r304, f253, f254, f255, f256, x9, x10, x11) (show 0 ≤ (Int32.toInt z295) ∧ (Int32.toInt z295) ≤ 2 ∧ -8589934592 ≤ (Int64.toInt z250) ∧ (Int64.toInt z250) ≤ 8589934592 ∧ -257 ≤ (Int32.toInt x1) ∧ (Int32.toInt x1) ≤ 65535 ∧ -1 ≤ (Int32.toInt x2) ∧ (Int32.toInt x2) ≤ 255 ∧ -8589934592 ≤ (Int64.toInt y4) ∧ (Int64.toInt y4) ≤ 8589934592 ∧ -8589934592 ≤ (Int64.toInt y5) ∧ (Int64.toInt y5) ≤ 8589934592 ∧ 0 ≤ (Int32.toInt z251) ∧ (Int32.toInt z251) ≤ 48 ∧ 0 ≤ (Int32.toInt z252) ∧ (Int32.toInt z252) ≤ 1 ∧ SEQ (Int32.toInt x0) (Int32.toInt z295) (PRIV (GB fn4 (Int32.toInt x8)) (Int32.toInt x8) (Int64.toInt y0) (Int64.toInt y1)) (fun q => q = ((Int32.toInt x9), (Int32.toInt r301), (Int32.toInt r304))) from ⟨(show _ ∧ _ from ⟨p297, p298⟩).1, (show _ ∧ _ from ⟨p297, p298⟩).2, (show _ ∧ _ from ⟨p261, p262⟩).1, (show _ ∧ _ from ⟨p261, p262⟩).2, i_x1.1, i_x1.2, i_x2.1, i_x2.2, i_y4.1, i_y4.2, i_y5.1, i_y5.2, (show _ ∧ _ from ⟨p263, p264⟩).1, (show _ ∧ _ from ⟨p263, p264⟩).2, (show _ ∧ _ from ⟨p265, p266⟩).1, (show _ ∧ _ from ⟨p265, p266⟩).2, (by exact priv_end (by omega) p246 (by omega) (by omega) p267 p277 p288 p299 (by have h_1 := p272; unfold FTS at h_1; omega) (by have h_1 := p283; unfold FTS at h_1; omega) (by have h_1 := p294; unfold FTS at h_1; omega) (by have h_1 := p303; unfold FST at h_1; omega) (by have h_1 := p306; unfold FST at h_1; omega) (by first | exact Or.inl ⟨by omega, by omega⟩ | exact Or.inr (Or.inl ⟨by omega, (by have h_1 := p314; unfold TOL at h_1; omega), by omega, by omega⟩)))⟩) [6, 8, 0, 2, 3, 9, 7, 4, 1, 5] (by decide) rfl (Nat.le_of_ble_eq_true rfl) (Nat.le_of_ble_eq_true rfl)
          · skip
            have k317 : ¬ ((Int32.toInt r310) = 0) := fun h_9 => c315 ((fa_eq r310 0).mpr h_9)
            refine r_aload_n 140 0 C dX1_takePrivate_140 rfl ?_
            refine r_lload_n 141 1 C dX1_takePrivate_141 rfl ?_
            refine r_aload_n 142 0 C dX1_takePrivate_142 rfl ?_
            refine r_get 143 C dX1_takePrivate_143 (k := 0) 6 rfl rfl hiX1 (by decide) rfl (mg 2 rfl) (Or.inl rfl) rfl ?_
            refine r_bipush 146 19 C dX1_takePrivate_146 (by decide) ?_
            refine r_callVi 148 C dX1_takePrivate_148 [.long y0, .ref h0] [(h1, .inr (2, [.ref h4, .int z251, .int z252, .ref h5, .ref h6, .ref h7])), (h5, .inl (gI g, 6, .inl f254)), (h6, .inl (gI g, 6, .inl f255))] [(h2, .inr (3, [.ref h3, .ref h10, .ref h8, .ref h11, .int x5, .int r301, .int r304])), (h8, .inr (7, [.ref h3, .ref h12, .ref h13, .int x9, .int x10, .int x11])), (h3, .inr (4, [.ref h9, .int x8])), (h4, .inl (gI g, 48, .inl f253)), (h7, .inl (gI g, 6, .inl f256)), (h9, .inl (gB g, 1500, .inl fn4)), (h0, .inr (1, [.ref h1, .ref h2, .ref h3, .int z295, .long z250, .long 9223372036854775807, .int x1, .int x2, .long y4, .long y5]))] (fun sz => c99_X2_first l g h1 h5 h6 h4 z251 z252 h7 f254 f255 ⟨p263, p264⟩ ⟨p265, p266⟩ sz) gX1_takePrivate_X2_first rfl ⟨rfl, rfl⟩ 1 (by decide) ⟨Nat.le_of_ble_eq_true rfl, Nat.le_of_ble_eq_true rfl⟩ 8 rfl rfl [8, 9, 7] [0, 1, 2, 3, 4, 5, 6] rfl rfl (by decide) (by decide) (by decide) rfl rfl (Nat.le_of_ble_eq_true rfl) ⟨Nat.le_of_ble_eq_true rfl, Nat.le_of_ble_eq_true rfl⟩ (fun r318 _ w319 => ?_)
            refine r_ws [(h2, .inr (3, [.ref h3, .ref h10, .ref h8, .ref h11, .int x5, .int r301, .int r304])), (h8, .inr (7, [.ref h3, .ref h12, .ref h13, .int x9, .int x10, .int x11])), (h3, .inr (4, [.ref h9, .int x8])), (h4, .inl (gI g, 48, .inl f253)), (h7, .inl (gI g, 6, .inl f256)), (h9, .inl (gB g, 1500, .inl fn4)), (h0, .inr (1, [.ref h1, .ref h2, .ref h3, .int z295, .long z250, .long 9223372036854775807, .int x1, .int x2, .long y4, .long y5])), (h1, .inr (2, [.ref h4, .int z251, .int z252, .ref h5, .ref h6, .ref h7])), (h5, .inl (gI g, 6, .inl f254)), (h6, .inl (gI g, 6, .inl f255))] rfl ?_
            have p320 : FST (Int32.toInt r318) (Int32.toInt (f254 (Int32.toNatClampNeg 3))) (Int32.toInt (f255 (Int32.toNatClampNeg 3))) := w319
            have gr318 := fb_rng r318
            obtain ⟨z321, ez321⟩ : ∃ z_9, Int32.toInt64 r318 = z_9 := ⟨_, rfl⟩
            have tz321 : (Int64.toInt z321) = (Int32.toInt r318) := by rw [← ez321]; exact Int32.toInt_toInt64 _
            refine r_i2l 151 z321 C dX1_takePrivate_151 ez321 ?_
            obtain ⟨z322, ez322⟩ : ∃ z_9, y0 + z321 = z_9 := ⟨_, rfl⟩
            have tz322 : (Int64.toInt z322) = (Int64.toInt y0) + (Int64.toInt z321) := by rw [← ez322]; exact fb_addL (by show -9223372036854775808 ≤ (Int64.toInt y0) + (Int64.toInt z321); omega) (by show (Int64.toInt y0) + (Int64.toInt z321) < 9223372036854775808; omega)
            refine r_ladd 152 z322 C dX1_takePrivate_152 ez322 ?_
            refine r_put 153 C dX1_takePrivate_153 (k := 4) 6 rfl rfl hiX1 tyX1 tyX1_ok nmX1 (by decide) rfl (mg 5 rfl) (Or.inl rfl) rfl rfl rfl rfl (Nat.le_of_ble_eq_true rfl) [(h2, .inr (3, [.ref h3, .ref h10, .ref h8, .ref h11, .int x5, .int r301, .int r304])), (h8, .inr (7, [.ref h3, .ref h12, .ref h13, .int x9, .int x10, .int x11])), (h3, .inr (4, [.ref h9, .int x8])), (h4, .inl (gI g, 48, .inl f253)), (h7, .inl (gI g, 6, .inl f256)), (h9, .inl (gB g, 1500, .inl fn4)), (h0, .inr (1, [.ref h1, .ref h2, .ref h3, .int z295, .long z322, .long 9223372036854775807, .int x1, .int x2, .long y4, .long y5])), (h1, .inr (2, [.ref h4, .int z251, .int z252, .ref h5, .ref h6, .ref h7])), (h5, .inl (gI g, 6, .inl f254)), (h6, .inl (gI g, 6, .inl f255))] rfl ?_
            refine r_aload_n 156 0 C dX1_takePrivate_156 rfl ?_
            refine r_iconst 157 0 C dX1_takePrivate_157 (by decide) ?_
            refine r_ldc 158 65535 C dX1_takePrivate_158 (mg 6 rfl) ?_
            refine r_callVv 160 C dX1_takePrivate_160 [] [(h0, .inr (1, [.ref h1, .ref h2, .ref h3, .int z295, .long z322, .long 9223372036854775807, .int x1, .int x2, .long y4, .long y5])), (h3, .inr (4, [.ref h9, .int x8])), (h9, .inl (gB g, 1500, .inl fn4))] [(h2, .inr (3, [.ref h3, .ref h10, .ref h8, .ref h11, .int x5, .int r301, .int r304])), (h8, .inr (7, [.ref h3, .ref h12, .ref h13, .int x9, .int x10, .int x11])), (h4, .inl (gI g, 48, .inl f253)), (h7, .inl (gI g, 6, .inl f256)), (h1, .inr (2, [.ref h4, .int z251, .int z252, .ref h5, .ref h6, .ref h7])), (h5, .inl (gI g, 6, .inl f254)), (h6, .inl (gI g, 6, .inl f255))] (fun sz => c57_X1_takeIndex l g h0 h3 h9 0 65535 h1 h2 z295 z322 9223372036854775807 x1 x2 y4 y5 x8 fn4 ⟨p297, p298⟩ ⟨by omega, by omega⟩ i_x1 i_x2 i_y4 i_y5 i_x8 (by show ((Int32.toInt x8) ≤ (9223372036854775807 : Int)); first | assumption | omega) sz) gX1_takePrivate_X1_takeIndex rfl ⟨rfl, rfl⟩ 2 (by decide) ⟨Nat.le_of_ble_eq_true rfl, Nat.le_of_ble_eq_true rfl⟩ 6 rfl rfl [6, 2, 5] [0, 1, 3, 4, 7, 8, 9] rfl rfl (by decide) (by decide) (by decide) rfl rfl (Nat.le_of_ble_eq_true rfl) ⟨Nat.le_of_ble_eq_true rfl, Nat.le_of_ble_eq_true rfl⟩ (fun  u330 w329 => ?_)
            obtain ⟨z323, z324, z325, z326, z327, z328⟩ := u330
            refine r_ws [(h2, .inr (3, [.ref h3, .ref h10, .ref h8, .ref h11, .int x5, .int r301, .int r304])), (h8, .inr (7, [.ref h3, .ref h12, .ref h13, .int x9, .int x10, .int x11])), (h4, .inl (gI g, 48, .inl f253)), (h7, .inl (gI g, 6, .inl f256)), (h1, .inr (2, [.ref h4, .int z251, .int z252, .ref h5, .ref h6, .ref h7])), (h5, .inl (gI g, 6, .inl f254)), (h6, .inl (gI g, 6, .inl f255)), (h0, .inr (1, [.ref h1, .ref h2, .ref h3, .int z323, .long z324, .long 9223372036854775807, .int z325, .int z326, .long z327, .long z328])), (h3, .inr (4, [.ref h9, .int x8])), (h9, .inl (gB g, 1500, .inl fn4))] rfl ?_
            have p331 : 0 ≤ (Int32.toInt z323) := w329.1
            have p332 : (Int32.toInt z323) ≤ 2 := w329.2.1
            have p333 : -8589934592 ≤ (Int64.toInt z324) := w329.2.2.1
            have p334 : (Int64.toInt z324) ≤ 8589934592 := w329.2.2.2.1
            have p335 : -257 ≤ (Int32.toInt z325) := w329.2.2.2.2.1
            have p336 : (Int32.toInt z325) ≤ 65535 := w329.2.2.2.2.2.1
            have p337 : -1 ≤ (Int32.toInt z326) := w329.2.2.2.2.2.2.1
            have p338 : (Int32.toInt z326) ≤ 255 := w329.2.2.2.2.2.2.2.1
            have p339 : -8589934592 ≤ (Int64.toInt z327) := w329.2.2.2.2.2.2.2.2.1
            have p340 : (Int64.toInt z327) ≤ 8589934592 := w329.2.2.2.2.2.2.2.2.2.1
            have p341 : -8589934592 ≤ (Int64.toInt z328) := w329.2.2.2.2.2.2.2.2.2.2.1
            have p342 : (Int64.toInt z328) ≤ 8589934592 := w329.2.2.2.2.2.2.2.2.2.2.2.1
            have p343 : SEQ (Int32.toInt z295) (Int32.toInt z323) (IDX (GB fn4 (Int32.toInt x8)) (Int32.toInt x8) (Int64.toInt z322) (0 : Int) (65535 : Int)) (IXR (Int32.toInt z325) (Int64.toInt z324) (Int32.toInt z326) (Int64.toInt z327) (Int64.toInt z328) (Int64.toInt z322)) := w329.2.2.2.2.2.2.2.2.2.2.2.2.1
            have p344 : IXN (Int32.toInt z295) (Int32.toInt z323) (0 : Int) (65535 : Int) (Int32.toInt z325) (Int64.toInt z328) := w329.2.2.2.2.2.2.2.2.2.2.2.2.2
            refine r_aload_n 163 0 C dX1_takePrivate_163 rfl ?_
            refine r_aload_n 164 0 C dX1_takePrivate_164 rfl ?_
            refine r_get 165 C dX1_takePrivate_165 (k := 1) 7 rfl rfl hiX1 (by decide) rfl (mg 3 rfl) (Or.inl rfl) rfl ?_
            refine r_getN 168 C dX1_takePrivate_168 (k := 2) 0 rfl rfl hiX3 (by decide) rfl (mg 13 rfl) rfl rfl ?_
            refine r_callVv 171 C dX1_takePrivate_171 [] [(h0, .inr (1, [.ref h1, .ref h2, .ref h3, .int z323, .long z324, .long 9223372036854775807, .int z325, .int z326, .long z327, .long z328])), (h8, .inr (7, [.ref h3, .ref h12, .ref h13, .int x9, .int x10, .int x11]))] [(h2, .inr (3, [.ref h3, .ref h10, .ref h8, .ref h11, .int x5, .int r301, .int r304])), (h4, .inl (gI g, 48, .inl f253)), (h7, .inl (gI g, 6, .inl f256)), (h1, .inr (2, [.ref h4, .int z251, .int z252, .ref h5, .ref h6, .ref h7])), (h5, .inl (gI g, 6, .inl f254)), (h6, .inl (gI g, 6, .inl f255)), (h3, .inr (4, [.ref h9, .int x8])), (h9, .inl (gB g, 1500, .inl fn4))] (fun sz => c59_X1_shelve l g h0 h8 h1 h2 h3 z323 z324 9223372036854775807 z325 z326 z327 z328 h12 h13 x9 x10 x11 ⟨p331, p332⟩ ⟨p333, p334⟩ ⟨p335, p336⟩ ⟨p337, p338⟩ ⟨p339, p340⟩ ⟨p341, p342⟩ sz) gX1_takePrivate_X1_shelve rfl ⟨rfl, rfl⟩ 1 (by decide) ⟨Nat.le_of_ble_eq_true rfl, Nat.le_of_ble_eq_true rfl⟩ 7 rfl rfl [7, 1] [0, 2, 3, 4, 5, 6, 8, 9] rfl rfl (by decide) (by decide) (by decide) rfl rfl (Nat.le_of_ble_eq_true rfl) ⟨Nat.le_of_ble_eq_true rfl, Nat.le_of_ble_eq_true rfl⟩ (fun  u349 w348 => ?_)
            obtain ⟨z345, z346, z347⟩ := u349
            refine r_ws [(h2, .inr (3, [.ref h3, .ref h10, .ref h8, .ref h11, .int x5, .int r301, .int r304])), (h4, .inl (gI g, 48, .inl f253)), (h7, .inl (gI g, 6, .inl f256)), (h1, .inr (2, [.ref h4, .int z251, .int z252, .ref h5, .ref h6, .ref h7])), (h5, .inl (gI g, 6, .inl f254)), (h6, .inl (gI g, 6, .inl f255)), (h3, .inr (4, [.ref h9, .int x8])), (h9, .inl (gB g, 1500, .inl fn4)), (h0, .inr (1, [.ref h1, .ref h2, .ref h3, .int z323, .long z324, .long 9223372036854775807, .int z325, .int z326, .long z327, .long z328])), (h8, .inr (7, [.ref h3, .ref h12, .ref h13, .int z345, .int z346, .int z347]))] rfl ?_
            have gz345 := fb_rng z345
            have gz346 := fb_rng z346
            have gz347 := fb_rng z347
            have p350 : SHV (Int32.toInt z323) (Int32.toInt z325) (Int32.toInt x9) (Int32.toInt z345) := w348
            exact r_vret 174 Rt dX1_takePrivate_174 (z323, z324, z325, z326, z327, z328, z251, z252, r301, r304, f253, f254, f255, f256, z345, z346, z347) (show 0 ≤ (Int32.toInt z323) ∧ (Int32.toInt z323) ≤ 2 ∧ -8589934592 ≤ (Int64.toInt z324) ∧ (Int64.toInt z324) ≤ 8589934592 ∧ -257 ≤ (Int32.toInt z325) ∧ (Int32.toInt z325) ≤ 65535 ∧ -1 ≤ (Int32.toInt z326) ∧ (Int32.toInt z326) ≤ 255 ∧ -8589934592 ≤ (Int64.toInt z327) ∧ (Int64.toInt z327) ≤ 8589934592 ∧ -8589934592 ≤ (Int64.toInt z328) ∧ (Int64.toInt z328) ≤ 8589934592 ∧ 0 ≤ (Int32.toInt z251) ∧ (Int32.toInt z251) ≤ 48 ∧ 0 ≤ (Int32.toInt z252) ∧ (Int32.toInt z252) ≤ 1 ∧ SEQ (Int32.toInt x0) (Int32.toInt z323) (PRIV (GB fn4 (Int32.toInt x8)) (Int32.toInt x8) (Int64.toInt y0) (Int64.toInt y1)) (fun q => q = ((Int32.toInt z345), (Int32.toInt r301), (Int32.toInt r304))) from ⟨(show _ ∧ _ from ⟨p331, p332⟩).1, (show _ ∧ _ from ⟨p331, p332⟩).2, (show _ ∧ _ from ⟨p333, p334⟩).1, (show _ ∧ _ from ⟨p333, p334⟩).2, (show _ ∧ _ from ⟨p335, p336⟩).1, (show _ ∧ _ from ⟨p335, p336⟩).2, (show _ ∧ _ from ⟨p337, p338⟩).1, (show _ ∧ _ from ⟨p337, p338⟩).2, (show _ ∧ _ from ⟨p339, p340⟩).1, (show _ ∧ _ from ⟨p339, p340⟩).2, (show _ ∧ _ from ⟨p341, p342⟩).1, (show _ ∧ _ from ⟨p341, p342⟩).2, (show _ ∧ _ from ⟨p263, p264⟩).1, (show _ ∧ _ from ⟨p263, p264⟩).2, (show _ ∧ _ from ⟨p265, p266⟩).1, (show _ ∧ _ from ⟨p265, p266⟩).2, (by exact priv_end (by omega) p246 (by omega) (by omega) p267 p277 p288 p299 (by have h_1 := p272; unfold FTS at h_1; omega) (by have h_1 := p283; unfold FTS at h_1; omega) (by have h_1 := p294; unfold FTS at h_1; omega) (by have h_1 := p303; unfold FST at h_1; omega) (by have h_1 := p306; unfold FST at h_1; omega) (Or.inr (Or.inr ⟨(by have h_1 := p314; unfold TOL at h_1; omega), seq_of (ixr_len p343 (fun h_9 => (by have h_1 := p344; unfold IXN at h_1; have h_2 := p350; unfold SHV at h_2; omega))) (idx_p (by have h_1 := p314; unfold TOL at h_1; have h_2 := p320; unfold FST at h_2; omega))⟩)))⟩) [8, 3, 0, 6, 1, 4, 5, 2, 9, 7] (by decide) rfl (Nat.le_of_ble_eq_true rfl) (Nat.le_of_ble_eq_true rfl)
      · skip
        have k351 : ¬ ((Int32.toInt z239) < 0) := fun h_9 => c240 ((fa_lt z239 0).mpr h_9)
        refine r_iconst 31 1 C dX1_takePrivate_31 (by decide) ?_
        refine r_goto 32 36 C dX1_takePrivate_32 (by decide) ?_
        refine r_callVv 36 C dX1_takePrivate_36 [] [(h0, .inr (1, [.ref h1, .ref h2, .ref h3, .int x0, .long y2, .long y3, .int x1, .int x2, .long y4, .long y5]))] [(h1, .inr (2, [.ref h4, .int x3, .int x4, .ref h5, .ref h6, .ref h7])), (h2, .inr (3, [.ref h3, .ref h10, .ref h8, .ref h11, .int x5, .int x6, .int x7])), (h4, .inl (gI g, 48, .inl fn0)), (h5, .inl (gI g, 6, .inl fn1)), (h6, .inl (gI g, 6, .inl fn2)), (h7, .inl (gI g, 6, .inl fn3)), (h8, .inr (7, [.ref h3, .ref h12, .ref h13, .int x9, .int x10, .int x11])), (h9, .inl (gB g, 1500, .inl fn4)), (h3, .inr (4, [.ref h9, .int x8]))] (fun sz => c53_X1_want l g h0 1 h1 h2 h3 x0 y2 y3 x1 x2 y4 y5 (by decide) i_x0 i_y2 i_x1 i_x2 i_y4 i_y5 sz) gX1_takePrivate_X1_want rfl ⟨rfl, rfl⟩ 1 (by decide) ⟨Nat.le_of_ble_eq_true rfl, Nat.le_of_ble_eq_true rfl⟩ 0 rfl rfl [0] [1, 2, 3, 4, 5, 6, 7, 8, 9] rfl rfl (by decide) (by decide) (by decide) rfl rfl (Nat.le_of_ble_eq_true rfl) ⟨Nat.le_of_ble_eq_true rfl, Nat.le_of_ble_eq_true rfl⟩ (fun  z352 w353 => ?_)
        refine r_ws [(h1, .inr (2, [.ref h4, .int x3, .int x4, .ref h5, .ref h6, .ref h7])), (h2, .inr (3, [.ref h3, .ref h10, .ref h8, .ref h11, .int x5, .int x6, .int x7])), (h4, .inl (gI g, 48, .inl fn0)), (h5, .inl (gI g, 6, .inl fn1)), (h6, .inl (gI g, 6, .inl fn2)), (h7, .inl (gI g, 6, .inl fn3)), (h8, .inr (7, [.ref h3, .ref h12, .ref h13, .int x9, .int x10, .int x11])), (h9, .inl (gB g, 1500, .inl fn4)), (h3, .inr (4, [.ref h9, .int x8])), (h0, .inr (1, [.ref h1, .ref h2, .ref h3, .int z352, .long y2, .long y3, .int x1, .int x2, .long y4, .long y5]))] rfl ?_
        have p354 : 0 ≤ (Int32.toInt z352) := w353.1
        have p355 : (Int32.toInt z352) ≤ 2 := w353.2.1
        have p356 : WNT (1 : Int) (Int32.toInt x0) (Int32.toInt z352) := w353.2.2.1
        have p357 : (((1 : Int) = 1 ∧ (Int32.toInt z352) = (Int32.toInt x0)) ∨ ((1 : Int) = 0 ∧ 1 ≤ (Int32.toInt z352))) := w353.2.2.2
        clear p357
        refine r_aload_n 39 0 C dX1_takePrivate_39 rfl ?_
        refine r_lload_n 40 1 C dX1_takePrivate_40 rfl ?_
        refine r_lload_n 41 1 C dX1_takePrivate_41 rfl ?_
        refine r_lload_n 42 2 C dX1_takePrivate_42 rfl ?_
        obtain ⟨z358, ez358⟩ : ∃ z_9, y0 + y1 = z_9 := ⟨_, rfl⟩
        have tz358 : (Int64.toInt z358) = (Int64.toInt y0) + (Int64.toInt y1) := by rw [← ez358]; exact fb_addLv (a := (-2147483648)) (b := 2147483647) (c := (-2147483648)) (d := 2147483647) i_y0 i_y1 (by decide) (by decide)
        refine r_ladd 43 z358 C dX1_takePrivate_43 ez358 ?_
        refine r_callVv 44 C dX1_takePrivate_44 [] [(h0, .inr (1, [.ref h1, .ref h2, .ref h3, .int z352, .long y2, .long y3, .int x1, .int x2, .long y4, .long y5])), (h1, .inr (2, [.ref h4, .int x3, .int x4, .ref h5, .ref h6, .ref h7])), (h3, .inr (4, [.ref h9, .int x8])), (h4, .inl (gI g, 48, .inl fn0)), (h5, .inl (gI g, 6, .inl fn1)), (h6, .inl (gI g, 6, .inl fn2)), (h7, .inl (gI g, 6, .inl fn3)), (h9, .inl (gB g, 1500, .inl fn4))] [(h2, .inr (3, [.ref h3, .ref h10, .ref h8, .ref h11, .int x5, .int x6, .int x7])), (h8, .inr (7, [.ref h3, .ref h12, .ref h13, .int x9, .int x10, .int x11]))] (fun sz => c73_X1_takeDict l g h0 h1 h3 h4 h5 h6 h7 h9 y0 z358 h2 z352 y2 y3 x1 x2 y4 y5 x3 x4 x8 fn0 fn1 fn2 fn3 fn4 (iv_wide (c := (-8589934592)) (d := 8589934592) i_y0 (by decide) (by decide)) ⟨p354, p355⟩ i_y2 i_x1 i_x2 i_y4 i_y5 i_x3 i_x4 i_x8 (by show (¬ ((Int32.toInt z352) = 0) ∨ 0 ≤ (Int64.toInt y0)); first | assumption | omega) sz) gX1_takePrivate_X1_takeDict rfl ⟨rfl, rfl⟩ 2 (by decide) ⟨Nat.le_of_ble_eq_true rfl, Nat.le_of_ble_eq_true rfl⟩ 9 rfl rfl [9, 0, 8, 2, 3, 4, 5, 7] [1, 6] rfl rfl (by decide) (by decide) (by decide) rfl rfl (Nat.le_of_ble_eq_true rfl) ⟨Nat.le_of_ble_eq_true rfl, Nat.le_of_ble_eq_true rfl⟩ (fun  u368 w367 => ?_)
        obtain ⟨z359, z360, z361, z362, f363, f364, f365, f366⟩ := u368
        refine r_ws [(h2, .inr (3, [.ref h3, .ref h10, .ref h8, .ref h11, .int x5, .int x6, .int x7])), (h8, .inr (7, [.ref h3, .ref h12, .ref h13, .int x9, .int x10, .int x11])), (h0, .inr (1, [.ref h1, .ref h2, .ref h3, .int z359, .long z360, .long 9223372036854775807, .int x1, .int x2, .long y4, .long y5])), (h1, .inr (2, [.ref h4, .int z361, .int z362, .ref h5, .ref h6, .ref h7])), (h3, .inr (4, [.ref h9, .int x8])), (h4, .inl (gI g, 48, .inl f363)), (h5, .inl (gI g, 6, .inl f364)), (h6, .inl (gI g, 6, .inl f365)), (h7, .inl (gI g, 6, .inl f366)), (h9, .inl (gB g, 1500, .inl fn4))] rfl ?_
        have p369 : 0 ≤ (Int32.toInt z359) := w367.1
        have p370 : (Int32.toInt z359) ≤ 2 := w367.2.1
        have p371 : -8589934592 ≤ (Int64.toInt z360) := w367.2.2.1
        have p372 : (Int64.toInt z360) ≤ 8589934592 := w367.2.2.2.1
        have p373 : 0 ≤ (Int32.toInt z361) := w367.2.2.2.2.1
        have p374 : (Int32.toInt z361) ≤ 48 := w367.2.2.2.2.2.1
        have p375 : 0 ≤ (Int32.toInt z362) := w367.2.2.2.2.2.2.1
        have p376 : (Int32.toInt z362) ≤ 1 := w367.2.2.2.2.2.2.2.1
        have p377 : SEQ (Int32.toInt z352) (Int32.toInt z359) (DICB (GB fn4 (Int32.toInt x8)) (Int32.toInt x8) (Int64.toInt y0) (Int64.toInt z358)) (fun S => S = (SC f364 f365 f366)) := w367.2.2.2.2.2.2.2.2
        refine r_aload_n 47 0 C dX1_takePrivate_47 rfl ?_
        refine r_aload_n 48 0 C dX1_takePrivate_48 rfl ?_
        refine r_get 49 C dX1_takePrivate_49 (k := 0) 2 rfl rfl hiX1 (by decide) rfl (mg 2 rfl) (Or.inl rfl) rfl ?_
        refine r_bipush 52 19 C dX1_takePrivate_52 (by decide) ?_
        refine r_iconst 54 1 C dX1_takePrivate_54 (by decide) ?_
        refine r_callVi 55 C dX1_takePrivate_55 [.ref h0] [(h1, .inr (2, [.ref h4, .int z361, .int z362, .ref h5, .ref h6, .ref h7])), (h5, .inl (gI g, 6, .inl f364))] [(h2, .inr (3, [.ref h3, .ref h10, .ref h8, .ref h11, .int x5, .int x6, .int x7])), (h8, .inr (7, [.ref h3, .ref h12, .ref h13, .int x9, .int x10, .int x11])), (h0, .inr (1, [.ref h1, .ref h2, .ref h3, .int z359, .long z360, .long 9223372036854775807, .int x1, .int x2, .long y4, .long y5])), (h3, .inr (4, [.ref h9, .int x8])), (h4, .inl (gI g, 48, .inl f363)), (h6, .inl (gI g, 6, .inl f365)), (h7, .inl (gI g, 6, .inl f366)), (h9, .inl (gB g, 1500, .inl fn4))] (fun sz => c89_X2_fits l g h1 h5 1 h4 z361 z362 h6 h7 f364 ⟨p373, p374⟩ ⟨p375, p376⟩ sz) gX1_takePrivate_X2_fits rfl ⟨rfl, rfl⟩ 2 (by decide) ⟨Nat.le_of_ble_eq_true rfl, Nat.le_of_ble_eq_true rfl⟩ 3 rfl rfl [3, 6] [0, 1, 2, 4, 5, 7, 8, 9] rfl rfl (by decide) (by decide) (by decide) rfl rfl (Nat.le_of_ble_eq_true rfl) ⟨Nat.le_of_ble_eq_true rfl, Nat.le_of_ble_eq_true rfl⟩ (fun r378 _ w379 => ?_)
        refine r_ws [(h2, .inr (3, [.ref h3, .ref h10, .ref h8, .ref h11, .int x5, .int x6, .int x7])), (h8, .inr (7, [.ref h3, .ref h12, .ref h13, .int x9, .int x10, .int x11])), (h0, .inr (1, [.ref h1, .ref h2, .ref h3, .int z359, .long z360, .long 9223372036854775807, .int x1, .int x2, .long y4, .long y5])), (h3, .inr (4, [.ref h9, .int x8])), (h4, .inl (gI g, 48, .inl f363)), (h6, .inl (gI g, 6, .inl f365)), (h7, .inl (gI g, 6, .inl f366)), (h9, .inl (gB g, 1500, .inl fn4)), (h1, .inr (2, [.ref h4, .int z361, .int z362, .ref h5, .ref h6, .ref h7])), (h5, .inl (gI g, 6, .inl f364))] rfl ?_
        have p380 : 0 ≤ (Int32.toInt r378) := w379.1
        have p381 : (Int32.toInt r378) ≤ 1 := w379.2.1
        have p382 : FTS (Int32.toInt r378) (Int32.toInt (f364 (Int32.toNatClampNeg 3))) (1 : Int) := w379.2.2
        refine r_callVv 58 C dX1_takePrivate_58 [] [(h0, .inr (1, [.ref h1, .ref h2, .ref h3, .int z359, .long z360, .long 9223372036854775807, .int x1, .int x2, .long y4, .long y5]))] [(h2, .inr (3, [.ref h3, .ref h10, .ref h8, .ref h11, .int x5, .int x6, .int x7])), (h8, .inr (7, [.ref h3, .ref h12, .ref h13, .int x9, .int x10, .int x11])), (h3, .inr (4, [.ref h9, .int x8])), (h4, .inl (gI g, 48, .inl f363)), (h6, .inl (gI g, 6, .inl f365)), (h7, .inl (gI g, 6, .inl f366)), (h9, .inl (gB g, 1500, .inl fn4)), (h1, .inr (2, [.ref h4, .int z361, .int z362, .ref h5, .ref h6, .ref h7])), (h5, .inl (gI g, 6, .inl f364))] (fun sz => c53_X1_want l g h0 r378 h1 h2 h3 z359 z360 9223372036854775807 x1 x2 y4 y5 ⟨p380, p381⟩ ⟨p369, p370⟩ ⟨p371, p372⟩ i_x1 i_x2 i_y4 i_y5 sz) gX1_takePrivate_X1_want rfl ⟨rfl, rfl⟩ 1 (by decide) ⟨Nat.le_of_ble_eq_true rfl, Nat.le_of_ble_eq_true rfl⟩ 2 rfl rfl [2] [0, 1, 3, 4, 5, 6, 7, 8, 9] rfl rfl (by decide) (by decide) (by decide) rfl rfl (Nat.le_of_ble_eq_true rfl) ⟨Nat.le_of_ble_eq_true rfl, Nat.le_of_ble_eq_true rfl⟩ (fun  z383 w384 => ?_)
        refine r_ws [(h2, .inr (3, [.ref h3, .ref h10, .ref h8, .ref h11, .int x5, .int x6, .int x7])), (h8, .inr (7, [.ref h3, .ref h12, .ref h13, .int x9, .int x10, .int x11])), (h3, .inr (4, [.ref h9, .int x8])), (h4, .inl (gI g, 48, .inl f363)), (h6, .inl (gI g, 6, .inl f365)), (h7, .inl (gI g, 6, .inl f366)), (h9, .inl (gB g, 1500, .inl fn4)), (h1, .inr (2, [.ref h4, .int z361, .int z362, .ref h5, .ref h6, .ref h7])), (h5, .inl (gI g, 6, .inl f364)), (h0, .inr (1, [.ref h1, .ref h2, .ref h3, .int z383, .long z360, .long 9223372036854775807, .int x1, .int x2, .long y4, .long y5]))] rfl ?_
        have p385 : 0 ≤ (Int32.toInt z383) := w384.1
        have p386 : (Int32.toInt z383) ≤ 2 := w384.2.1
        have p387 : WNT (Int32.toInt r378) (Int32.toInt z359) (Int32.toInt z383) := w384.2.2.1
        have p388 : (((Int32.toInt r378) = 1 ∧ (Int32.toInt z383) = (Int32.toInt z359)) ∨ ((Int32.toInt r378) = 0 ∧ 1 ≤ (Int32.toInt z383))) := w384.2.2.2
        clear p388
        refine r_aload_n 61 0 C dX1_takePrivate_61 rfl ?_
        refine r_aload_n 62 0 C dX1_takePrivate_62 rfl ?_
        refine r_get 63 C dX1_takePrivate_63 (k := 0) 9 rfl rfl hiX1 (by decide) rfl (mg 2 rfl) (Or.inl rfl) rfl ?_
        refine r_bipush 66 20 C dX1_takePrivate_66 (by decide) ?_
        refine r_iconst 68 1 C dX1_takePrivate_68 (by decide) ?_
        refine r_callVi 69 C dX1_takePrivate_69 [.ref h0] [(h1, .inr (2, [.ref h4, .int z361, .int z362, .ref h5, .ref h6, .ref h7])), (h5, .inl (gI g, 6, .inl f364))] [(h2, .inr (3, [.ref h3, .ref h10, .ref h8, .ref h11, .int x5, .int x6, .int x7])), (h8, .inr (7, [.ref h3, .ref h12, .ref h13, .int x9, .int x10, .int x11])), (h3, .inr (4, [.ref h9, .int x8])), (h4, .inl (gI g, 48, .inl f363)), (h6, .inl (gI g, 6, .inl f365)), (h7, .inl (gI g, 6, .inl f366)), (h9, .inl (gB g, 1500, .inl fn4)), (h0, .inr (1, [.ref h1, .ref h2, .ref h3, .int z383, .long z360, .long 9223372036854775807, .int x1, .int x2, .long y4, .long y5]))] (fun sz => c91_X2_fits l g h1 h5 1 h4 z361 z362 h6 h7 f364 ⟨p373, p374⟩ ⟨p375, p376⟩ sz) gX1_takePrivate_X2_fits rfl ⟨rfl, rfl⟩ 2 (by decide) ⟨Nat.le_of_ble_eq_true rfl, Nat.le_of_ble_eq_true rfl⟩ 7 rfl rfl [7, 8] [0, 1, 2, 3, 4, 5, 6, 9] rfl rfl (by decide) (by decide) (by decide) rfl rfl (Nat.le_of_ble_eq_true rfl) ⟨Nat.le_of_ble_eq_true rfl, Nat.le_of_ble_eq_true rfl⟩ (fun r389 _ w390 => ?_)
        refine r_ws [(h2, .inr (3, [.ref h3, .ref h10, .ref h8, .ref h11, .int x5, .int x6, .int x7])), (h8, .inr (7, [.ref h3, .ref h12, .ref h13, .int x9, .int x10, .int x11])), (h3, .inr (4, [.ref h9, .int x8])), (h4, .inl (gI g, 48, .inl f363)), (h6, .inl (gI g, 6, .inl f365)), (h7, .inl (gI g, 6, .inl f366)), (h9, .inl (gB g, 1500, .inl fn4)), (h0, .inr (1, [.ref h1, .ref h2, .ref h3, .int z383, .long z360, .long 9223372036854775807, .int x1, .int x2, .long y4, .long y5])), (h1, .inr (2, [.ref h4, .int z361, .int z362, .ref h5, .ref h6, .ref h7])), (h5, .inl (gI g, 6, .inl f364))] rfl ?_
        have p391 : 0 ≤ (Int32.toInt r389) := w390.1
        have p392 : (Int32.toInt r389) ≤ 1 := w390.2.1
        have p393 : FTS (Int32.toInt r389) (Int32.toInt (f364 (Int32.toNatClampNeg 4))) (1 : Int) := w390.2.2
        refine r_callVv 72 C dX1_takePrivate_72 [] [(h0, .inr (1, [.ref h1, .ref h2, .ref h3, .int z383, .long z360, .long 9223372036854775807, .int x1, .int x2, .long y4, .long y5]))] [(h2, .inr (3, [.ref h3, .ref h10, .ref h8, .ref h11, .int x5, .int x6, .int x7])), (h8, .inr (7, [.ref h3, .ref h12, .ref h13, .int x9, .int x10, .int x11])), (h3, .inr (4, [.ref h9, .int x8])), (h4, .inl (gI g, 48, .inl f363)), (h6, .inl (gI g, 6, .inl f365)), (h7, .inl (gI g, 6, .inl f366)), (h9, .inl (gB g, 1500, .inl fn4)), (h1, .inr (2, [.ref h4, .int z361, .int z362, .ref h5, .ref h6, .ref h7])), (h5, .inl (gI g, 6, .inl f364))] (fun sz => c53_X1_want l g h0 r389 h1 h2 h3 z383 z360 9223372036854775807 x1 x2 y4 y5 ⟨p391, p392⟩ ⟨p385, p386⟩ ⟨p371, p372⟩ i_x1 i_x2 i_y4 i_y5 sz) gX1_takePrivate_X1_want rfl ⟨rfl, rfl⟩ 1 (by decide) ⟨Nat.le_of_ble_eq_true rfl, Nat.le_of_ble_eq_true rfl⟩ 7 rfl rfl [7] [0, 1, 2, 3, 4, 5, 6, 8, 9] rfl rfl (by decide) (by decide) (by decide) rfl rfl (Nat.le_of_ble_eq_true rfl) ⟨Nat.le_of_ble_eq_true rfl, Nat.le_of_ble_eq_true rfl⟩ (fun  z394 w395 => ?_)
        refine r_ws [(h2, .inr (3, [.ref h3, .ref h10, .ref h8, .ref h11, .int x5, .int x6, .int x7])), (h8, .inr (7, [.ref h3, .ref h12, .ref h13, .int x9, .int x10, .int x11])), (h3, .inr (4, [.ref h9, .int x8])), (h4, .inl (gI g, 48, .inl f363)), (h6, .inl (gI g, 6, .inl f365)), (h7, .inl (gI g, 6, .inl f366)), (h9, .inl (gB g, 1500, .inl fn4)), (h1, .inr (2, [.ref h4, .int z361, .int z362, .ref h5, .ref h6, .ref h7])), (h5, .inl (gI g, 6, .inl f364)), (h0, .inr (1, [.ref h1, .ref h2, .ref h3, .int z394, .long z360, .long 9223372036854775807, .int x1, .int x2, .long y4, .long y5]))] rfl ?_
        have p396 : 0 ≤ (Int32.toInt z394) := w395.1
        have p397 : (Int32.toInt z394) ≤ 2 := w395.2.1
        have p398 : WNT (Int32.toInt r389) (Int32.toInt z383) (Int32.toInt z394) := w395.2.2.1
        have p399 : (((Int32.toInt r389) = 1 ∧ (Int32.toInt z394) = (Int32.toInt z383)) ∨ ((Int32.toInt r389) = 0 ∧ 1 ≤ (Int32.toInt z394))) := w395.2.2.2
        clear p399
        refine r_aload_n 75 0 C dX1_takePrivate_75 rfl ?_
        refine r_aload_n 76 0 C dX1_takePrivate_76 rfl ?_
        refine r_get 77 C dX1_takePrivate_77 (k := 0) 9 rfl rfl hiX1 (by decide) rfl (mg 2 rfl) (Or.inl rfl) rfl ?_
        refine r_bipush 80 21 C dX1_takePrivate_80 (by decide) ?_
        refine r_iconst 82 1 C dX1_takePrivate_82 (by decide) ?_
        refine r_callVi 83 C dX1_takePrivate_83 [.ref h0] [(h1, .inr (2, [.ref h4, .int z361, .int z362, .ref h5, .ref h6, .ref h7])), (h5, .inl (gI g, 6, .inl f364))] [(h2, .inr (3, [.ref h3, .ref h10, .ref h8, .ref h11, .int x5, .int x6, .int x7])), (h8, .inr (7, [.ref h3, .ref h12, .ref h13, .int x9, .int x10, .int x11])), (h3, .inr (4, [.ref h9, .int x8])), (h4, .inl (gI g, 48, .inl f363)), (h6, .inl (gI g, 6, .inl f365)), (h7, .inl (gI g, 6, .inl f366)), (h9, .inl (gB g, 1500, .inl fn4)), (h0, .inr (1, [.ref h1, .ref h2, .ref h3, .int z394, .long z360, .long 9223372036854775807, .int x1, .int x2, .long y4, .long y5]))] (fun sz => c93_X2_fits l g h1 h5 1 h4 z361 z362 h6 h7 f364 ⟨p373, p374⟩ ⟨p375, p376⟩ sz) gX1_takePrivate_X2_fits rfl ⟨rfl, rfl⟩ 2 (by decide) ⟨Nat.le_of_ble_eq_true rfl, Nat.le_of_ble_eq_true rfl⟩ 7 rfl rfl [7, 8] [0, 1, 2, 3, 4, 5, 6, 9] rfl rfl (by decide) (by decide) (by decide) rfl rfl (Nat.le_of_ble_eq_true rfl) ⟨Nat.le_of_ble_eq_true rfl, Nat.le_of_ble_eq_true rfl⟩ (fun r400 _ w401 => ?_)
        refine r_ws [(h2, .inr (3, [.ref h3, .ref h10, .ref h8, .ref h11, .int x5, .int x6, .int x7])), (h8, .inr (7, [.ref h3, .ref h12, .ref h13, .int x9, .int x10, .int x11])), (h3, .inr (4, [.ref h9, .int x8])), (h4, .inl (gI g, 48, .inl f363)), (h6, .inl (gI g, 6, .inl f365)), (h7, .inl (gI g, 6, .inl f366)), (h9, .inl (gB g, 1500, .inl fn4)), (h0, .inr (1, [.ref h1, .ref h2, .ref h3, .int z394, .long z360, .long 9223372036854775807, .int x1, .int x2, .long y4, .long y5])), (h1, .inr (2, [.ref h4, .int z361, .int z362, .ref h5, .ref h6, .ref h7])), (h5, .inl (gI g, 6, .inl f364))] rfl ?_
        have p402 : 0 ≤ (Int32.toInt r400) := w401.1
        have p403 : (Int32.toInt r400) ≤ 1 := w401.2.1
        have p404 : FTS (Int32.toInt r400) (Int32.toInt (f364 (Int32.toNatClampNeg 5))) (1 : Int) := w401.2.2
        refine r_callVv 86 C dX1_takePrivate_86 [] [(h0, .inr (1, [.ref h1, .ref h2, .ref h3, .int z394, .long z360, .long 9223372036854775807, .int x1, .int x2, .long y4, .long y5]))] [(h2, .inr (3, [.ref h3, .ref h10, .ref h8, .ref h11, .int x5, .int x6, .int x7])), (h8, .inr (7, [.ref h3, .ref h12, .ref h13, .int x9, .int x10, .int x11])), (h3, .inr (4, [.ref h9, .int x8])), (h4, .inl (gI g, 48, .inl f363)), (h6, .inl (gI g, 6, .inl f365)), (h7, .inl (gI g, 6, .inl f366)), (h9, .inl (gB g, 1500, .inl fn4)), (h1, .inr (2, [.ref h4, .int z361, .int z362, .ref h5, .ref h6, .ref h7])), (h5, .inl (gI g, 6, .inl f364))] (fun sz => c53_X1_want l g h0 r400 h1 h2 h3 z394 z360 9223372036854775807 x1 x2 y4 y5 ⟨p402, p403⟩ ⟨p396, p397⟩ ⟨p371, p372⟩ i_x1 i_x2 i_y4 i_y5 sz) gX1_takePrivate_X1_want rfl ⟨rfl, rfl⟩ 1 (by decide) ⟨Nat.le_of_ble_eq_true rfl, Nat.le_of_ble_eq_true rfl⟩ 7 rfl rfl [7] [0, 1, 2, 3, 4, 5, 6, 8, 9] rfl rfl (by decide) (by decide) (by decide) rfl rfl (Nat.le_of_ble_eq_true rfl) ⟨Nat.le_of_ble_eq_true rfl, Nat.le_of_ble_eq_true rfl⟩ (fun  z405 w406 => ?_)
        refine r_ws [(h2, .inr (3, [.ref h3, .ref h10, .ref h8, .ref h11, .int x5, .int x6, .int x7])), (h8, .inr (7, [.ref h3, .ref h12, .ref h13, .int x9, .int x10, .int x11])), (h3, .inr (4, [.ref h9, .int x8])), (h4, .inl (gI g, 48, .inl f363)), (h6, .inl (gI g, 6, .inl f365)), (h7, .inl (gI g, 6, .inl f366)), (h9, .inl (gB g, 1500, .inl fn4)), (h1, .inr (2, [.ref h4, .int z361, .int z362, .ref h5, .ref h6, .ref h7])), (h5, .inl (gI g, 6, .inl f364)), (h0, .inr (1, [.ref h1, .ref h2, .ref h3, .int z405, .long z360, .long 9223372036854775807, .int x1, .int x2, .long y4, .long y5]))] rfl ?_
        have p407 : 0 ≤ (Int32.toInt z405) := w406.1
        have p408 : (Int32.toInt z405) ≤ 2 := w406.2.1
        have p409 : WNT (Int32.toInt r400) (Int32.toInt z394) (Int32.toInt z405) := w406.2.2.1
        have p410 : (((Int32.toInt r400) = 1 ∧ (Int32.toInt z405) = (Int32.toInt z394)) ∨ ((Int32.toInt r400) = 0 ∧ 1 ≤ (Int32.toInt z405))) := w406.2.2.2
        clear p410
        refine r_aload_n 89 0 C dX1_takePrivate_89 rfl ?_
        refine r_get 90 C dX1_takePrivate_90 (k := 1) 9 rfl rfl hiX1 (by decide) rfl (mg 3 rfl) (Or.inl rfl) rfl ?_
        refine r_aload_n 93 0 C dX1_takePrivate_93 rfl ?_
        refine r_get 94 C dX1_takePrivate_94 (k := 0) 9 rfl rfl hiX1 (by decide) rfl (mg 2 rfl) (Or.inl rfl) rfl ?_
        refine r_bipush 97 20 C dX1_takePrivate_97 (by decide) ?_
        refine r_callVi 99 C dX1_takePrivate_99 [.ref h2] [(h1, .inr (2, [.ref h4, .int z361, .int z362, .ref h5, .ref h6, .ref h7])), (h5, .inl (gI g, 6, .inl f364)), (h6, .inl (gI g, 6, .inl f365))] [(h2, .inr (3, [.ref h3, .ref h10, .ref h8, .ref h11, .int x5, .int x6, .int x7])), (h8, .inr (7, [.ref h3, .ref h12, .ref h13, .int x9, .int x10, .int x11])), (h3, .inr (4, [.ref h9, .int x8])), (h4, .inl (gI g, 48, .inl f363)), (h7, .inl (gI g, 6, .inl f366)), (h9, .inl (gB g, 1500, .inl fn4)), (h0, .inr (1, [.ref h1, .ref h2, .ref h3, .int z405, .long z360, .long 9223372036854775807, .int x1, .int x2, .long y4, .long y5]))] (fun sz => c95_X2_first l g h1 h5 h6 h4 z361 z362 h7 f364 f365 ⟨p373, p374⟩ ⟨p375, p376⟩ sz) gX1_takePrivate_X2_first rfl ⟨rfl, rfl⟩ 1 (by decide) ⟨Nat.le_of_ble_eq_true rfl, Nat.le_of_ble_eq_true rfl⟩ 7 rfl rfl [7, 8, 4] [0, 1, 2, 3, 5, 6, 9] rfl rfl (by decide) (by decide) (by decide) rfl rfl (Nat.le_of_ble_eq_true rfl) ⟨Nat.le_of_ble_eq_true rfl, Nat.le_of_ble_eq_true rfl⟩ (fun r411 _ w412 => ?_)
        refine r_ws [(h2, .inr (3, [.ref h3, .ref h10, .ref h8, .ref h11, .int x5, .int x6, .int x7])), (h8, .inr (7, [.ref h3, .ref h12, .ref h13, .int x9, .int x10, .int x11])), (h3, .inr (4, [.ref h9, .int x8])), (h4, .inl (gI g, 48, .inl f363)), (h7, .inl (gI g, 6, .inl f366)), (h9, .inl (gB g, 1500, .inl fn4)), (h0, .inr (1, [.ref h1, .ref h2, .ref h3, .int z405, .long z360, .long 9223372036854775807, .int x1, .int x2, .long y4, .long y5])), (h1, .inr (2, [.ref h4, .int z361, .int z362, .ref h5, .ref h6, .ref h7])), (h5, .inl (gI g, 6, .inl f364)), (h6, .inl (gI g, 6, .inl f365))] rfl ?_
        have p413 : FST (Int32.toInt r411) (Int32.toInt (f364 (Int32.toNatClampNeg 4))) (Int32.toInt (f365 (Int32.toNatClampNeg 4))) := w412
        have gr411 := fb_rng r411
        refine r_putN 102 C dX1_takePrivate_102 (k := 5) 0 rfl rfl hiX3 tyX3 tyX3_ok nmX3 (by decide) rfl (mg 11 rfl) rfl rfl rfl rfl rfl (Nat.le_of_ble_eq_true rfl) [(h2, .inr (3, [.ref h3, .ref h10, .ref h8, .ref h11, .int x5, .int r411, .int x7])), (h8, .inr (7, [.ref h3, .ref h12, .ref h13, .int x9, .int x10, .int x11])), (h3, .inr (4, [.ref h9, .int x8])), (h4, .inl (gI g, 48, .inl f363)), (h7, .inl (gI g, 6, .inl f366)), (h9, .inl (gB g, 1500, .inl fn4)), (h0, .inr (1, [.ref h1, .ref h2, .ref h3, .int z405, .long z360, .long 9223372036854775807, .int x1, .int x2, .long y4, .long y5])), (h1, .inr (2, [.ref h4, .int z361, .int z362, .ref h5, .ref h6, .ref h7])), (h5, .inl (gI g, 6, .inl f364)), (h6, .inl (gI g, 6, .inl f365))] rfl ?_
        refine r_aload_n 105 0 C dX1_takePrivate_105 rfl ?_
        refine r_get 106 C dX1_takePrivate_106 (k := 1) 6 rfl rfl hiX1 (by decide) rfl (mg 3 rfl) (Or.inl rfl) rfl ?_
        refine r_aload_n 109 0 C dX1_takePrivate_109 rfl ?_
        refine r_get 110 C dX1_takePrivate_110 (k := 0) 6 rfl rfl hiX1 (by decide) rfl (mg 2 rfl) (Or.inl rfl) rfl ?_
        refine r_bipush 113 21 C dX1_takePrivate_113 (by decide) ?_
        refine r_callVi 115 C dX1_takePrivate_115 [.ref h2] [(h1, .inr (2, [.ref h4, .int z361, .int z362, .ref h5, .ref h6, .ref h7])), (h5, .inl (gI g, 6, .inl f364)), (h6, .inl (gI g, 6, .inl f365))] [(h2, .inr (3, [.ref h3, .ref h10, .ref h8, .ref h11, .int x5, .int r411, .int x7])), (h8, .inr (7, [.ref h3, .ref h12, .ref h13, .int x9, .int x10, .int x11])), (h3, .inr (4, [.ref h9, .int x8])), (h4, .inl (gI g, 48, .inl f363)), (h7, .inl (gI g, 6, .inl f366)), (h9, .inl (gB g, 1500, .inl fn4)), (h0, .inr (1, [.ref h1, .ref h2, .ref h3, .int z405, .long z360, .long 9223372036854775807, .int x1, .int x2, .long y4, .long y5]))] (fun sz => c97_X2_first l g h1 h5 h6 h4 z361 z362 h7 f364 f365 ⟨p373, p374⟩ ⟨p375, p376⟩ sz) gX1_takePrivate_X2_first rfl ⟨rfl, rfl⟩ 1 (by decide) ⟨Nat.le_of_ble_eq_true rfl, Nat.le_of_ble_eq_true rfl⟩ 7 rfl rfl [7, 8, 9] [0, 1, 2, 3, 4, 5, 6] rfl rfl (by decide) (by decide) (by decide) rfl rfl (Nat.le_of_ble_eq_true rfl) ⟨Nat.le_of_ble_eq_true rfl, Nat.le_of_ble_eq_true rfl⟩ (fun r414 _ w415 => ?_)
        refine r_ws [(h2, .inr (3, [.ref h3, .ref h10, .ref h8, .ref h11, .int x5, .int r411, .int x7])), (h8, .inr (7, [.ref h3, .ref h12, .ref h13, .int x9, .int x10, .int x11])), (h3, .inr (4, [.ref h9, .int x8])), (h4, .inl (gI g, 48, .inl f363)), (h7, .inl (gI g, 6, .inl f366)), (h9, .inl (gB g, 1500, .inl fn4)), (h0, .inr (1, [.ref h1, .ref h2, .ref h3, .int z405, .long z360, .long 9223372036854775807, .int x1, .int x2, .long y4, .long y5])), (h1, .inr (2, [.ref h4, .int z361, .int z362, .ref h5, .ref h6, .ref h7])), (h5, .inl (gI g, 6, .inl f364)), (h6, .inl (gI g, 6, .inl f365))] rfl ?_
        have p416 : FST (Int32.toInt r414) (Int32.toInt (f364 (Int32.toNatClampNeg 5))) (Int32.toInt (f365 (Int32.toNatClampNeg 5))) := w415
        have gr414 := fb_rng r414
        refine r_putN 118 C dX1_takePrivate_118 (k := 6) 0 rfl rfl hiX3 tyX3 tyX3_ok nmX3 (by decide) rfl (mg 12 rfl) rfl rfl rfl rfl rfl (Nat.le_of_ble_eq_true rfl) [(h2, .inr (3, [.ref h3, .ref h10, .ref h8, .ref h11, .int x5, .int r411, .int r414])), (h8, .inr (7, [.ref h3, .ref h12, .ref h13, .int x9, .int x10, .int x11])), (h3, .inr (4, [.ref h9, .int x8])), (h4, .inl (gI g, 48, .inl f363)), (h7, .inl (gI g, 6, .inl f366)), (h9, .inl (gB g, 1500, .inl fn4)), (h0, .inr (1, [.ref h1, .ref h2, .ref h3, .int z405, .long z360, .long 9223372036854775807, .int x1, .int x2, .long y4, .long y5])), (h1, .inr (2, [.ref h4, .int z361, .int z362, .ref h5, .ref h6, .ref h7])), (h5, .inl (gI g, 6, .inl f364)), (h6, .inl (gI g, 6, .inl f365))] rfl ?_
        refine r_aload_n 121 0 C dX1_takePrivate_121 rfl ?_
        refine r_get 122 C dX1_takePrivate_122 (k := 3) 6 rfl rfl hiX1 (by decide) rfl (mg 4 rfl) (Or.inl rfl) rfl ?_
        refine r_if_ne 125 174 C dX1_takePrivate_125 (by decide) (fun c417 => ?_) (fun c417 => ?_)
        · skip
          have k418 : ¬ ((Int32.toInt z405) = 0) := fun h_9 => c417 ((fa_eq z405 0).mpr h_9)
          exact r_vret 174 Rt dX1_takePrivate_174 (z405, z360, x1, x2, y4, y5, z361, z362, r411, r414, f363, f364, f365, f366, x9, x10, x11) (show 0 ≤ (Int32.toInt z405) ∧ (Int32.toInt z405) ≤ 2 ∧ -8589934592 ≤ (Int64.toInt z360) ∧ (Int64.toInt z360) ≤ 8589934592 ∧ -257 ≤ (Int32.toInt x1) ∧ (Int32.toInt x1) ≤ 65535 ∧ -1 ≤ (Int32.toInt x2) ∧ (Int32.toInt x2) ≤ 255 ∧ -8589934592 ≤ (Int64.toInt y4) ∧ (Int64.toInt y4) ≤ 8589934592 ∧ -8589934592 ≤ (Int64.toInt y5) ∧ (Int64.toInt y5) ≤ 8589934592 ∧ 0 ≤ (Int32.toInt z361) ∧ (Int32.toInt z361) ≤ 48 ∧ 0 ≤ (Int32.toInt z362) ∧ (Int32.toInt z362) ≤ 1 ∧ SEQ (Int32.toInt x0) (Int32.toInt z405) (PRIV (GB fn4 (Int32.toInt x8)) (Int32.toInt x8) (Int64.toInt y0) (Int64.toInt y1)) (fun q => q = ((Int32.toInt x9), (Int32.toInt r411), (Int32.toInt r414))) from ⟨(show _ ∧ _ from ⟨p407, p408⟩).1, (show _ ∧ _ from ⟨p407, p408⟩).2, (show _ ∧ _ from ⟨p371, p372⟩).1, (show _ ∧ _ from ⟨p371, p372⟩).2, i_x1.1, i_x1.2, i_x2.1, i_x2.2, i_y4.1, i_y4.2, i_y5.1, i_y5.2, (show _ ∧ _ from ⟨p373, p374⟩).1, (show _ ∧ _ from ⟨p373, p374⟩).2, (show _ ∧ _ from ⟨p375, p376⟩).1, (show _ ∧ _ from ⟨p375, p376⟩).2, (by exact priv_end (by omega) p356 (by omega) (by omega) p377 p387 p398 p409 (by have h_1 := p382; unfold FTS at h_1; omega) (by have h_1 := p393; unfold FTS at h_1; omega) (by have h_1 := p404; unfold FTS at h_1; omega) (by have h_1 := p413; unfold FST at h_1; omega) (by have h_1 := p416; unfold FST at h_1; omega) (by first | exact Or.inl ⟨by omega, by omega⟩ | exact Or.inr (Or.inl ⟨by omega, (by omega), by omega, by omega⟩)))⟩) [6, 7, 0, 2, 3, 8, 9, 4, 1, 5] (by decide) rfl (Nat.le_of_ble_eq_true rfl) (Nat.le_of_ble_eq_true rfl)
        · skip
          have k419 : (Int32.toInt z405) = 0 := (fa_eq z405 0).mp c417
          refine r_aload_n 128 0 C dX1_takePrivate_128 rfl ?_
          refine r_get 129 C dX1_takePrivate_129 (k := 0) 6 rfl rfl hiX1 (by decide) rfl (mg 2 rfl) (Or.inl rfl) rfl ?_
          refine r_bipush 132 19 C dX1_takePrivate_132 (by decide) ?_
          refine r_callVi 134 C dX1_takePrivate_134 [] [(h1, .inr (2, [.ref h4, .int z361, .int z362, .ref h5, .ref h6, .ref h7])), (h5, .inl (gI g, 6, .inl f364))] [(h2, .inr (3, [.ref h3, .ref h10, .ref h8, .ref h11, .int x5, .int r411, .int r414])), (h8, .inr (7, [.ref h3, .ref h12, .ref h13, .int x9, .int x10, .int x11])), (h3, .inr (4, [.ref h9, .int x8])), (h4, .inl (gI g, 48, .inl f363)), (h7, .inl (gI g, 6, .inl f366)), (h9, .inl (gB g, 1500, .inl fn4)), (h0, .inr (1, [.ref h1, .ref h2, .ref h3, .int z405, .long z360, .long 9223372036854775807, .int x1, .int x2, .long y4, .long y5])), (h6, .inl (gI g, 6, .inl f365))] (fun sz => c98_X2_isTold l g h1 h5 h4 z361 z362 h6 h7 f364 ⟨p373, p374⟩ ⟨p375, p376⟩ sz) gX1_takePrivate_X2_isTold rfl ⟨rfl, rfl⟩ 1 (by decide) ⟨Nat.le_of_ble_eq_true rfl, Nat.le_of_ble_eq_true rfl⟩ 7 rfl rfl [7, 8] [0, 1, 2, 3, 4, 5, 6, 9] rfl rfl (by decide) (by decide) (by decide) rfl rfl (Nat.le_of_ble_eq_true rfl) ⟨Nat.le_of_ble_eq_true rfl, Nat.le_of_ble_eq_true rfl⟩ (fun r420 _ w421 => ?_)
          refine r_ws [(h2, .inr (3, [.ref h3, .ref h10, .ref h8, .ref h11, .int x5, .int r411, .int r414])), (h8, .inr (7, [.ref h3, .ref h12, .ref h13, .int x9, .int x10, .int x11])), (h3, .inr (4, [.ref h9, .int x8])), (h4, .inl (gI g, 48, .inl f363)), (h7, .inl (gI g, 6, .inl f366)), (h9, .inl (gB g, 1500, .inl fn4)), (h0, .inr (1, [.ref h1, .ref h2, .ref h3, .int z405, .long z360, .long 9223372036854775807, .int x1, .int x2, .long y4, .long y5])), (h6, .inl (gI g, 6, .inl f365)), (h1, .inr (2, [.ref h4, .int z361, .int z362, .ref h5, .ref h6, .ref h7])), (h5, .inl (gI g, 6, .inl f364))] rfl ?_
          have p422 : 0 ≤ (Int32.toInt r420) := w421.1
          have p423 : (Int32.toInt r420) ≤ 1 := w421.2.1
          have p424 : TOL (Int32.toInt r420) (Int32.toInt (f364 (Int32.toNatClampNeg 3))) := w421.2.2
          refine r_if_eq 137 174 C dX1_takePrivate_137 (by decide) (fun c425 => ?_) (fun c425 => ?_)
          · skip
            have k426 : (Int32.toInt r420) = 0 := (fa_eq r420 0).mp c425
            exact r_vret 174 Rt dX1_takePrivate_174 (z405, z360, x1, x2, y4, y5, z361, z362, r411, r414, f363, f364, f365, f366, x9, x10, x11) (show 0 ≤ (Int32.toInt z405) ∧ (Int32.toInt z405) ≤ 2 ∧ -8589934592 ≤ (Int64.toInt z360) ∧ (Int64.toInt z360) ≤ 8589934592 ∧ -257 ≤ (Int32.toInt x1) ∧ (Int32.toInt x1) ≤ 65535 ∧ -1 ≤ (Int32.toInt x2) ∧ (Int32.toInt x2) ≤ 255 ∧ -8589934592 ≤ (Int64.toInt y4) ∧ (Int64.toInt y4) ≤ 8589934592 ∧ -8589934592 ≤ (Int64.toInt y5) ∧ (Int64.toInt y5) ≤ 8589934592 ∧ 0 ≤ (Int32.toInt z361) ∧ (Int32.toInt z361) ≤ 48 ∧ 0 ≤ (Int32.toInt z362) ∧ (Int32.toInt z362) ≤ 1 ∧ SEQ (Int32.toInt x0) (Int32.toInt z405) (PRIV (GB fn4 (Int32.toInt x8)) (Int32.toInt x8) (Int64.toInt y0) (Int64.toInt y1)) (fun q => q = ((Int32.toInt x9), (Int32.toInt r411), (Int32.toInt r414))) from ⟨(show _ ∧ _ from ⟨p407, p408⟩).1, (show _ ∧ _ from ⟨p407, p408⟩).2, (show _ ∧ _ from ⟨p371, p372⟩).1, (show _ ∧ _ from ⟨p371, p372⟩).2, i_x1.1, i_x1.2, i_x2.1, i_x2.2, i_y4.1, i_y4.2, i_y5.1, i_y5.2, (show _ ∧ _ from ⟨p373, p374⟩).1, (show _ ∧ _ from ⟨p373, p374⟩).2, (show _ ∧ _ from ⟨p375, p376⟩).1, (show _ ∧ _ from ⟨p375, p376⟩).2, (by exact priv_end (by omega) p356 (by omega) (by omega) p377 p387 p398 p409 (by have h_1 := p382; unfold FTS at h_1; omega) (by have h_1 := p393; unfold FTS at h_1; omega) (by have h_1 := p404; unfold FTS at h_1; omega) (by have h_1 := p413; unfold FST at h_1; omega) (by have h_1 := p416; unfold FST at h_1; omega) (by first | exact Or.inl ⟨by omega, by omega⟩ | exact Or.inr (Or.inl ⟨by omega, (by have h_1 := p424; unfold TOL at h_1; omega), by omega, by omega⟩)))⟩) [6, 8, 0, 2, 3, 9, 7, 4, 1, 5] (by decide) rfl (Nat.le_of_ble_eq_true rfl) (Nat.le_of_ble_eq_true rfl)
          · skip
            have k427 : ¬ ((Int32.toInt r420) = 0) := fun h_9 => c425 ((fa_eq r420 0).mpr h_9)
            refine r_aload_n 140 0 C dX1_takePrivate_140 rfl ?_
            refine r_lload_n 141 1 C dX1_takePrivate_141 rfl ?_
            refine r_aload_n 142 0 C dX1_takePrivate_142 rfl ?_
            refine r_get 143 C dX1_takePrivate_143 (k := 0) 6 rfl rfl hiX1 (by decide) rfl (mg 2 rfl) (Or.inl rfl) rfl ?_
            refine r_bipush 146 19 C dX1_takePrivate_146 (by decide) ?_
            refine r_callVi 148 C dX1_takePrivate_148 [.long y0, .ref h0] [(h1, .inr (2, [.ref h4, .int z361, .int z362, .ref h5, .ref h6, .ref h7])), (h5, .inl (gI g, 6, .inl f364)), (h6, .inl (gI g, 6, .inl f365))] [(h2, .inr (3, [.ref h3, .ref h10, .ref h8, .ref h11, .int x5, .int r411, .int r414])), (h8, .inr (7, [.ref h3, .ref h12, .ref h13, .int x9, .int x10, .int x11])), (h3, .inr (4, [.ref h9, .int x8])), (h4, .inl (gI g, 48, .inl f363)), (h7, .inl (gI g, 6, .inl f366)), (h9, .inl (gB g, 1500, .inl fn4)), (h0, .inr (1, [.ref h1, .ref h2, .ref h3, .int z405, .long z360, .long 9223372036854775807, .int x1, .int x2, .long y4, .long y5]))] (fun sz => c99_X2_first l g h1 h5 h6 h4 z361 z362 h7 f364 f365 ⟨p373, p374⟩ ⟨p375, p376⟩ sz) gX1_takePrivate_X2_first rfl ⟨rfl, rfl⟩ 1 (by decide) ⟨Nat.le_of_ble_eq_true rfl, Nat.le_of_ble_eq_true rfl⟩ 8 rfl rfl [8, 9, 7] [0, 1, 2, 3, 4, 5, 6] rfl rfl (by decide) (by decide) (by decide) rfl rfl (Nat.le_of_ble_eq_true rfl) ⟨Nat.le_of_ble_eq_true rfl, Nat.le_of_ble_eq_true rfl⟩ (fun r428 _ w429 => ?_)
            refine r_ws [(h2, .inr (3, [.ref h3, .ref h10, .ref h8, .ref h11, .int x5, .int r411, .int r414])), (h8, .inr (7, [.ref h3, .ref h12, .ref h13, .int x9, .int x10, .int x11])), (h3, .inr (4, [.ref h9, .int x8])), (h4, .inl (gI g, 48, .inl f363)), (h7, .inl (gI g, 6, .inl f366)), (h9, .inl (gB g, 1500, .inl fn4)), (h0, .inr (1, [.ref h1, .ref h2, .ref h3, .int z405, .long z360, .long 9223372036854775807, .int x1, .int x2, .long y4, .long y5])), (h1, .inr (2, [.ref h4, .int z361, .int z362, .ref h5, .ref h6, .ref h7])), (h5, .inl (gI g, 6, .inl f364)), (h6, .inl (gI g, 6, .inl f365))] rfl ?_
            have p430 : FST (Int32.toInt r428) (Int32.toInt (f364 (Int32.toNatClampNeg 3))) (Int32.toInt (f365 (Int32.toNatClampNeg 3))) := w429
            have gr428 := fb_rng r428
            obtain ⟨z431, ez431⟩ : ∃ z_9, Int32.toInt64 r428 = z_9 := ⟨_, rfl⟩
            have tz431 : (Int64.toInt z431) = (Int32.toInt r428) := by rw [← ez431]; exact Int32.toInt_toInt64 _
            refine r_i2l 151 z431 C dX1_takePrivate_151 ez431 ?_
            obtain ⟨z432, ez432⟩ : ∃ z_9, y0 + z431 = z_9 := ⟨_, rfl⟩
            have tz432 : (Int64.toInt z432) = (Int64.toInt y0) + (Int64.toInt z431) := by rw [← ez432]; exact fb_addL (by show -9223372036854775808 ≤ (Int64.toInt y0) + (Int64.toInt z431); omega) (by show (Int64.toInt y0) + (Int64.toInt z431) < 9223372036854775808; omega)
            refine r_ladd 152 z432 C dX1_takePrivate_152 ez432 ?_
            refine r_put 153 C dX1_takePrivate_153 (k := 4) 6 rfl rfl hiX1 tyX1 tyX1_ok nmX1 (by decide) rfl (mg 5 rfl) (Or.inl rfl) rfl rfl rfl rfl (Nat.le_of_ble_eq_true rfl) [(h2, .inr (3, [.ref h3, .ref h10, .ref h8, .ref h11, .int x5, .int r411, .int r414])), (h8, .inr (7, [.ref h3, .ref h12, .ref h13, .int x9, .int x10, .int x11])), (h3, .inr (4, [.ref h9, .int x8])), (h4, .inl (gI g, 48, .inl f363)), (h7, .inl (gI g, 6, .inl f366)), (h9, .inl (gB g, 1500, .inl fn4)), (h0, .inr (1, [.ref h1, .ref h2, .ref h3, .int z405, .long z432, .long 9223372036854775807, .int x1, .int x2, .long y4, .long y5])), (h1, .inr (2, [.ref h4, .int z361, .int z362, .ref h5, .ref h6, .ref h7])), (h5, .inl (gI g, 6, .inl f364)), (h6, .inl (gI g, 6, .inl f365))] rfl ?_
            refine r_aload_n 156 0 C dX1_takePrivate_156 rfl ?_
            refine r_iconst 157 0 C dX1_takePrivate_157 (by decide) ?_
            refine r_ldc 158 65535 C dX1_takePrivate_158 (mg 6 rfl) ?_
            refine r_callVv 160 C dX1_takePrivate_160 [] [(h0, .inr (1, [.ref h1, .ref h2, .ref h3, .int z405, .long z432, .long 9223372036854775807, .int x1, .int x2, .long y4, .long y5])), (h3, .inr (4, [.ref h9, .int x8])), (h9, .inl (gB g, 1500, .inl fn4))] [(h2, .inr (3, [.ref h3, .ref h10, .ref h8, .ref h11, .int x5, .int r411, .int r414])), (h8, .inr (7, [.ref h3, .ref h12, .ref h13, .int x9, .int x10, .int x11])), (h4, .inl (gI g, 48, .inl f363)), (h7, .inl (gI g, 6, .inl f366)), (h1, .inr (2, [.ref h4, .int z361, .int z362, .ref h5, .ref h6, .ref h7])), (h5, .inl (gI g, 6, .inl f364)), (h6, .inl (gI g, 6, .inl f365))] (fun sz => c57_X1_takeIndex l g h0 h3 h9 0 65535 h1 h2 z405 z432 9223372036854775807 x1 x2 y4 y5 x8 fn4 ⟨p407, p408⟩ ⟨by omega, by omega⟩ i_x1 i_x2 i_y4 i_y5 i_x8 (by show ((Int32.toInt x8) ≤ (9223372036854775807 : Int)); first | assumption | omega) sz) gX1_takePrivate_X1_takeIndex rfl ⟨rfl, rfl⟩ 2 (by decide) ⟨Nat.le_of_ble_eq_true rfl, Nat.le_of_ble_eq_true rfl⟩ 6 rfl rfl [6, 2, 5] [0, 1, 3, 4, 7, 8, 9] rfl rfl (by decide) (by decide) (by decide) rfl rfl (Nat.le_of_ble_eq_true rfl) ⟨Nat.le_of_ble_eq_true rfl, Nat.le_of_ble_eq_true rfl⟩ (fun  u440 w439 => ?_)
            obtain ⟨z433, z434, z435, z436, z437, z438⟩ := u440
            refine r_ws [(h2, .inr (3, [.ref h3, .ref h10, .ref h8, .ref h11, .int x5, .int r411, .int r414])), (h8, .inr (7, [.ref h3, .ref h12, .ref h13, .int x9, .int x10, .int x11])), (h4, .inl (gI g, 48, .inl f363)), (h7, .inl (gI g, 6, .inl f366)), (h1, .inr (2, [.ref h4, .int z361, .int z362, .ref h5, .ref h6, .ref h7])), (h5, .inl (gI g, 6, .inl f364)), (h6, .inl (gI g, 6, .inl f365)), (h0, .inr (1, [.ref h1, .ref h2, .ref h3, .int z433, .long z434, .long 9223372036854775807, .int z435, .int z436, .long z437, .long z438])), (h3, .inr (4, [.ref h9, .int x8])), (h9, .inl (gB g, 1500, .inl fn4))] rfl ?_
            have p441 : 0 ≤ (Int32.toInt z433) := w439.1
            have p442 : (Int32.toInt z433) ≤ 2 := w439.2.1
            have p443 : -8589934592 ≤ (Int64.toInt z434) := w439.2.2.1
            have p444 : (Int64.toInt z434) ≤ 8589934592 := w439.2.2.2.1
            have p445 : -257 ≤ (Int32.toInt z435) := w439.2.2.2.2.1
            have p446 : (Int32.toInt z435) ≤ 65535 := w439.2.2.2.2.2.1
            have p447 : -1 ≤ (Int32.toInt z436) := w439.2.2.2.2.2.2.1
            have p448 : (Int32.toInt z436) ≤ 255 := w439.2.2.2.2.2.2.2.1
            have p449 : -8589934592 ≤ (Int64.toInt z437) := w439.2.2.2.2.2.2.2.2.1
            have p450 : (Int64.toInt z437) ≤ 8589934592 := w439.2.2.2.2.2.2.2.2.2.1
            have p451 : -8589934592 ≤ (Int64.toInt z438) := w439.2.2.2.2.2.2.2.2.2.2.1
            have p452 : (Int64.toInt z438) ≤ 8589934592 := w439.2.2.2.2.2.2.2.2.2.2.2.1
            have p453 : SEQ (Int32.toInt z405) (Int32.toInt z433) (IDX (GB fn4 (Int32.toInt x8)) (Int32.toInt x8) (Int64.toInt z432) (0 : Int) (65535 : Int)) (IXR (Int32.toInt z435) (Int64.toInt z434) (Int32.toInt z436) (Int64.toInt z437) (Int64.toInt z438) (Int64.toInt z432)) := w439.2.2.2.2.2.2.2.2.2.2.2.2.1
            have p454 : IXN (Int32.toInt z405) (Int32.toInt z433) (0 : Int) (65535 : Int) (Int32.toInt z435) (Int64.toInt z438) := w439.2.2.2.2.2.2.2.2.2.2.2.2.2
            refine r_aload_n 163 0 C dX1_takePrivate_163 rfl ?_
            refine r_aload_n 164 0 C dX1_takePrivate_164 rfl ?_
            refine r_get 165 C dX1_takePrivate_165 (k := 1) 7 rfl rfl hiX1 (by decide) rfl (mg 3 rfl) (Or.inl rfl) rfl ?_
            refine r_getN 168 C dX1_takePrivate_168 (k := 2) 0 rfl rfl hiX3 (by decide) rfl (mg 13 rfl) rfl rfl ?_
            refine r_callVv 171 C dX1_takePrivate_171 [] [(h0, .inr (1, [.ref h1, .ref h2, .ref h3, .int z433, .long z434, .long 9223372036854775807, .int z435, .int z436, .long z437, .long z438])), (h8, .inr (7, [.ref h3, .ref h12, .ref h13, .int x9, .int x10, .int x11]))] [(h2, .inr (3, [.ref h3, .ref h10, .ref h8, .ref h11, .int x5, .int r411, .int r414])), (h4, .inl (gI g, 48, .inl f363)), (h7, .inl (gI g, 6, .inl f366)), (h1, .inr (2, [.ref h4, .int z361, .int z362, .ref h5, .ref h6, .ref h7])), (h5, .inl (gI g, 6, .inl f364)), (h6, .inl (gI g, 6, .inl f365)), (h3, .inr (4, [.ref h9, .int x8])), (h9, .inl (gB g, 1500, .inl fn4))] (fun sz => c59_X1_shelve l g h0 h8 h1 h2 h3 z433 z434 9223372036854775807 z435 z436 z437 z438 h12 h13 x9 x10 x11 ⟨p441, p442⟩ ⟨p443, p444⟩ ⟨p445, p446⟩ ⟨p447, p448⟩ ⟨p449, p450⟩ ⟨p451, p452⟩ sz) gX1_takePrivate_X1_shelve rfl ⟨rfl, rfl⟩ 1 (by decide) ⟨Nat.le_of_ble_eq_true rfl, Nat.le_of_ble_eq_true rfl⟩ 7 rfl rfl [7, 1] [0, 2, 3, 4, 5, 6, 8, 9] rfl rfl (by decide) (by decide) (by decide) rfl rfl (Nat.le_of_ble_eq_true rfl) ⟨Nat.le_of_ble_eq_true rfl, Nat.le_of_ble_eq_true rfl⟩ (fun  u459 w458 => ?_)
            obtain ⟨z455, z456, z457⟩ := u459
            refine r_ws [(h2, .inr (3, [.ref h3, .ref h10, .ref h8, .ref h11, .int x5, .int r411, .int r414])), (h4, .inl (gI g, 48, .inl f363)), (h7, .inl (gI g, 6, .inl f366)), (h1, .inr (2, [.ref h4, .int z361, .int z362, .ref h5, .ref h6, .ref h7])), (h5, .inl (gI g, 6, .inl f364)), (h6, .inl (gI g, 6, .inl f365)), (h3, .inr (4, [.ref h9, .int x8])), (h9, .inl (gB g, 1500, .inl fn4)), (h0, .inr (1, [.ref h1, .ref h2, .ref h3, .int z433, .long z434, .long 9223372036854775807, .int z435, .int z436, .long z437, .long z438])), (h8, .inr (7, [.ref h3, .ref h12, .ref h13, .int z455, .int z456, .int z457]))] rfl ?_
            have gz455 := fb_rng z455
            have gz456 := fb_rng z456
            have gz457 := fb_rng z457
            have p460 : SHV (Int32.toInt z433) (Int32.toInt z435) (Int32.toInt x9) (Int32.toInt z455) := w458
            exact r_vret 174 Rt dX1_takePrivate_174 (z433, z434, z435, z436, z437, z438, z361, z362, r411, r414, f363, f364, f365, f366, z455, z456, z457) (show 0 ≤ (Int32.toInt z433) ∧ (Int32.toInt z433) ≤ 2 ∧ -8589934592 ≤ (Int64.toInt z434) ∧ (Int64.toInt z434) ≤ 8589934592 ∧ -257 ≤ (Int32.toInt z435) ∧ (Int32.toInt z435) ≤ 65535 ∧ -1 ≤ (Int32.toInt z436) ∧ (Int32.toInt z436) ≤ 255 ∧ -8589934592 ≤ (Int64.toInt z437) ∧ (Int64.toInt z437) ≤ 8589934592 ∧ -8589934592 ≤ (Int64.toInt z438) ∧ (Int64.toInt z438) ≤ 8589934592 ∧ 0 ≤ (Int32.toInt z361) ∧ (Int32.toInt z361) ≤ 48 ∧ 0 ≤ (Int32.toInt z362) ∧ (Int32.toInt z362) ≤ 1 ∧ SEQ (Int32.toInt x0) (Int32.toInt z433) (PRIV (GB fn4 (Int32.toInt x8)) (Int32.toInt x8) (Int64.toInt y0) (Int64.toInt y1)) (fun q => q = ((Int32.toInt z455), (Int32.toInt r411), (Int32.toInt r414))) from ⟨(show _ ∧ _ from ⟨p441, p442⟩).1, (show _ ∧ _ from ⟨p441, p442⟩).2, (show _ ∧ _ from ⟨p443, p444⟩).1, (show _ ∧ _ from ⟨p443, p444⟩).2, (show _ ∧ _ from ⟨p445, p446⟩).1, (show _ ∧ _ from ⟨p445, p446⟩).2, (show _ ∧ _ from ⟨p447, p448⟩).1, (show _ ∧ _ from ⟨p447, p448⟩).2, (show _ ∧ _ from ⟨p449, p450⟩).1, (show _ ∧ _ from ⟨p449, p450⟩).2, (show _ ∧ _ from ⟨p451, p452⟩).1, (show _ ∧ _ from ⟨p451, p452⟩).2, (show _ ∧ _ from ⟨p373, p374⟩).1, (show _ ∧ _ from ⟨p373, p374⟩).2, (show _ ∧ _ from ⟨p375, p376⟩).1, (show _ ∧ _ from ⟨p375, p376⟩).2, (by exact priv_end (by omega) p356 (by omega) (by omega) p377 p387 p398 p409 (by have h_1 := p382; unfold FTS at h_1; omega) (by have h_1 := p393; unfold FTS at h_1; omega) (by have h_1 := p404; unfold FTS at h_1; omega) (by have h_1 := p413; unfold FST at h_1; omega) (by have h_1 := p416; unfold FST at h_1; omega) (Or.inr (Or.inr ⟨(by have h_1 := p424; unfold TOL at h_1; omega), seq_of (ixr_len p453 (fun h_9 => (by have h_1 := p454; unfold IXN at h_1; have h_2 := p460; unfold SHV at h_2; omega))) (idx_p (by have h_1 := p424; unfold TOL at h_1; have h_2 := p430; unfold FST at h_2; omega))⟩)))⟩) [8, 3, 0, 6, 1, 4, 5, 2, 9, 7] (by decide) rfl (Nat.le_of_ble_eq_true rfl) (Nat.le_of_ble_eq_true rfl)
    · skip
      have k461 : ¬ ((Int32.toInt z236) ≤ 0) := fun h_9 => c237 ((fa_le z236 0).mpr h_9)
      refine r_aload_n 19 0 C dX1_takePrivate_19 rfl ?_
      refine r_iconst 20 1 C dX1_takePrivate_20 (by decide) ?_
      refine r_callVv 21 C dX1_takePrivate_21 [] [(h0, .inr (1, [.ref h1, .ref h2, .ref h3, .int x0, .long y2, .long y3, .int x1, .int x2, .long y4, .long y5]))] [(h1, .inr (2, [.ref h4, .int x3, .int x4, .ref h5, .ref h6, .ref h7])), (h2, .inr (3, [.ref h3, .ref h10, .ref h8, .ref h11, .int x5, .int x6, .int x7])), (h4, .inl (gI g, 48, .inl fn0)), (h5, .inl (gI g, 6, .inl fn1)), (h6, .inl (gI g, 6, .inl fn2)), (h7, .inl (gI g, 6, .inl fn3)), (h8, .inr (7, [.ref h3, .ref h12, .ref h13, .int x9, .int x10, .int x11])), (h9, .inl (gB g, 1500, .inl fn4)), (h3, .inr (4, [.ref h9, .int x8]))] (fun sz => c51_X1_wrong l g h0 1 h1 h2 h3 x0 y2 y3 x1 x2 y4 y5 (by decide) i_x0 i_y2 i_x1 i_x2 i_y4 i_y5 sz) gX1_takePrivate_X1_wrong rfl ⟨rfl, rfl⟩ 1 (by decide) ⟨Nat.le_of_ble_eq_true rfl, Nat.le_of_ble_eq_true rfl⟩ 0 rfl rfl [0] [1, 2, 3, 4, 5, 6, 7, 8, 9] rfl rfl (by decide) (by decide) (by decide) rfl rfl (Nat.le_of_ble_eq_true rfl) ⟨Nat.le_of_ble_eq_true rfl, Nat.le_of_ble_eq_true rfl⟩ (fun  z462 w463 => ?_)
      refine r_ws [(h1, .inr (2, [.ref h4, .int x3, .int x4, .ref h5, .ref h6, .ref h7])), (h2, .inr (3, [.ref h3, .ref h10, .ref h8, .ref h11, .int x5, .int x6, .int x7])), (h4, .inl (gI g, 48, .inl fn0)), (h5, .inl (gI g, 6, .inl fn1)), (h6, .inl (gI g, 6, .inl fn2)), (h7, .inl (gI g, 6, .inl fn3)), (h8, .inr (7, [.ref h3, .ref h12, .ref h13, .int x9, .int x10, .int x11])), (h9, .inl (gB g, 1500, .inl fn4)), (h3, .inr (4, [.ref h9, .int x8])), (h0, .inr (1, [.ref h1, .ref h2, .ref h3, .int z462, .long y2, .long y3, .int x1, .int x2, .long y4, .long y5]))] rfl ?_
      have p464 : 0 ≤ (Int32.toInt z462) := w463.1
      have p465 : (Int32.toInt z462) ≤ 2 := w463.2.1
      have p466 : ¬ ((Int32.toInt z462) = 0) := w463.2.2
      refine r_aload_n 24 0 C dX1_takePrivate_24 rfl ?_
      refine r_lload_n 25 2 C dX1_takePrivate_25 rfl ?_
      refine r_lconst 26 0 C dX1_takePrivate_26 (by decide) ?_
      obtain ⟨z467, ez467⟩ : ∃ z_9, lg_cmp y1 0 = z_9 := ⟨_, rfl⟩
      have l1z467 : (Int32.toInt z467) < 0 ↔ (Int64.toInt y1) < 0 := by rw [← ez467]; exact lgI1 y1 0
      have l2z467 : 0 < (Int32.toInt z467) ↔ 0 < (Int64.toInt y1) := by rw [← ez467]; exact lgI2 y1 0
      refine r_lcmp 27 z467 C dX1_takePrivate_27 ez467 ?_
      refine r_if_lt 28 35 C dX1_takePrivate_28 (by decide) (fun c468 => ?_) (fun c468 => ?_)
      · skip
        have k469 : (Int32.toInt z467) < 0 := (fa_lt z467 0).mp c468
        refine r_iconst 35 0 C dX1_takePrivate_35 (by decide) ?_
        refine r_callVv 36 C dX1_takePrivate_36 [] [(h0, .inr (1, [.ref h1, .ref h2, .ref h3, .int z462, .long y2, .long y3, .int x1, .int x2, .long y4, .long y5]))] [(h1, .inr (2, [.ref h4, .int x3, .int x4, .ref h5, .ref h6, .ref h7])), (h2, .inr (3, [.ref h3, .ref h10, .ref h8, .ref h11, .int x5, .int x6, .int x7])), (h4, .inl (gI g, 48, .inl fn0)), (h5, .inl (gI g, 6, .inl fn1)), (h6, .inl (gI g, 6, .inl fn2)), (h7, .inl (gI g, 6, .inl fn3)), (h8, .inr (7, [.ref h3, .ref h12, .ref h13, .int x9, .int x10, .int x11])), (h9, .inl (gB g, 1500, .inl fn4)), (h3, .inr (4, [.ref h9, .int x8]))] (fun sz => c53_X1_want l g h0 0 h1 h2 h3 z462 y2 y3 x1 x2 y4 y5 (by decide) ⟨p464, p465⟩ i_y2 i_x1 i_x2 i_y4 i_y5 sz) gX1_takePrivate_X1_want rfl ⟨rfl, rfl⟩ 1 (by decide) ⟨Nat.le_of_ble_eq_true rfl, Nat.le_of_ble_eq_true rfl⟩ 9 rfl rfl [9] [0, 1, 2, 3, 4, 5, 6, 7, 8] rfl rfl (by decide) (by decide) (by decide) rfl rfl (Nat.le_of_ble_eq_true rfl) ⟨Nat.le_of_ble_eq_true rfl, Nat.le_of_ble_eq_true rfl⟩ (fun  z470 w471 => ?_)
        refine r_ws [(h1, .inr (2, [.ref h4, .int x3, .int x4, .ref h5, .ref h6, .ref h7])), (h2, .inr (3, [.ref h3, .ref h10, .ref h8, .ref h11, .int x5, .int x6, .int x7])), (h4, .inl (gI g, 48, .inl fn0)), (h5, .inl (gI g, 6, .inl fn1)), (h6, .inl (gI g, 6, .inl fn2)), (h7, .inl (gI g, 6, .inl fn3)), (h8, .inr (7, [.ref h3, .ref h12, .ref h13, .int x9, .int x10, .int x11])), (h9, .inl (gB g, 1500, .inl fn4)), (h3, .inr (4, [.ref h9, .int x8])), (h0, .inr (1, [.ref h1, .ref h2, .ref h3, .int z470, .long y2, .long y3, .int x1, .int x2, .long y4, .long y5]))] rfl ?_
        have p472 : 0 ≤ (Int32.toInt z470) := w471.1
        have p473 : (Int32.toInt z470) ≤ 2 := w471.2.1
        have p474 : WNT (0 : Int) (Int32.toInt z462) (Int32.toInt z470) := w471.2.2.1
        have p475 : (((0 : Int) = 1 ∧ (Int32.toInt z470) = (Int32.toInt z462)) ∨ ((0 : Int) = 0 ∧ 1 ≤ (Int32.toInt z470))) := w471.2.2.2
        clear p475
        refine r_aload_n 39 0 C dX1_takePrivate_39 rfl ?_
        refine r_lload_n 40 1 C dX1_takePrivate_40 rfl ?_
        refine r_lload_n 41 1 C dX1_takePrivate_41 rfl ?_
        refine r_lload_n 42 2 C dX1_takePrivate_42 rfl ?_
        obtain ⟨z476, ez476⟩ : ∃ z_9, y0 + y1 = z_9 := ⟨_, rfl⟩
        have tz476 : (Int64.toInt z476) = (Int64.toInt y0) + (Int64.toInt y1) := by rw [← ez476]; exact fb_addLv (a := (-2147483648)) (b := 2147483647) (c := (-2147483648)) (d := 2147483647) i_y0 i_y1 (by decide) (by decide)
        refine r_ladd 43 z476 C dX1_takePrivate_43 ez476 ?_
        refine r_callVv 44 C dX1_takePrivate_44 [] [(h0, .inr (1, [.ref h1, .ref h2, .ref h3, .int z470, .long y2, .long y3, .int x1, .int x2, .long y4, .long y5])), (h1, .inr (2, [.ref h4, .int x3, .int x4, .ref h5, .ref h6, .ref h7])), (h3, .inr (4, [.ref h9, .int x8])), (h4, .inl (gI g, 48, .inl fn0)), (h5, .inl (gI g, 6, .inl fn1)), (h6, .inl (gI g, 6, .inl fn2)), (h7, .inl (gI g, 6, .inl fn3)), (h9, .inl (gB g, 1500, .inl fn4))] [(h2, .inr (3, [.ref h3, .ref h10, .ref h8, .ref h11, .int x5, .int x6, .int x7])), (h8, .inr (7, [.ref h3, .ref h12, .ref h13, .int x9, .int x10, .int x11]))] (fun sz => c73_X1_takeDict l g h0 h1 h3 h4 h5 h6 h7 h9 y0 z476 h2 z470 y2 y3 x1 x2 y4 y5 x3 x4 x8 fn0 fn1 fn2 fn3 fn4 (iv_wide (c := (-8589934592)) (d := 8589934592) i_y0 (by decide) (by decide)) ⟨p472, p473⟩ i_y2 i_x1 i_x2 i_y4 i_y5 i_x3 i_x4 i_x8 (by show (¬ ((Int32.toInt z470) = 0) ∨ 0 ≤ (Int64.toInt y0)); first | assumption | omega) sz) gX1_takePrivate_X1_takeDict rfl ⟨rfl, rfl⟩ 2 (by decide) ⟨Nat.le_of_ble_eq_true rfl, Nat.le_of_ble_eq_true rfl⟩ 9 rfl rfl [9, 0, 8, 2, 3, 4, 5, 7] [1, 6] rfl rfl (by decide) (by decide) (by decide) rfl rfl (Nat.le_of_ble_eq_true rfl) ⟨Nat.le_of_ble_eq_true rfl, Nat.le_of_ble_eq_true rfl⟩ (fun  u486 w485 => ?_)
        obtain ⟨z477, z478, z479, z480, f481, f482, f483, f484⟩ := u486
        refine r_ws [(h2, .inr (3, [.ref h3, .ref h10, .ref h8, .ref h11, .int x5, .int x6, .int x7])), (h8, .inr (7, [.ref h3, .ref h12, .ref h13, .int x9, .int x10, .int x11])), (h0, .inr (1, [.ref h1, .ref h2, .ref h3, .int z477, .long z478, .long 9223372036854775807, .int x1, .int x2, .long y4, .long y5])), (h1, .inr (2, [.ref h4, .int z479, .int z480, .ref h5, .ref h6, .ref h7])), (h3, .inr (4, [.ref h9, .int x8])), (h4, .inl (gI g, 48, .inl f481)), (h5, .inl (gI g, 6, .inl f482)), (h6, .inl (gI g, 6, .inl f483)), (h7, .inl (gI g, 6, .inl f484)), (h9, .inl (gB g, 1500, .inl fn4))] rfl ?_
        have p487 : 0 ≤ (Int32.toInt z477) := w485.1
        have p488 : (Int32.toInt z477) ≤ 2 := w485.2.1
        have p489 : -8589934592 ≤ (Int64.toInt z478) := w485.2.2.1
        have p490 : (Int64.toInt z478) ≤ 8589934592 := w485.2.2.2.1
        have p491 : 0 ≤ (Int32.toInt z479) := w485.2.2.2.2.1
        have p492 : (Int32.toInt z479) ≤ 48 := w485.2.2.2.2.2.1
        have p493 : 0 ≤ (Int32.toInt z480) := w485.2.2.2.2.2.2.1
        have p494 : (Int32.toInt z480) ≤ 1 := w485.2.2.2.2.2.2.2.1
        have p495 : SEQ (Int32.toInt z470) (Int32.toInt z477) (DICB (GB fn4 (Int32.toInt x8)) (Int32.toInt x8) (Int64.toInt y0) (Int64.toInt z476)) (fun S => S = (SC f482 f483 f484)) := w485.2.2.2.2.2.2.2.2
        refine r_aload_n 47 0 C dX1_takePrivate_47 rfl ?_
        refine r_aload_n 48 0 C dX1_takePrivate_48 rfl ?_
        refine r_get 49 C dX1_takePrivate_49 (k := 0) 2 rfl rfl hiX1 (by decide) rfl (mg 2 rfl) (Or.inl rfl) rfl ?_
        refine r_bipush 52 19 C dX1_takePrivate_52 (by decide) ?_
        refine r_iconst 54 1 C dX1_takePrivate_54 (by decide) ?_
        refine r_callVi 55 C dX1_takePrivate_55 [.ref h0] [(h1, .inr (2, [.ref h4, .int z479, .int z480, .ref h5, .ref h6, .ref h7])), (h5, .inl (gI g, 6, .inl f482))] [(h2, .inr (3, [.ref h3, .ref h10, .ref h8, .ref h11, .int x5, .int x6, .int x7])), (h8, .inr (7, [.ref h3, .ref h12, .ref h13, .int x9, .int x10, .int x11])), (h0, .inr (1, [.ref h1, .ref h2, .ref h3, .int z477, .long z478, .long 9223372036854775807, .int x1, .int x2, .long y4, .long y5])), (h3, .inr (4, [.ref h9, .int x8])), (h4, .inl (gI g, 48, .inl f481)), (h6, .inl (gI g, 6, .inl f483)), (h7, .inl (gI g, 6, .inl f484)), (h9, .inl (gB g, 1500, .inl fn4))] (fun sz => c89_X2_fits l g h1 h5 1 h4 z479 z480 h6 h7 f482 ⟨p491, p492⟩ ⟨p493, p494⟩ sz) gX1_takePrivate_X2_fits rfl ⟨rfl, rfl⟩ 2 (by decide) ⟨Nat.le_of_ble_eq_true rfl, Nat.le_of_ble_eq_true rfl⟩ 3 rfl rfl [3, 6] [0, 1, 2, 4, 5, 7, 8, 9] rfl rfl (by decide) (by decide) (by decide) rfl rfl (Nat.le_of_ble_eq_true rfl) ⟨Nat.le_of_ble_eq_true rfl, Nat.le_of_ble_eq_true rfl⟩ (fun r496 _ w497 => ?_)
        refine r_ws [(h2, .inr (3, [.ref h3, .ref h10, .ref h8, .ref h11, .int x5, .int x6, .int x7])), (h8, .inr (7, [.ref h3, .ref h12, .ref h13, .int x9, .int x10, .int x11])), (h0, .inr (1, [.ref h1, .ref h2, .ref h3, .int z477, .long z478, .long 9223372036854775807, .int x1, .int x2, .long y4, .long y5])), (h3, .inr (4, [.ref h9, .int x8])), (h4, .inl (gI g, 48, .inl f481)), (h6, .inl (gI g, 6, .inl f483)), (h7, .inl (gI g, 6, .inl f484)), (h9, .inl (gB g, 1500, .inl fn4)), (h1, .inr (2, [.ref h4, .int z479, .int z480, .ref h5, .ref h6, .ref h7])), (h5, .inl (gI g, 6, .inl f482))] rfl ?_
        have p498 : 0 ≤ (Int32.toInt r496) := w497.1
        have p499 : (Int32.toInt r496) ≤ 1 := w497.2.1
        have p500 : FTS (Int32.toInt r496) (Int32.toInt (f482 (Int32.toNatClampNeg 3))) (1 : Int) := w497.2.2
        refine r_callVv 58 C dX1_takePrivate_58 [] [(h0, .inr (1, [.ref h1, .ref h2, .ref h3, .int z477, .long z478, .long 9223372036854775807, .int x1, .int x2, .long y4, .long y5]))] [(h2, .inr (3, [.ref h3, .ref h10, .ref h8, .ref h11, .int x5, .int x6, .int x7])), (h8, .inr (7, [.ref h3, .ref h12, .ref h13, .int x9, .int x10, .int x11])), (h3, .inr (4, [.ref h9, .int x8])), (h4, .inl (gI g, 48, .inl f481)), (h6, .inl (gI g, 6, .inl f483)), (h7, .inl (gI g, 6, .inl f484)), (h9, .inl (gB g, 1500, .inl fn4)), (h1, .inr (2, [.ref h4, .int z479, .int z480, .ref h5, .ref h6, .ref h7])), (h5, .inl (gI g, 6, .inl f482))] (fun sz => c53_X1_want l g h0 r496 h1 h2 h3 z477 z478 9223372036854775807 x1 x2 y4 y5 ⟨p498, p499⟩ ⟨p487, p488⟩ ⟨p489, p490⟩ i_x1 i_x2 i_y4 i_y5 sz) gX1_takePrivate_X1_want rfl ⟨rfl, rfl⟩ 1 (by decide) ⟨Nat.le_of_ble_eq_true rfl, Nat.le_of_ble_eq_true rfl⟩ 2 rfl rfl [2] [0, 1, 3, 4, 5, 6, 7, 8, 9] rfl rfl (by decide) (by decide) (by decide) rfl rfl (Nat.le_of_ble_eq_true rfl) ⟨Nat.le_of_ble_eq_true rfl, Nat.le_of_ble_eq_true rfl⟩ (fun  z501 w502 => ?_)
        refine r_ws [(h2, .inr (3, [.ref h3, .ref h10, .ref h8, .ref h11, .int x5, .int x6, .int x7])), (h8, .inr (7, [.ref h3, .ref h12, .ref h13, .int x9, .int x10, .int x11])), (h3, .inr (4, [.ref h9, .int x8])), (h4, .inl (gI g, 48, .inl f481)), (h6, .inl (gI g, 6, .inl f483)), (h7, .inl (gI g, 6, .inl f484)), (h9, .inl (gB g, 1500, .inl fn4)), (h1, .inr (2, [.ref h4, .int z479, .int z480, .ref h5, .ref h6, .ref h7])), (h5, .inl (gI g, 6, .inl f482)), (h0, .inr (1, [.ref h1, .ref h2, .ref h3, .int z501, .long z478, .long 9223372036854775807, .int x1, .int x2, .long y4, .long y5]))] rfl ?_
        have p503 : 0 ≤ (Int32.toInt z501) := w502.1
        have p504 : (Int32.toInt z501) ≤ 2 := w502.2.1
        have p505 : WNT (Int32.toInt r496) (Int32.toInt z477) (Int32.toInt z501) := w502.2.2.1
        have p506 : (((Int32.toInt r496) = 1 ∧ (Int32.toInt z501) = (Int32.toInt z477)) ∨ ((Int32.toInt r496) = 0 ∧ 1 ≤ (Int32.toInt z501))) := w502.2.2.2
        clear p506
        refine r_aload_n 61 0 C dX1_takePrivate_61 rfl ?_
        refine r_aload_n 62 0 C dX1_takePrivate_62 rfl ?_
        refine r_get 63 C dX1_takePrivate_63 (k := 0) 9 rfl rfl hiX1 (by decide) rfl (mg 2 rfl) (Or.inl rfl) rfl ?_
        refine r_bipush 66 20 C dX1_takePrivate_66 (by decide) ?_
        refine r_iconst 68 1 C dX1_takePrivate_68 (by decide) ?_
        refine r_callVi 69 C dX1_takePrivate_69 [.ref h0] [(h1, .inr (2, [.ref h4, .int z479, .int z480, .ref h5, .ref h6, .ref h7])), (h5, .inl (gI g, 6, .inl f482))] [(h2, .inr (3, [.ref h3, .ref h10, .ref h8, .ref h11, .int x5, .int x6, .int x7])), (h8, .inr (7, [.ref h3, .ref h12, .ref h13, .int x9, .int x10, .int x11])), (h3, .inr (4, [.ref h9, .int x8])), (h4, .inl (gI g, 48, .inl f481)), (h6, .inl (gI g, 6, .inl f483)), (h7, .inl (gI g, 6, .inl f484)), (h9, .inl (gB g, 1500, .inl fn4)), (h0, .inr (1, [.ref h1, .ref h2, .ref h3, .int z501, .long z478, .long 9223372036854775807, .int x1, .int x2, .long y4, .long y5]))] (fun sz => c91_X2_fits l g h1 h5 1 h4 z479 z480 h6 h7 f482 ⟨p491, p492⟩ ⟨p493, p494⟩ sz) gX1_takePrivate_X2_fits rfl ⟨rfl, rfl⟩ 2 (by decide) ⟨Nat.le_of_ble_eq_true rfl, Nat.le_of_ble_eq_true rfl⟩ 7 rfl rfl [7, 8] [0, 1, 2, 3, 4, 5, 6, 9] rfl rfl (by decide) (by decide) (by decide) rfl rfl (Nat.le_of_ble_eq_true rfl) ⟨Nat.le_of_ble_eq_true rfl, Nat.le_of_ble_eq_true rfl⟩ (fun r507 _ w508 => ?_)
        refine r_ws [(h2, .inr (3, [.ref h3, .ref h10, .ref h8, .ref h11, .int x5, .int x6, .int x7])), (h8, .inr (7, [.ref h3, .ref h12, .ref h13, .int x9, .int x10, .int x11])), (h3, .inr (4, [.ref h9, .int x8])), (h4, .inl (gI g, 48, .inl f481)), (h6, .inl (gI g, 6, .inl f483)), (h7, .inl (gI g, 6, .inl f484)), (h9, .inl (gB g, 1500, .inl fn4)), (h0, .inr (1, [.ref h1, .ref h2, .ref h3, .int z501, .long z478, .long 9223372036854775807, .int x1, .int x2, .long y4, .long y5])), (h1, .inr (2, [.ref h4, .int z479, .int z480, .ref h5, .ref h6, .ref h7])), (h5, .inl (gI g, 6, .inl f482))] rfl ?_
        have p509 : 0 ≤ (Int32.toInt r507) := w508.1
        have p510 : (Int32.toInt r507) ≤ 1 := w508.2.1
        have p511 : FTS (Int32.toInt r507) (Int32.toInt (f482 (Int32.toNatClampNeg 4))) (1 : Int) := w508.2.2
        refine r_callVv 72 C dX1_takePrivate_72 [] [(h0, .inr (1, [.ref h1, .ref h2, .ref h3, .int z501, .long z478, .long 9223372036854775807, .int x1, .int x2, .long y4, .long y5]))] [(h2, .inr (3, [.ref h3, .ref h10, .ref h8, .ref h11, .int x5, .int x6, .int x7])), (h8, .inr (7, [.ref h3, .ref h12, .ref h13, .int x9, .int x10, .int x11])), (h3, .inr (4, [.ref h9, .int x8])), (h4, .inl (gI g, 48, .inl f481)), (h6, .inl (gI g, 6, .inl f483)), (h7, .inl (gI g, 6, .inl f484)), (h9, .inl (gB g, 1500, .inl fn4)), (h1, .inr (2, [.ref h4, .int z479, .int z480, .ref h5, .ref h6, .ref h7])), (h5, .inl (gI g, 6, .inl f482))] (fun sz => c53_X1_want l g h0 r507 h1 h2 h3 z501 z478 9223372036854775807 x1 x2 y4 y5 ⟨p509, p510⟩ ⟨p503, p504⟩ ⟨p489, p490⟩ i_x1 i_x2 i_y4 i_y5 sz) gX1_takePrivate_X1_want rfl ⟨rfl, rfl⟩ 1 (by decide) ⟨Nat.le_of_ble_eq_true rfl, Nat.le_of_ble_eq_true rfl⟩ 7 rfl rfl [7] [0, 1, 2, 3, 4, 5, 6, 8, 9] rfl rfl (by decide) (by decide) (by decide) rfl rfl (Nat.le_of_ble_eq_true rfl) ⟨Nat.le_of_ble_eq_true rfl, Nat.le_of_ble_eq_true rfl⟩ (fun  z512 w513 => ?_)
        refine r_ws [(h2, .inr (3, [.ref h3, .ref h10, .ref h8, .ref h11, .int x5, .int x6, .int x7])), (h8, .inr (7, [.ref h3, .ref h12, .ref h13, .int x9, .int x10, .int x11])), (h3, .inr (4, [.ref h9, .int x8])), (h4, .inl (gI g, 48, .inl f481)), (h6, .inl (gI g, 6, .inl f483)), (h7, .inl (gI g, 6, .inl f484)), (h9, .inl (gB g, 1500, .inl fn4)), (h1, .inr (2, [.ref h4, .int z479, .int z480, .ref h5, .ref h6, .ref h7])), (h5, .inl (gI g, 6, .inl f482)), (h0, .inr (1, [.ref h1, .ref h2, .ref h3, .int z512, .long z478, .long 9223372036854775807, .int x1, .int x2, .long y4, .long y5]))] rfl ?_
        have p514 : 0 ≤ (Int32.toInt z512) := w513.1
        have p515 : (Int32.toInt z512) ≤ 2 := w513.2.1
        have p516 : WNT (Int32.toInt r507) (Int32.toInt z501) (Int32.toInt z512) := w513.2.2.1
        have p517 : (((Int32.toInt r507) = 1 ∧ (Int32.toInt z512) = (Int32.toInt z501)) ∨ ((Int32.toInt r507) = 0 ∧ 1 ≤ (Int32.toInt z512))) := w513.2.2.2
        clear p517
        refine r_aload_n 75 0 C dX1_takePrivate_75 rfl ?_
        refine r_aload_n 76 0 C dX1_takePrivate_76 rfl ?_
        refine r_get 77 C dX1_takePrivate_77 (k := 0) 9 rfl rfl hiX1 (by decide) rfl (mg 2 rfl) (Or.inl rfl) rfl ?_
        refine r_bipush 80 21 C dX1_takePrivate_80 (by decide) ?_
        refine r_iconst 82 1 C dX1_takePrivate_82 (by decide) ?_
        refine r_callVi 83 C dX1_takePrivate_83 [.ref h0] [(h1, .inr (2, [.ref h4, .int z479, .int z480, .ref h5, .ref h6, .ref h7])), (h5, .inl (gI g, 6, .inl f482))] [(h2, .inr (3, [.ref h3, .ref h10, .ref h8, .ref h11, .int x5, .int x6, .int x7])), (h8, .inr (7, [.ref h3, .ref h12, .ref h13, .int x9, .int x10, .int x11])), (h3, .inr (4, [.ref h9, .int x8])), (h4, .inl (gI g, 48, .inl f481)), (h6, .inl (gI g, 6, .inl f483)), (h7, .inl (gI g, 6, .inl f484)), (h9, .inl (gB g, 1500, .inl fn4)), (h0, .inr (1, [.ref h1, .ref h2, .ref h3, .int z512, .long z478, .long 9223372036854775807, .int x1, .int x2, .long y4, .long y5]))] (fun sz => c93_X2_fits l g h1 h5 1 h4 z479 z480 h6 h7 f482 ⟨p491, p492⟩ ⟨p493, p494⟩ sz) gX1_takePrivate_X2_fits rfl ⟨rfl, rfl⟩ 2 (by decide) ⟨Nat.le_of_ble_eq_true rfl, Nat.le_of_ble_eq_true rfl⟩ 7 rfl rfl [7, 8] [0, 1, 2, 3, 4, 5, 6, 9] rfl rfl (by decide) (by decide) (by decide) rfl rfl (Nat.le_of_ble_eq_true rfl) ⟨Nat.le_of_ble_eq_true rfl, Nat.le_of_ble_eq_true rfl⟩ (fun r518 _ w519 => ?_)
        refine r_ws [(h2, .inr (3, [.ref h3, .ref h10, .ref h8, .ref h11, .int x5, .int x6, .int x7])), (h8, .inr (7, [.ref h3, .ref h12, .ref h13, .int x9, .int x10, .int x11])), (h3, .inr (4, [.ref h9, .int x8])), (h4, .inl (gI g, 48, .inl f481)), (h6, .inl (gI g, 6, .inl f483)), (h7, .inl (gI g, 6, .inl f484)), (h9, .inl (gB g, 1500, .inl fn4)), (h0, .inr (1, [.ref h1, .ref h2, .ref h3, .int z512, .long z478, .long 9223372036854775807, .int x1, .int x2, .long y4, .long y5])), (h1, .inr (2, [.ref h4, .int z479, .int z480, .ref h5, .ref h6, .ref h7])), (h5, .inl (gI g, 6, .inl f482))] rfl ?_
        have p520 : 0 ≤ (Int32.toInt r518) := w519.1
        have p521 : (Int32.toInt r518) ≤ 1 := w519.2.1
        have p522 : FTS (Int32.toInt r518) (Int32.toInt (f482 (Int32.toNatClampNeg 5))) (1 : Int) := w519.2.2
        refine r_callVv 86 C dX1_takePrivate_86 [] [(h0, .inr (1, [.ref h1, .ref h2, .ref h3, .int z512, .long z478, .long 9223372036854775807, .int x1, .int x2, .long y4, .long y5]))] [(h2, .inr (3, [.ref h3, .ref h10, .ref h8, .ref h11, .int x5, .int x6, .int x7])), (h8, .inr (7, [.ref h3, .ref h12, .ref h13, .int x9, .int x10, .int x11])), (h3, .inr (4, [.ref h9, .int x8])), (h4, .inl (gI g, 48, .inl f481)), (h6, .inl (gI g, 6, .inl f483)), (h7, .inl (gI g, 6, .inl f484)), (h9, .inl (gB g, 1500, .inl fn4)), (h1, .inr (2, [.ref h4, .int z479, .int z480, .ref h5, .ref h6, .ref h7])), (h5, .inl (gI g, 6, .inl f482))] (fun sz => c53_X1_want l g h0 r518 h1 h2 h3 z512 z478 9223372036854775807 x1 x2 y4 y5 ⟨p520, p521⟩ ⟨p514, p515⟩ ⟨p489, p490⟩ i_x1 i_x2 i_y4 i_y5 sz) gX1_takePrivate_X1_want rfl ⟨rfl, rfl⟩ 1 (by decide) ⟨Nat.le_of_ble_eq_true rfl, Nat.le_of_ble_eq_true rfl⟩ 7 rfl rfl [7] [0, 1, 2, 3, 4, 5, 6, 8, 9] rfl rfl (by decide) (by decide) (by decide) rfl rfl (Nat.le_of_ble_eq_true rfl) ⟨Nat.le_of_ble_eq_true rfl, Nat.le_of_ble_eq_true rfl⟩ (fun  z523 w524 => ?_)
        refine r_ws [(h2, .inr (3, [.ref h3, .ref h10, .ref h8, .ref h11, .int x5, .int x6, .int x7])), (h8, .inr (7, [.ref h3, .ref h12, .ref h13, .int x9, .int x10, .int x11])), (h3, .inr (4, [.ref h9, .int x8])), (h4, .inl (gI g, 48, .inl f481)), (h6, .inl (gI g, 6, .inl f483)), (h7, .inl (gI g, 6, .inl f484)), (h9, .inl (gB g, 1500, .inl fn4)), (h1, .inr (2, [.ref h4, .int z479, .int z480, .ref h5, .ref h6, .ref h7])), (h5, .inl (gI g, 6, .inl f482)), (h0, .inr (1, [.ref h1, .ref h2, .ref h3, .int z523, .long z478, .long 9223372036854775807, .int x1, .int x2, .long y4, .long y5]))] rfl ?_
        have p525 : 0 ≤ (Int32.toInt z523) := w524.1
        have p526 : (Int32.toInt z523) ≤ 2 := w524.2.1
        have p527 : WNT (Int32.toInt r518) (Int32.toInt z512) (Int32.toInt z523) := w524.2.2.1
        have p528 : (((Int32.toInt r518) = 1 ∧ (Int32.toInt z523) = (Int32.toInt z512)) ∨ ((Int32.toInt r518) = 0 ∧ 1 ≤ (Int32.toInt z523))) := w524.2.2.2
        clear p528
        refine r_aload_n 89 0 C dX1_takePrivate_89 rfl ?_
        refine r_get 90 C dX1_takePrivate_90 (k := 1) 9 rfl rfl hiX1 (by decide) rfl (mg 3 rfl) (Or.inl rfl) rfl ?_
        refine r_aload_n 93 0 C dX1_takePrivate_93 rfl ?_
        refine r_get 94 C dX1_takePrivate_94 (k := 0) 9 rfl rfl hiX1 (by decide) rfl (mg 2 rfl) (Or.inl rfl) rfl ?_
        refine r_bipush 97 20 C dX1_takePrivate_97 (by decide) ?_
        refine r_callVi 99 C dX1_takePrivate_99 [.ref h2] [(h1, .inr (2, [.ref h4, .int z479, .int z480, .ref h5, .ref h6, .ref h7])), (h5, .inl (gI g, 6, .inl f482)), (h6, .inl (gI g, 6, .inl f483))] [(h2, .inr (3, [.ref h3, .ref h10, .ref h8, .ref h11, .int x5, .int x6, .int x7])), (h8, .inr (7, [.ref h3, .ref h12, .ref h13, .int x9, .int x10, .int x11])), (h3, .inr (4, [.ref h9, .int x8])), (h4, .inl (gI g, 48, .inl f481)), (h7, .inl (gI g, 6, .inl f484)), (h9, .inl (gB g, 1500, .inl fn4)), (h0, .inr (1, [.ref h1, .ref h2, .ref h3, .int z523, .long z478, .long 9223372036854775807, .int x1, .int x2, .long y4, .long y5]))] (fun sz => c95_X2_first l g h1 h5 h6 h4 z479 z480 h7 f482 f483 ⟨p491, p492⟩ ⟨p493, p494⟩ sz) gX1_takePrivate_X2_first rfl ⟨rfl, rfl⟩ 1 (by decide) ⟨Nat.le_of_ble_eq_true rfl, Nat.le_of_ble_eq_true rfl⟩ 7 rfl rfl [7, 8, 4] [0, 1, 2, 3, 5, 6, 9] rfl rfl (by decide) (by decide) (by decide) rfl rfl (Nat.le_of_ble_eq_true rfl) ⟨Nat.le_of_ble_eq_true rfl, Nat.le_of_ble_eq_true rfl⟩ (fun r529 _ w530 => ?_)
        refine r_ws [(h2, .inr (3, [.ref h3, .ref h10, .ref h8, .ref h11, .int x5, .int x6, .int x7])), (h8, .inr (7, [.ref h3, .ref h12, .ref h13, .int x9, .int x10, .int x11])), (h3, .inr (4, [.ref h9, .int x8])), (h4, .inl (gI g, 48, .inl f481)), (h7, .inl (gI g, 6, .inl f484)), (h9, .inl (gB g, 1500, .inl fn4)), (h0, .inr (1, [.ref h1, .ref h2, .ref h3, .int z523, .long z478, .long 9223372036854775807, .int x1, .int x2, .long y4, .long y5])), (h1, .inr (2, [.ref h4, .int z479, .int z480, .ref h5, .ref h6, .ref h7])), (h5, .inl (gI g, 6, .inl f482)), (h6, .inl (gI g, 6, .inl f483))] rfl ?_
        have p531 : FST (Int32.toInt r529) (Int32.toInt (f482 (Int32.toNatClampNeg 4))) (Int32.toInt (f483 (Int32.toNatClampNeg 4))) := w530
        have gr529 := fb_rng r529
        refine r_putN 102 C dX1_takePrivate_102 (k := 5) 0 rfl rfl hiX3 tyX3 tyX3_ok nmX3 (by decide) rfl (mg 11 rfl) rfl rfl rfl rfl rfl (Nat.le_of_ble_eq_true rfl) [(h2, .inr (3, [.ref h3, .ref h10, .ref h8, .ref h11, .int x5, .int r529, .int x7])), (h8, .inr (7, [.ref h3, .ref h12, .ref h13, .int x9, .int x10, .int x11])), (h3, .inr (4, [.ref h9, .int x8])), (h4, .inl (gI g, 48, .inl f481)), (h7, .inl (gI g, 6, .inl f484)), (h9, .inl (gB g, 1500, .inl fn4)), (h0, .inr (1, [.ref h1, .ref h2, .ref h3, .int z523, .long z478, .long 9223372036854775807, .int x1, .int x2, .long y4, .long y5])), (h1, .inr (2, [.ref h4, .int z479, .int z480, .ref h5, .ref h6, .ref h7])), (h5, .inl (gI g, 6, .inl f482)), (h6, .inl (gI g, 6, .inl f483))] rfl ?_
        refine r_aload_n 105 0 C dX1_takePrivate_105 rfl ?_
        refine r_get 106 C dX1_takePrivate_106 (k := 1) 6 rfl rfl hiX1 (by decide) rfl (mg 3 rfl) (Or.inl rfl) rfl ?_
        refine r_aload_n 109 0 C dX1_takePrivate_109 rfl ?_
        refine r_get 110 C dX1_takePrivate_110 (k := 0) 6 rfl rfl hiX1 (by decide) rfl (mg 2 rfl) (Or.inl rfl) rfl ?_
        refine r_bipush 113 21 C dX1_takePrivate_113 (by decide) ?_
        refine r_callVi 115 C dX1_takePrivate_115 [.ref h2] [(h1, .inr (2, [.ref h4, .int z479, .int z480, .ref h5, .ref h6, .ref h7])), (h5, .inl (gI g, 6, .inl f482)), (h6, .inl (gI g, 6, .inl f483))] [(h2, .inr (3, [.ref h3, .ref h10, .ref h8, .ref h11, .int x5, .int r529, .int x7])), (h8, .inr (7, [.ref h3, .ref h12, .ref h13, .int x9, .int x10, .int x11])), (h3, .inr (4, [.ref h9, .int x8])), (h4, .inl (gI g, 48, .inl f481)), (h7, .inl (gI g, 6, .inl f484)), (h9, .inl (gB g, 1500, .inl fn4)), (h0, .inr (1, [.ref h1, .ref h2, .ref h3, .int z523, .long z478, .long 9223372036854775807, .int x1, .int x2, .long y4, .long y5]))] (fun sz => c97_X2_first l g h1 h5 h6 h4 z479 z480 h7 f482 f483 ⟨p491, p492⟩ ⟨p493, p494⟩ sz) gX1_takePrivate_X2_first rfl ⟨rfl, rfl⟩ 1 (by decide) ⟨Nat.le_of_ble_eq_true rfl, Nat.le_of_ble_eq_true rfl⟩ 7 rfl rfl [7, 8, 9] [0, 1, 2, 3, 4, 5, 6] rfl rfl (by decide) (by decide) (by decide) rfl rfl (Nat.le_of_ble_eq_true rfl) ⟨Nat.le_of_ble_eq_true rfl, Nat.le_of_ble_eq_true rfl⟩ (fun r532 _ w533 => ?_)
        refine r_ws [(h2, .inr (3, [.ref h3, .ref h10, .ref h8, .ref h11, .int x5, .int r529, .int x7])), (h8, .inr (7, [.ref h3, .ref h12, .ref h13, .int x9, .int x10, .int x11])), (h3, .inr (4, [.ref h9, .int x8])), (h4, .inl (gI g, 48, .inl f481)), (h7, .inl (gI g, 6, .inl f484)), (h9, .inl (gB g, 1500, .inl fn4)), (h0, .inr (1, [.ref h1, .ref h2, .ref h3, .int z523, .long z478, .long 9223372036854775807, .int x1, .int x2, .long y4, .long y5])), (h1, .inr (2, [.ref h4, .int z479, .int z480, .ref h5, .ref h6, .ref h7])), (h5, .inl (gI g, 6, .inl f482)), (h6, .inl (gI g, 6, .inl f483))] rfl ?_
        have p534 : FST (Int32.toInt r532) (Int32.toInt (f482 (Int32.toNatClampNeg 5))) (Int32.toInt (f483 (Int32.toNatClampNeg 5))) := w533
        have gr532 := fb_rng r532
        refine r_putN 118 C dX1_takePrivate_118 (k := 6) 0 rfl rfl hiX3 tyX3 tyX3_ok nmX3 (by decide) rfl (mg 12 rfl) rfl rfl rfl rfl rfl (Nat.le_of_ble_eq_true rfl) [(h2, .inr (3, [.ref h3, .ref h10, .ref h8, .ref h11, .int x5, .int r529, .int r532])), (h8, .inr (7, [.ref h3, .ref h12, .ref h13, .int x9, .int x10, .int x11])), (h3, .inr (4, [.ref h9, .int x8])), (h4, .inl (gI g, 48, .inl f481)), (h7, .inl (gI g, 6, .inl f484)), (h9, .inl (gB g, 1500, .inl fn4)), (h0, .inr (1, [.ref h1, .ref h2, .ref h3, .int z523, .long z478, .long 9223372036854775807, .int x1, .int x2, .long y4, .long y5])), (h1, .inr (2, [.ref h4, .int z479, .int z480, .ref h5, .ref h6, .ref h7])), (h5, .inl (gI g, 6, .inl f482)), (h6, .inl (gI g, 6, .inl f483))] rfl ?_
        refine r_aload_n 121 0 C dX1_takePrivate_121 rfl ?_
        refine r_get 122 C dX1_takePrivate_122 (k := 3) 6 rfl rfl hiX1 (by decide) rfl (mg 4 rfl) (Or.inl rfl) rfl ?_
        refine r_if_ne 125 174 C dX1_takePrivate_125 (by decide) (fun c535 => ?_) (fun c535 => ?_)
        · skip
          have k536 : ¬ ((Int32.toInt z523) = 0) := fun h_9 => c535 ((fa_eq z523 0).mpr h_9)
          exact r_vret 174 Rt dX1_takePrivate_174 (z523, z478, x1, x2, y4, y5, z479, z480, r529, r532, f481, f482, f483, f484, x9, x10, x11) (show 0 ≤ (Int32.toInt z523) ∧ (Int32.toInt z523) ≤ 2 ∧ -8589934592 ≤ (Int64.toInt z478) ∧ (Int64.toInt z478) ≤ 8589934592 ∧ -257 ≤ (Int32.toInt x1) ∧ (Int32.toInt x1) ≤ 65535 ∧ -1 ≤ (Int32.toInt x2) ∧ (Int32.toInt x2) ≤ 255 ∧ -8589934592 ≤ (Int64.toInt y4) ∧ (Int64.toInt y4) ≤ 8589934592 ∧ -8589934592 ≤ (Int64.toInt y5) ∧ (Int64.toInt y5) ≤ 8589934592 ∧ 0 ≤ (Int32.toInt z479) ∧ (Int32.toInt z479) ≤ 48 ∧ 0 ≤ (Int32.toInt z480) ∧ (Int32.toInt z480) ≤ 1 ∧ SEQ (Int32.toInt x0) (Int32.toInt z523) (PRIV (GB fn4 (Int32.toInt x8)) (Int32.toInt x8) (Int64.toInt y0) (Int64.toInt y1)) (fun q => q = ((Int32.toInt x9), (Int32.toInt r529), (Int32.toInt r532))) from ⟨(show _ ∧ _ from ⟨p525, p526⟩).1, (show _ ∧ _ from ⟨p525, p526⟩).2, (show _ ∧ _ from ⟨p489, p490⟩).1, (show _ ∧ _ from ⟨p489, p490⟩).2, i_x1.1, i_x1.2, i_x2.1, i_x2.2, i_y4.1, i_y4.2, i_y5.1, i_y5.2, (show _ ∧ _ from ⟨p491, p492⟩).1, (show _ ∧ _ from ⟨p491, p492⟩).2, (show _ ∧ _ from ⟨p493, p494⟩).1, (show _ ∧ _ from ⟨p493, p494⟩).2, (by exact priv_end (by omega) p474 (by omega) (by omega) p495 p505 p516 p527 (by have h_1 := p500; unfold FTS at h_1; omega) (by have h_1 := p511; unfold FTS at h_1; omega) (by have h_1 := p522; unfold FTS at h_1; omega) (by have h_1 := p531; unfold FST at h_1; omega) (by have h_1 := p534; unfold FST at h_1; omega) (by first | exact Or.inl ⟨by omega, by omega⟩ | exact Or.inr (Or.inl ⟨by omega, (by omega), by omega, by omega⟩)))⟩) [6, 7, 0, 2, 3, 8, 9, 4, 1, 5] (by decide) rfl (Nat.le_of_ble_eq_true rfl) (Nat.le_of_ble_eq_true rfl)
        · skip
          have k537 : (Int32.toInt z523) = 0 := (fa_eq z523 0).mp c535
          refine r_aload_n 128 0 C dX1_takePrivate_128 rfl ?_
          refine r_get 129 C dX1_takePrivate_129 (k := 0) 6 rfl rfl hiX1 (by decide) rfl (mg 2 rfl) (Or.inl rfl) rfl ?_
          refine r_bipush 132 19 C dX1_takePrivate_132 (by decide) ?_
          refine r_callVi 134 C dX1_takePrivate_134 [] [(h1, .inr (2, [.ref h4, .int z479, .int z480, .ref h5, .ref h6, .ref h7])), (h5, .inl (gI g, 6, .inl f482))] [(h2, .inr (3, [.ref h3, .ref h10, .ref h8, .ref h11, .int x5, .int r529, .int r532])), (h8, .inr (7, [.ref h3, .ref h12, .ref h13, .int x9, .int x10, .int x11])), (h3, .inr (4, [.ref h9, .int x8])), (h4, .inl (gI g, 48, .inl f481)), (h7, .inl (gI g, 6, .inl f484)), (h9, .inl (gB g, 1500, .inl fn4)), (h0, .inr (1, [.ref h1, .ref h2, .ref h3, .int z523, .long z478, .long 9223372036854775807, .int x1, .int x2, .long y4, .long y5])), (h6, .inl (gI g, 6, .inl f483))] (fun sz => c98_X2_isTold l g h1 h5 h4 z479 z480 h6 h7 f482 ⟨p491, p492⟩ ⟨p493, p494⟩ sz) gX1_takePrivate_X2_isTold rfl ⟨rfl, rfl⟩ 1 (by decide) ⟨Nat.le_of_ble_eq_true rfl, Nat.le_of_ble_eq_true rfl⟩ 7 rfl rfl [7, 8] [0, 1, 2, 3, 4, 5, 6, 9] rfl rfl (by decide) (by decide) (by decide) rfl rfl (Nat.le_of_ble_eq_true rfl) ⟨Nat.le_of_ble_eq_true rfl, Nat.le_of_ble_eq_true rfl⟩ (fun r538 _ w539 => ?_)
          refine r_ws [(h2, .inr (3, [.ref h3, .ref h10, .ref h8, .ref h11, .int x5, .int r529, .int r532])), (h8, .inr (7, [.ref h3, .ref h12, .ref h13, .int x9, .int x10, .int x11])), (h3, .inr (4, [.ref h9, .int x8])), (h4, .inl (gI g, 48, .inl f481)), (h7, .inl (gI g, 6, .inl f484)), (h9, .inl (gB g, 1500, .inl fn4)), (h0, .inr (1, [.ref h1, .ref h2, .ref h3, .int z523, .long z478, .long 9223372036854775807, .int x1, .int x2, .long y4, .long y5])), (h6, .inl (gI g, 6, .inl f483)), (h1, .inr (2, [.ref h4, .int z479, .int z480, .ref h5, .ref h6, .ref h7])), (h5, .inl (gI g, 6, .inl f482))] rfl ?_
          have p540 : 0 ≤ (Int32.toInt r538) := w539.1
          have p541 : (Int32.toInt r538) ≤ 1 := w539.2.1
          have p542 : TOL (Int32.toInt r538) (Int32.toInt (f482 (Int32.toNatClampNeg 3))) := w539.2.2
          refine r_if_eq 137 174 C dX1_takePrivate_137 (by decide) (fun c543 => ?_) (fun c543 => ?_)
          · skip
            have k544 : (Int32.toInt r538) = 0 := (fa_eq r538 0).mp c543
            exact r_vret 174 Rt dX1_takePrivate_174 (z523, z478, x1, x2, y4, y5, z479, z480, r529, r532, f481, f482, f483, f484, x9, x10, x11) (show 0 ≤ (Int32.toInt z523) ∧ (Int32.toInt z523) ≤ 2 ∧ -8589934592 ≤ (Int64.toInt z478) ∧ (Int64.toInt z478) ≤ 8589934592 ∧ -257 ≤ (Int32.toInt x1) ∧ (Int32.toInt x1) ≤ 65535 ∧ -1 ≤ (Int32.toInt x2) ∧ (Int32.toInt x2) ≤ 255 ∧ -8589934592 ≤ (Int64.toInt y4) ∧ (Int64.toInt y4) ≤ 8589934592 ∧ -8589934592 ≤ (Int64.toInt y5) ∧ (Int64.toInt y5) ≤ 8589934592 ∧ 0 ≤ (Int32.toInt z479) ∧ (Int32.toInt z479) ≤ 48 ∧ 0 ≤ (Int32.toInt z480) ∧ (Int32.toInt z480) ≤ 1 ∧ SEQ (Int32.toInt x0) (Int32.toInt z523) (PRIV (GB fn4 (Int32.toInt x8)) (Int32.toInt x8) (Int64.toInt y0) (Int64.toInt y1)) (fun q => q = ((Int32.toInt x9), (Int32.toInt r529), (Int32.toInt r532))) from ⟨(show _ ∧ _ from ⟨p525, p526⟩).1, (show _ ∧ _ from ⟨p525, p526⟩).2, (show _ ∧ _ from ⟨p489, p490⟩).1, (show _ ∧ _ from ⟨p489, p490⟩).2, i_x1.1, i_x1.2, i_x2.1, i_x2.2, i_y4.1, i_y4.2, i_y5.1, i_y5.2, (show _ ∧ _ from ⟨p491, p492⟩).1, (show _ ∧ _ from ⟨p491, p492⟩).2, (show _ ∧ _ from ⟨p493, p494⟩).1, (show _ ∧ _ from ⟨p493, p494⟩).2, (by exact priv_end (by omega) p474 (by omega) (by omega) p495 p505 p516 p527 (by have h_1 := p500; unfold FTS at h_1; omega) (by have h_1 := p511; unfold FTS at h_1; omega) (by have h_1 := p522; unfold FTS at h_1; omega) (by have h_1 := p531; unfold FST at h_1; omega) (by have h_1 := p534; unfold FST at h_1; omega) (by first | exact Or.inl ⟨by omega, by omega⟩ | exact Or.inr (Or.inl ⟨by omega, (by have h_1 := p542; unfold TOL at h_1; omega), by omega, by omega⟩)))⟩) [6, 8, 0, 2, 3, 9, 7, 4, 1, 5] (by decide) rfl (Nat.le_of_ble_eq_true rfl) (Nat.le_of_ble_eq_true rfl)
          · skip
            have k545 : ¬ ((Int32.toInt r538) = 0) := fun h_9 => c543 ((fa_eq r538 0).mpr h_9)
            refine r_aload_n 140 0 C dX1_takePrivate_140 rfl ?_
            refine r_lload_n 141 1 C dX1_takePrivate_141 rfl ?_
            refine r_aload_n 142 0 C dX1_takePrivate_142 rfl ?_
            refine r_get 143 C dX1_takePrivate_143 (k := 0) 6 rfl rfl hiX1 (by decide) rfl (mg 2 rfl) (Or.inl rfl) rfl ?_
            refine r_bipush 146 19 C dX1_takePrivate_146 (by decide) ?_
            refine r_callVi 148 C dX1_takePrivate_148 [.long y0, .ref h0] [(h1, .inr (2, [.ref h4, .int z479, .int z480, .ref h5, .ref h6, .ref h7])), (h5, .inl (gI g, 6, .inl f482)), (h6, .inl (gI g, 6, .inl f483))] [(h2, .inr (3, [.ref h3, .ref h10, .ref h8, .ref h11, .int x5, .int r529, .int r532])), (h8, .inr (7, [.ref h3, .ref h12, .ref h13, .int x9, .int x10, .int x11])), (h3, .inr (4, [.ref h9, .int x8])), (h4, .inl (gI g, 48, .inl f481)), (h7, .inl (gI g, 6, .inl f484)), (h9, .inl (gB g, 1500, .inl fn4)), (h0, .inr (1, [.ref h1, .ref h2, .ref h3, .int z523, .long z478, .long 9223372036854775807, .int x1, .int x2, .long y4, .long y5]))] (fun sz => c99_X2_first l g h1 h5 h6 h4 z479 z480 h7 f482 f483 ⟨p491, p492⟩ ⟨p493, p494⟩ sz) gX1_takePrivate_X2_first rfl ⟨rfl, rfl⟩ 1 (by decide) ⟨Nat.le_of_ble_eq_true rfl, Nat.le_of_ble_eq_true rfl⟩ 8 rfl rfl [8, 9, 7] [0, 1, 2, 3, 4, 5, 6] rfl rfl (by decide) (by decide) (by decide) rfl rfl (Nat.le_of_ble_eq_true rfl) ⟨Nat.le_of_ble_eq_true rfl, Nat.le_of_ble_eq_true rfl⟩ (fun r546 _ w547 => ?_)
            refine r_ws [(h2, .inr (3, [.ref h3, .ref h10, .ref h8, .ref h11, .int x5, .int r529, .int r532])), (h8, .inr (7, [.ref h3, .ref h12, .ref h13, .int x9, .int x10, .int x11])), (h3, .inr (4, [.ref h9, .int x8])), (h4, .inl (gI g, 48, .inl f481)), (h7, .inl (gI g, 6, .inl f484)), (h9, .inl (gB g, 1500, .inl fn4)), (h0, .inr (1, [.ref h1, .ref h2, .ref h3, .int z523, .long z478, .long 9223372036854775807, .int x1, .int x2, .long y4, .long y5])), (h1, .inr (2, [.ref h4, .int z479, .int z480, .ref h5, .ref h6, .ref h7])), (h5, .inl (gI g, 6, .inl f482)), (h6, .inl (gI g, 6, .inl f483))] rfl ?_
            have p548 : FST (Int32.toInt r546) (Int32.toInt (f482 (Int32.toNatClampNeg 3))) (Int32.toInt (f483 (Int32.toNatClampNeg 3))) := w547
            have gr546 := fb_rng r546
            obtain ⟨z549, ez549⟩ : ∃ z_9, Int32.toInt64 r546 = z_9 := ⟨_, rfl⟩
            have tz549 : (Int64.toInt z549) = (Int32.toInt r546) := by rw [← ez549]; exact Int32.toInt_toInt64 _
            refine r_i2l 151 z549 C dX1_takePrivate_151 ez549 ?_
            obtain ⟨z550, ez550⟩ : ∃ z_9, y0 + z549 = z_9 := ⟨_, rfl⟩
            have tz550 : (Int64.toInt z550) = (Int64.toInt y0) + (Int64.toInt z549) := by rw [← ez550]; exact fb_addL (by show -9223372036854775808 ≤ (Int64.toInt y0) + (Int64.toInt z549); omega) (by show (Int64.toInt y0) + (Int64.toInt z549) < 9223372036854775808; omega)
            refine r_ladd 152 z550 C dX1_takePrivate_152 ez550 ?_
            refine r_put 153 C dX1_takePrivate_153 (k := 4) 6 rfl rfl hiX1 tyX1 tyX1_ok nmX1 (by decide) rfl (mg 5 rfl) (Or.inl rfl) rfl rfl rfl rfl (Nat.le_of_ble_eq_true rfl) [(h2, .inr (3, [.ref h3, .ref h10, .ref h8, .ref h11, .int x5, .int r529, .int r532])), (h8, .inr (7, [.ref h3, .ref h12, .ref h13, .int x9, .int x10, .int x11])), (h3, .inr (4, [.ref h9, .int x8])), (h4, .inl (gI g, 48, .inl f481)), (h7, .inl (gI g, 6, .inl f484)), (h9, .inl (gB g, 1500, .inl fn4)), (h0, .inr (1, [.ref h1, .ref h2, .ref h3, .int z523, .long z550, .long 9223372036854775807, .int x1, .int x2, .long y4, .long y5])), (h1, .inr (2, [.ref h4, .int z479, .int z480, .ref h5, .ref h6, .ref h7])), (h5, .inl (gI g, 6, .inl f482)), (h6, .inl (gI g, 6, .inl f483))] rfl ?_
            refine r_aload_n 156 0 C dX1_takePrivate_156 rfl ?_
            refine r_iconst 157 0 C dX1_takePrivate_157 (by decide) ?_
            refine r_ldc 158 65535 C dX1_takePrivate_158 (mg 6 rfl) ?_
            refine r_callVv 160 C dX1_takePrivate_160 [] [(h0, .inr (1, [.ref h1, .ref h2, .ref h3, .int z523, .long z550, .long 9223372036854775807, .int x1, .int x2, .long y4, .long y5])), (h3, .inr (4, [.ref h9, .int x8])), (h9, .inl (gB g, 1500, .inl fn4))] [(h2, .inr (3, [.ref h3, .ref h10, .ref h8, .ref h11, .int x5, .int r529, .int r532])), (h8, .inr (7, [.ref h3, .ref h12, .ref h13, .int x9, .int x10, .int x11])), (h4, .inl (gI g, 48, .inl f481)), (h7, .inl (gI g, 6, .inl f484)), (h1, .inr (2, [.ref h4, .int z479, .int z480, .ref h5, .ref h6, .ref h7])), (h5, .inl (gI g, 6, .inl f482)), (h6, .inl (gI g, 6, .inl f483))] (fun sz => c57_X1_takeIndex l g h0 h3 h9 0 65535 h1 h2 z523 z550 9223372036854775807 x1 x2 y4 y5 x8 fn4 ⟨p525, p526⟩ ⟨by omega, by omega⟩ i_x1 i_x2 i_y4 i_y5 i_x8 (by show ((Int32.toInt x8) ≤ (9223372036854775807 : Int)); first | assumption | omega) sz) gX1_takePrivate_X1_takeIndex rfl ⟨rfl, rfl⟩ 2 (by decide) ⟨Nat.le_of_ble_eq_true rfl, Nat.le_of_ble_eq_true rfl⟩ 6 rfl rfl [6, 2, 5] [0, 1, 3, 4, 7, 8, 9] rfl rfl (by decide) (by decide) (by decide) rfl rfl (Nat.le_of_ble_eq_true rfl) ⟨Nat.le_of_ble_eq_true rfl, Nat.le_of_ble_eq_true rfl⟩ (fun  u558 w557 => ?_)
            obtain ⟨z551, z552, z553, z554, z555, z556⟩ := u558
            refine r_ws [(h2, .inr (3, [.ref h3, .ref h10, .ref h8, .ref h11, .int x5, .int r529, .int r532])), (h8, .inr (7, [.ref h3, .ref h12, .ref h13, .int x9, .int x10, .int x11])), (h4, .inl (gI g, 48, .inl f481)), (h7, .inl (gI g, 6, .inl f484)), (h1, .inr (2, [.ref h4, .int z479, .int z480, .ref h5, .ref h6, .ref h7])), (h5, .inl (gI g, 6, .inl f482)), (h6, .inl (gI g, 6, .inl f483)), (h0, .inr (1, [.ref h1, .ref h2, .ref h3, .int z551, .long z552, .long 9223372036854775807, .int z553, .int z554, .long z555, .long z556])), (h3, .inr (4, [.ref h9, .int x8])), (h9, .inl (gB g, 1500, .inl fn4))] rfl ?_
            have p559 : 0 ≤ (Int32.toInt z551) := w557.1
            have p560 : (Int32.toInt z551) ≤ 2 := w557.2.1
            have p561 : -8589934592 ≤ (Int64.toInt z552) := w557.2.2.1
            have p562 : (Int64.toInt z552) ≤ 8589934592 := w557.2.2.2.1
            have p563 : -257 ≤ (Int32.toInt z553) := w557.2.2.2.2.1
            have p564 : (Int32.toInt z553) ≤ 65535 := w557.2.2.2.2.2.1
            have p565 : -1 ≤ (Int32.toInt z554) := w557.2.2.2.2.2.2.1
            have p566 : (Int32.toInt z554) ≤ 255 := w557.2.2.2.2.2.2.2.1
            have p567 : -8589934592 ≤ (Int64.toInt z555) := w557.2.2.2.2.2.2.2.2.1
            have p568 : (Int64.toInt z555) ≤ 8589934592 := w557.2.2.2.2.2.2.2.2.2.1
            have p569 : -8589934592 ≤ (Int64.toInt z556) := w557.2.2.2.2.2.2.2.2.2.2.1
            have p570 : (Int64.toInt z556) ≤ 8589934592 := w557.2.2.2.2.2.2.2.2.2.2.2.1
            have p571 : SEQ (Int32.toInt z523) (Int32.toInt z551) (IDX (GB fn4 (Int32.toInt x8)) (Int32.toInt x8) (Int64.toInt z550) (0 : Int) (65535 : Int)) (IXR (Int32.toInt z553) (Int64.toInt z552) (Int32.toInt z554) (Int64.toInt z555) (Int64.toInt z556) (Int64.toInt z550)) := w557.2.2.2.2.2.2.2.2.2.2.2.2.1
            have p572 : IXN (Int32.toInt z523) (Int32.toInt z551) (0 : Int) (65535 : Int) (Int32.toInt z553) (Int64.toInt z556) := w557.2.2.2.2.2.2.2.2.2.2.2.2.2
            refine r_aload_n 163 0 C dX1_takePrivate_163 rfl ?_
            refine r_aload_n 164 0 C dX1_takePrivate_164 rfl ?_
            refine r_get 165 C dX1_takePrivate_165 (k := 1) 7 rfl rfl hiX1 (by decide) rfl (mg 3 rfl) (Or.inl rfl) rfl ?_
            refine r_getN 168 C dX1_takePrivate_168 (k := 2) 0 rfl rfl hiX3 (by decide) rfl (mg 13 rfl) rfl rfl ?_
            refine r_callVv 171 C dX1_takePrivate_171 [] [(h0, .inr (1, [.ref h1, .ref h2, .ref h3, .int z551, .long z552, .long 9223372036854775807, .int z553, .int z554, .long z555, .long z556])), (h8, .inr (7, [.ref h3, .ref h12, .ref h13, .int x9, .int x10, .int x11]))] [(h2, .inr (3, [.ref h3, .ref h10, .ref h8, .ref h11, .int x5, .int r529, .int r532])), (h4, .inl (gI g, 48, .inl f481)), (h7, .inl (gI g, 6, .inl f484)), (h1, .inr (2, [.ref h4, .int z479, .int z480, .ref h5, .ref h6, .ref h7])), (h5, .inl (gI g, 6, .inl f482)), (h6, .inl (gI g, 6, .inl f483)), (h3, .inr (4, [.ref h9, .int x8])), (h9, .inl (gB g, 1500, .inl fn4))] (fun sz => c59_X1_shelve l g h0 h8 h1 h2 h3 z551 z552 9223372036854775807 z553 z554 z555 z556 h12 h13 x9 x10 x11 ⟨p559, p560⟩ ⟨p561, p562⟩ ⟨p563, p564⟩ ⟨p565, p566⟩ ⟨p567, p568⟩ ⟨p569, p570⟩ sz) gX1_takePrivate_X1_shelve rfl ⟨rfl, rfl⟩ 1 (by decide) ⟨Nat.le_of_ble_eq_true rfl, Nat.le_of_ble_eq_true rfl⟩ 7 rfl rfl [7, 1] [0, 2, 3, 4, 5, 6, 8, 9] rfl rfl (by decide) (by decide) (by decide) rfl rfl (Nat.le_of_ble_eq_true rfl) ⟨Nat.le_of_ble_eq_true rfl, Nat.le_of_ble_eq_true rfl⟩ (fun  u577 w576 => ?_)
            obtain ⟨z573, z574, z575⟩ := u577
            refine r_ws [(h2, .inr (3, [.ref h3, .ref h10, .ref h8, .ref h11, .int x5, .int r529, .int r532])), (h4, .inl (gI g, 48, .inl f481)), (h7, .inl (gI g, 6, .inl f484)), (h1, .inr (2, [.ref h4, .int z479, .int z480, .ref h5, .ref h6, .ref h7])), (h5, .inl (gI g, 6, .inl f482)), (h6, .inl (gI g, 6, .inl f483)), (h3, .inr (4, [.ref h9, .int x8])), (h9, .inl (gB g, 1500, .inl fn4)), (h0, .inr (1, [.ref h1, .ref h2, .ref h3, .int z551, .long z552, .long 9223372036854775807, .int z553, .int z554, .long z555, .long z556])), (h8, .inr (7, [.ref h3, .ref h12, .ref h13, .int z573, .int z574, .int z575]))] rfl ?_
            have gz573 := fb_rng z573
            have gz574 := fb_rng z574
            have gz575 := fb_rng z575
            have p578 : SHV (Int32.toInt z551) (Int32.toInt z553) (Int32.toInt x9) (Int32.toInt z573) := w576
            exact r_vret 174 Rt dX1_takePrivate_174 (z551, z552, z553, z554, z555, z556, z479, z480, r529, r532, f481, f482, f483, f484, z573, z574, z575) (show 0 ≤ (Int32.toInt z551) ∧ (Int32.toInt z551) ≤ 2 ∧ -8589934592 ≤ (Int64.toInt z552) ∧ (Int64.toInt z552) ≤ 8589934592 ∧ -257 ≤ (Int32.toInt z553) ∧ (Int32.toInt z553) ≤ 65535 ∧ -1 ≤ (Int32.toInt z554) ∧ (Int32.toInt z554) ≤ 255 ∧ -8589934592 ≤ (Int64.toInt z555) ∧ (Int64.toInt z555) ≤ 8589934592 ∧ -8589934592 ≤ (Int64.toInt z556) ∧ (Int64.toInt z556) ≤ 8589934592 ∧ 0 ≤ (Int32.toInt z479) ∧ (Int32.toInt z479) ≤ 48 ∧ 0 ≤ (Int32.toInt z480) ∧ (Int32.toInt z480) ≤ 1 ∧ SEQ (Int32.toInt x0) (Int32.toInt z551) (PRIV (GB fn4 (Int32.toInt x8)) (Int32.toInt x8) (Int64.toInt y0) (Int64.toInt y1)) (fun q => q = ((Int32.toInt z573), (Int32.toInt r529), (Int32.toInt r532))) from ⟨(show _ ∧ _ from ⟨p559, p560⟩).1, (show _ ∧ _ from ⟨p559, p560⟩).2, (show _ ∧ _ from ⟨p561, p562⟩).1, (show _ ∧ _ from ⟨p561, p562⟩).2, (show _ ∧ _ from ⟨p563, p564⟩).1, (show _ ∧ _ from ⟨p563, p564⟩).2, (show _ ∧ _ from ⟨p565, p566⟩).1, (show _ ∧ _ from ⟨p565, p566⟩).2, (show _ ∧ _ from ⟨p567, p568⟩).1, (show _ ∧ _ from ⟨p567, p568⟩).2, (show _ ∧ _ from ⟨p569, p570⟩).1, (show _ ∧ _ from ⟨p569, p570⟩).2, (show _ ∧ _ from ⟨p491, p492⟩).1, (show _ ∧ _ from ⟨p491, p492⟩).2, (show _ ∧ _ from ⟨p493, p494⟩).1, (show _ ∧ _ from ⟨p493, p494⟩).2, (by exact priv_end (by omega) p474 (by omega) (by omega) p495 p505 p516 p527 (by have h_1 := p500; unfold FTS at h_1; omega) (by have h_1 := p511; unfold FTS at h_1; omega) (by have h_1 := p522; unfold FTS at h_1; omega) (by have h_1 := p531; unfold FST at h_1; omega) (by have h_1 := p534; unfold FST at h_1; omega) (Or.inr (Or.inr ⟨(by have h_1 := p542; unfold TOL at h_1; omega), seq_of (ixr_len p571 (fun h_9 => (by have h_1 := p572; unfold IXN at h_1; have h_2 := p578; unfold SHV at h_2; omega))) (idx_p (by have h_1 := p542; unfold TOL at h_1; have h_2 := p548; unfold FST at h_2; omega))⟩)))⟩) [8, 3, 0, 6, 1, 4, 5, 2, 9, 7] (by decide) rfl (Nat.le_of_ble_eq_true rfl) (Nat.le_of_ble_eq_true rfl)
      · skip
        have k579 : ¬ ((Int32.toInt z467) < 0) := fun h_9 => c468 ((fa_lt z467 0).mpr h_9)
        refine r_iconst 31 1 C dX1_takePrivate_31 (by decide) ?_
        refine r_goto 32 36 C dX1_takePrivate_32 (by decide) ?_
        refine r_callVv 36 C dX1_takePrivate_36 [] [(h0, .inr (1, [.ref h1, .ref h2, .ref h3, .int z462, .long y2, .long y3, .int x1, .int x2, .long y4, .long y5]))] [(h1, .inr (2, [.ref h4, .int x3, .int x4, .ref h5, .ref h6, .ref h7])), (h2, .inr (3, [.ref h3, .ref h10, .ref h8, .ref h11, .int x5, .int x6, .int x7])), (h4, .inl (gI g, 48, .inl fn0)), (h5, .inl (gI g, 6, .inl fn1)), (h6, .inl (gI g, 6, .inl fn2)), (h7, .inl (gI g, 6, .inl fn3)), (h8, .inr (7, [.ref h3, .ref h12, .ref h13, .int x9, .int x10, .int x11])), (h9, .inl (gB g, 1500, .inl fn4)), (h3, .inr (4, [.ref h9, .int x8]))] (fun sz => c53_X1_want l g h0 1 h1 h2 h3 z462 y2 y3 x1 x2 y4 y5 (by decide) ⟨p464, p465⟩ i_y2 i_x1 i_x2 i_y4 i_y5 sz) gX1_takePrivate_X1_want rfl ⟨rfl, rfl⟩ 1 (by decide) ⟨Nat.le_of_ble_eq_true rfl, Nat.le_of_ble_eq_true rfl⟩ 9 rfl rfl [9] [0, 1, 2, 3, 4, 5, 6, 7, 8] rfl rfl (by decide) (by decide) (by decide) rfl rfl (Nat.le_of_ble_eq_true rfl) ⟨Nat.le_of_ble_eq_true rfl, Nat.le_of_ble_eq_true rfl⟩ (fun  z580 w581 => ?_)
        refine r_ws [(h1, .inr (2, [.ref h4, .int x3, .int x4, .ref h5, .ref h6, .ref h7])), (h2, .inr (3, [.ref h3, .ref h10, .ref h8, .ref h11, .int x5, .int x6, .int x7])), (h4, .inl (gI g, 48, .inl fn0)), (h5, .inl (gI g, 6, .inl fn1)), (h6, .inl (gI g, 6, .inl fn2)), (h7, .inl (gI g, 6, .inl fn3)), (h8, .inr (7, [.ref h3, .ref h12, .ref h13, .int x9, .int x10, .int x11])), (h9, .inl (gB g, 1500, .inl fn4)), (h3, .inr (4, [.ref h9, .int x8])), (h0, .inr (1, [.ref h1, .ref h2, .ref h3, .int z580, .long y2, .long y3, .int x1, .int x2, .long y4, .long y5]))] rfl ?_
        have p582 : 0 ≤ (Int32.toInt z580) := w581.1
        have p583 : (Int32.toInt z580) ≤ 2 := w581.2.1
        have p584 : WNT (1 : Int) (Int32.toInt z462) (Int32.toInt z580) := w581.2.2.1
        have p585 : (((1 : Int) = 1 ∧ (Int32.toInt z580) = (Int32.toInt z462)) ∨ ((1 : Int) = 0 ∧ 1 ≤ (Int32.toInt z580))) := w581.2.2.2
        clear p585
        refine r_aload_n 39 0 C dX1_takePrivate_39 rfl ?_
        refine r_lload_n 40 1 C dX1_takePrivate_40 rfl ?_
        refine r_lload_n 41 1 C dX1_takePrivate_41 rfl ?_
        refine r_lload_n 42 2 C dX1_takePrivate_42 rfl ?_
        obtain ⟨z586, ez586⟩ : ∃ z_9, y0 + y1 = z_9 := ⟨_, rfl⟩
        have tz586 : (Int64.toInt z586) = (Int64.toInt y0) + (Int64.toInt y1) := by rw [← ez586]; exact fb_addLv (a := (-2147483648)) (b := 2147483647) (c := (-2147483648)) (d := 2147483647) i_y0 i_y1 (by decide) (by decide)
        refine r_ladd 43 z586 C dX1_takePrivate_43 ez586 ?_
        refine r_callVv 44 C dX1_takePrivate_44 [] [(h0, .inr (1, [.ref h1, .ref h2, .ref h3, .int z580, .long y2, .long y3, .int x1, .int x2, .long y4, .long y5])), (h1, .inr (2, [.ref h4, .int x3, .int x4, .ref h5, .ref h6, .ref h7])), (h3, .inr (4, [.ref h9, .int x8])), (h4, .inl (gI g, 48, .inl fn0)), (h5, .inl (gI g, 6, .inl fn1)), (h6, .inl (gI g, 6, .inl fn2)), (h7, .inl (gI g, 6, .inl fn3)), (h9, .inl (gB g, 1500, .inl fn4))] [(h2, .inr (3, [.ref h3, .ref h10, .ref h8, .ref h11, .int x5, .int x6, .int x7])), (h8, .inr (7, [.ref h3, .ref h12, .ref h13, .int x9, .int x10, .int x11]))] (fun sz => c73_X1_takeDict l g h0 h1 h3 h4 h5 h6 h7 h9 y0 z586 h2 z580 y2 y3 x1 x2 y4 y5 x3 x4 x8 fn0 fn1 fn2 fn3 fn4 (iv_wide (c := (-8589934592)) (d := 8589934592) i_y0 (by decide) (by decide)) ⟨p582, p583⟩ i_y2 i_x1 i_x2 i_y4 i_y5 i_x3 i_x4 i_x8 (by show (¬ ((Int32.toInt z580) = 0) ∨ 0 ≤ (Int64.toInt y0)); first | assumption | omega) sz) gX1_takePrivate_X1_takeDict rfl ⟨rfl, rfl⟩ 2 (by decide) ⟨Nat.le_of_ble_eq_true rfl, Nat.le_of_ble_eq_true rfl⟩ 9 rfl rfl [9, 0, 8, 2, 3, 4, 5, 7] [1, 6] rfl rfl (by decide) (by decide) (by decide) rfl rfl (Nat.le_of_ble_eq_true rfl) ⟨Nat.le_of_ble_eq_true rfl, Nat.le_of_ble_eq_true rfl⟩ (fun  u596 w595 => ?_)
        obtain ⟨z587, z588, z589, z590, f591, f592, f593, f594⟩ := u596
        refine r_ws [(h2, .inr (3, [.ref h3, .ref h10, .ref h8, .ref h11, .int x5, .int x6, .int x7])), (h8, .inr (7, [.ref h3, .ref h12, .ref h13, .int x9, .int x10, .int x11])), (h0, .inr (1, [.ref h1, .ref h2, .ref h3, .int z587, .long z588, .long 9223372036854775807, .int x1, .int x2, .long y4, .long y5])), (h1, .inr (2, [.ref h4, .int z589, .int z590, .ref h5, .ref h6, .ref h7])), (h3, .inr (4, [.ref h9, .int x8])), (h4, .inl (gI g, 48, .inl f591)), (h5, .inl (gI g, 6, .inl f592)), (h6, .inl (gI g, 6, .inl f593)), (h7, .inl (gI g, 6, .inl f594)), (h9, .inl (gB g, 1500, .inl fn4))] rfl ?_
        have p597 : 0 ≤ (Int32.toInt z587) := w595.1
        have p598 : (Int32.toInt z587) ≤ 2 := w595.2.1
        have p599 : -8589934592 ≤ (Int64.toInt z588) := w595.2.2.1
        have p600 : (Int64.toInt z588) ≤ 8589934592 := w595.2.2.2.1
        have p601 : 0 ≤ (Int32.toInt z589) := w595.2.2.2.2.1
        have p602 : (Int32.toInt z589) ≤ 48 := w595.2.2.2.2.2.1
        have p603 : 0 ≤ (Int32.toInt z590) := w595.2.2.2.2.2.2.1
        have p604 : (Int32.toInt z590) ≤ 1 := w595.2.2.2.2.2.2.2.1
        have p605 : SEQ (Int32.toInt z580) (Int32.toInt z587) (DICB (GB fn4 (Int32.toInt x8)) (Int32.toInt x8) (Int64.toInt y0) (Int64.toInt z586)) (fun S => S = (SC f592 f593 f594)) := w595.2.2.2.2.2.2.2.2
        refine r_aload_n 47 0 C dX1_takePrivate_47 rfl ?_
        refine r_aload_n 48 0 C dX1_takePrivate_48 rfl ?_
        refine r_get 49 C dX1_takePrivate_49 (k := 0) 2 rfl rfl hiX1 (by decide) rfl (mg 2 rfl) (Or.inl rfl) rfl ?_
        refine r_bipush 52 19 C dX1_takePrivate_52 (by decide) ?_
        refine r_iconst 54 1 C dX1_takePrivate_54 (by decide) ?_
        refine r_callVi 55 C dX1_takePrivate_55 [.ref h0] [(h1, .inr (2, [.ref h4, .int z589, .int z590, .ref h5, .ref h6, .ref h7])), (h5, .inl (gI g, 6, .inl f592))] [(h2, .inr (3, [.ref h3, .ref h10, .ref h8, .ref h11, .int x5, .int x6, .int x7])), (h8, .inr (7, [.ref h3, .ref h12, .ref h13, .int x9, .int x10, .int x11])), (h0, .inr (1, [.ref h1, .ref h2, .ref h3, .int z587, .long z588, .long 9223372036854775807, .int x1, .int x2, .long y4, .long y5])), (h3, .inr (4, [.ref h9, .int x8])), (h4, .inl (gI g, 48, .inl f591)), (h6, .inl (gI g, 6, .inl f593)), (h7, .inl (gI g, 6, .inl f594)), (h9, .inl (gB g, 1500, .inl fn4))] (fun sz => c89_X2_fits l g h1 h5 1 h4 z589 z590 h6 h7 f592 ⟨p601, p602⟩ ⟨p603, p604⟩ sz) gX1_takePrivate_X2_fits rfl ⟨rfl, rfl⟩ 2 (by decide) ⟨Nat.le_of_ble_eq_true rfl, Nat.le_of_ble_eq_true rfl⟩ 3 rfl rfl [3, 6] [0, 1, 2, 4, 5, 7, 8, 9] rfl rfl (by decide) (by decide) (by decide) rfl rfl (Nat.le_of_ble_eq_true rfl) ⟨Nat.le_of_ble_eq_true rfl, Nat.le_of_ble_eq_true rfl⟩ (fun r606 _ w607 => ?_)
        refine r_ws [(h2, .inr (3, [.ref h3, .ref h10, .ref h8, .ref h11, .int x5, .int x6, .int x7])), (h8, .inr (7, [.ref h3, .ref h12, .ref h13, .int x9, .int x10, .int x11])), (h0, .inr (1, [.ref h1, .ref h2, .ref h3, .int z587, .long z588, .long 9223372036854775807, .int x1, .int x2, .long y4, .long y5])), (h3, .inr (4, [.ref h9, .int x8])), (h4, .inl (gI g, 48, .inl f591)), (h6, .inl (gI g, 6, .inl f593)), (h7, .inl (gI g, 6, .inl f594)), (h9, .inl (gB g, 1500, .inl fn4)), (h1, .inr (2, [.ref h4, .int z589, .int z590, .ref h5, .ref h6, .ref h7])), (h5, .inl (gI g, 6, .inl f592))] rfl ?_
        have p608 : 0 ≤ (Int32.toInt r606) := w607.1
        have p609 : (Int32.toInt r606) ≤ 1 := w607.2.1
        have p610 : FTS (Int32.toInt r606) (Int32.toInt (f592 (Int32.toNatClampNeg 3))) (1 : Int) := w607.2.2
        refine r_callVv 58 C dX1_takePrivate_58 [] [(h0, .inr (1, [.ref h1, .ref h2, .ref h3, .int z587, .long z588, .long 9223372036854775807, .int x1, .int x2, .long y4, .long y5]))] [(h2, .inr (3, [.ref h3, .ref h10, .ref h8, .ref h11, .int x5, .int x6, .int x7])), (h8, .inr (7, [.ref h3, .ref h12, .ref h13, .int x9, .int x10, .int x11])), (h3, .inr (4, [.ref h9, .int x8])), (h4, .inl (gI g, 48, .inl f591)), (h6, .inl (gI g, 6, .inl f593)), (h7, .inl (gI g, 6, .inl f594)), (h9, .inl (gB g, 1500, .inl fn4)), (h1, .inr (2, [.ref h4, .int z589, .int z590, .ref h5, .ref h6, .ref h7])), (h5, .inl (gI g, 6, .inl f592))] (fun sz => c53_X1_want l g h0 r606 h1 h2 h3 z587 z588 9223372036854775807 x1 x2 y4 y5 ⟨p608, p609⟩ ⟨p597, p598⟩ ⟨p599, p600⟩ i_x1 i_x2 i_y4 i_y5 sz) gX1_takePrivate_X1_want rfl ⟨rfl, rfl⟩ 1 (by decide) ⟨Nat.le_of_ble_eq_true rfl, Nat.le_of_ble_eq_true rfl⟩ 2 rfl rfl [2] [0, 1, 3, 4, 5, 6, 7, 8, 9] rfl rfl (by decide) (by decide) (by decide) rfl rfl (Nat.le_of_ble_eq_true rfl) ⟨Nat.le_of_ble_eq_true rfl, Nat.le_of_ble_eq_true rfl⟩ (fun  z611 w612 => ?_)
        refine r_ws [(h2, .inr (3, [.ref h3, .ref h10, .ref h8, .ref h11, .int x5, .int x6, .int x7])), (h8, .inr (7, [.ref h3, .ref h12, .ref h13, .int x9, .int x10, .int x11])), (h3, .inr (4, [.ref h9, .int x8])), (h4, .inl (gI g, 48, .inl f591)), (h6, .inl (gI g, 6, .inl f593)), (h7, .inl (gI g, 6, .inl f594)), (h9, .inl (gB g, 1500, .inl fn4)), (h1, .inr (2, [.ref h4, .int z589, .int z590, .ref h5, .ref h6, .ref h7])), (h5, .inl (gI g, 6, .inl f592)), (h0, .inr (1, [.ref h1, .ref h2, .ref h3, .int z611, .long z588, .long 9223372036854775807, .int x1, .int x2, .long y4, .long y5]))] rfl ?_
        have p613 : 0 ≤ (Int32.toInt z611) := w612.1
        have p614 : (Int32.toInt z611) ≤ 2 := w612.2.1
        have p615 : WNT (Int32.toInt r606) (Int32.toInt z587) (Int32.toInt z611) := w612.2.2.1
        have p616 : (((Int32.toInt r606) = 1 ∧ (Int32.toInt z611) = (Int32.toInt z587)) ∨ ((Int32.toInt r606) = 0 ∧ 1 ≤ (Int32.toInt z611))) := w612.2.2.2
        clear p616
        refine r_aload_n 61 0 C dX1_takePrivate_61 rfl ?_
        refine r_aload_n 62 0 C dX1_takePrivate_62 rfl ?_
        refine r_get 63 C dX1_takePrivate_63 (k := 0) 9 rfl rfl hiX1 (by decide) rfl (mg 2 rfl) (Or.inl rfl) rfl ?_
        refine r_bipush 66 20 C dX1_takePrivate_66 (by decide) ?_
        refine r_iconst 68 1 C dX1_takePrivate_68 (by decide) ?_
        refine r_callVi 69 C dX1_takePrivate_69 [.ref h0] [(h1, .inr (2, [.ref h4, .int z589, .int z590, .ref h5, .ref h6, .ref h7])), (h5, .inl (gI g, 6, .inl f592))] [(h2, .inr (3, [.ref h3, .ref h10, .ref h8, .ref h11, .int x5, .int x6, .int x7])), (h8, .inr (7, [.ref h3, .ref h12, .ref h13, .int x9, .int x10, .int x11])), (h3, .inr (4, [.ref h9, .int x8])), (h4, .inl (gI g, 48, .inl f591)), (h6, .inl (gI g, 6, .inl f593)), (h7, .inl (gI g, 6, .inl f594)), (h9, .inl (gB g, 1500, .inl fn4)), (h0, .inr (1, [.ref h1, .ref h2, .ref h3, .int z611, .long z588, .long 9223372036854775807, .int x1, .int x2, .long y4, .long y5]))] (fun sz => c91_X2_fits l g h1 h5 1 h4 z589 z590 h6 h7 f592 ⟨p601, p602⟩ ⟨p603, p604⟩ sz) gX1_takePrivate_X2_fits rfl ⟨rfl, rfl⟩ 2 (by decide) ⟨Nat.le_of_ble_eq_true rfl, Nat.le_of_ble_eq_true rfl⟩ 7 rfl rfl [7, 8] [0, 1, 2, 3, 4, 5, 6, 9] rfl rfl (by decide) (by decide) (by decide) rfl rfl (Nat.le_of_ble_eq_true rfl) ⟨Nat.le_of_ble_eq_true rfl, Nat.le_of_ble_eq_true rfl⟩ (fun r617 _ w618 => ?_)
        refine r_ws [(h2, .inr (3, [.ref h3, .ref h10, .ref h8, .ref h11, .int x5, .int x6, .int x7])), (h8, .inr (7, [.ref h3, .ref h12, .ref h13, .int x9, .int x10, .int x11])), (h3, .inr (4, [.ref h9, .int x8])), (h4, .inl (gI g, 48, .inl f591)), (h6, .inl (gI g, 6, .inl f593)), (h7, .inl (gI g, 6, .inl f594)), (h9, .inl (gB g, 1500, .inl fn4)), (h0, .inr (1, [.ref h1, .ref h2, .ref h3, .int z611, .long z588, .long 9223372036854775807, .int x1, .int x2, .long y4, .long y5])), (h1, .inr (2, [.ref h4, .int z589, .int z590, .ref h5, .ref h6, .ref h7])), (h5, .inl (gI g, 6, .inl f592))] rfl ?_
        have p619 : 0 ≤ (Int32.toInt r617) := w618.1
        have p620 : (Int32.toInt r617) ≤ 1 := w618.2.1
        have p621 : FTS (Int32.toInt r617) (Int32.toInt (f592 (Int32.toNatClampNeg 4))) (1 : Int) := w618.2.2
        refine r_callVv 72 C dX1_takePrivate_72 [] [(h0, .inr (1, [.ref h1, .ref h2, .ref h3, .int z611, .long z588, .long 9223372036854775807, .int x1, .int x2, .long y4, .long y5]))] [(h2, .inr (3, [.ref h3, .ref h10, .ref h8, .ref h11, .int x5, .int x6, .int x7])), (h8, .inr (7, [.ref h3, .ref h12, .ref h13, .int x9, .int x10, .int x11])), (h3, .inr (4, [.ref h9, .int x8])), (h4, .inl (gI g, 48, .inl f591)), (h6, .inl (gI g, 6, .inl f593)), (h7, .inl (gI g, 6, .inl f594)), (h9, .inl (gB g, 1500, .inl fn4)), (h1, .inr (2, [.ref h4, .int z589, .int z590, .ref h5, .ref h6, .ref h7])), (h5, .inl (gI g, 6, .inl f592))] (fun sz => c53_X1_want l g h0 r617 h1 h2 h3 z611 z588 9223372036854775807 x1 x2 y4 y5 ⟨p619, p620⟩ ⟨p613, p614⟩ ⟨p599, p600⟩ i_x1 i_x2 i_y4 i_y5 sz) gX1_takePrivate_X1_want rfl ⟨rfl, rfl⟩ 1 (by decide) ⟨Nat.le_of_ble_eq_true rfl, Nat.le_of_ble_eq_true rfl⟩ 7 rfl rfl [7] [0, 1, 2, 3, 4, 5, 6, 8, 9] rfl rfl (by decide) (by decide) (by decide) rfl rfl (Nat.le_of_ble_eq_true rfl) ⟨Nat.le_of_ble_eq_true rfl, Nat.le_of_ble_eq_true rfl⟩ (fun  z622 w623 => ?_)
        refine r_ws [(h2, .inr (3, [.ref h3, .ref h10, .ref h8, .ref h11, .int x5, .int x6, .int x7])), (h8, .inr (7, [.ref h3, .ref h12, .ref h13, .int x9, .int x10, .int x11])), (h3, .inr (4, [.ref h9, .int x8])), (h4, .inl (gI g, 48, .inl f591)), (h6, .inl (gI g, 6, .inl f593)), (h7, .inl (gI g, 6, .inl f594)), (h9, .inl (gB g, 1500, .inl fn4)), (h1, .inr (2, [.ref h4, .int z589, .int z590, .ref h5, .ref h6, .ref h7])), (h5, .inl (gI g, 6, .inl f592)), (h0, .inr (1, [.ref h1, .ref h2, .ref h3, .int z622, .long z588, .long 9223372036854775807, .int x1, .int x2, .long y4, .long y5]))] rfl ?_
        have p624 : 0 ≤ (Int32.toInt z622) := w623.1
        have p625 : (Int32.toInt z622) ≤ 2 := w623.2.1
        have p626 : WNT (Int32.toInt r617) (Int32.toInt z611) (Int32.toInt z622) := w623.2.2.1
        have p627 : (((Int32.toInt r617) = 1 ∧ (Int32.toInt z622) = (Int32.toInt z611)) ∨ ((Int32.toInt r617) = 0 ∧ 1 ≤ (Int32.toInt z622))) := w623.2.2.2
        clear p627
        refine r_aload_n 75 0 C dX1_takePrivate_75 rfl ?_
        refine r_aload_n 76 0 C dX1_takePrivate_76 rfl ?_
        refine r_get 77 C dX1_takePrivate_77 (k := 0) 9 rfl rfl hiX1 (by decide) rfl (mg 2 rfl) (Or.inl rfl) rfl ?_
        refine r_bipush 80 21 C dX1_takePrivate_80 (by decide) ?_
        refine r_iconst 82 1 C dX1_takePrivate_82 (by decide) ?_
        refine r_callVi 83 C dX1_takePrivate_83 [.ref h0] [(h1, .inr (2, [.ref h4, .int z589, .int z590, .ref h5, .ref h6, .ref h7])), (h5, .inl (gI g, 6, .inl f592))] [(h2, .inr (3, [.ref h3, .ref h10, .ref h8, .ref h11, .int x5, .int x6, .int x7])), (h8, .inr (7, [.ref h3, .ref h12, .ref h13, .int x9, .int x10, .int x11])), (h3, .inr (4, [.ref h9, .int x8])), (h4, .inl (gI g, 48, .inl f591)), (h6, .inl (gI g, 6, .inl f593)), (h7, .inl (gI g, 6, .inl f594)), (h9, .inl (gB g, 1500, .inl fn4)), (h0, .inr (1, [.ref h1, .ref h2, .ref h3, .int z622, .long z588, .long 9223372036854775807, .int x1, .int x2, .long y4, .long y5]))] (fun sz => c93_X2_fits l g h1 h5 1 h4 z589 z590 h6 h7 f592 ⟨p601, p602⟩ ⟨p603, p604⟩ sz) gX1_takePrivate_X2_fits rfl ⟨rfl, rfl⟩ 2 (by decide) ⟨Nat.le_of_ble_eq_true rfl, Nat.le_of_ble_eq_true rfl⟩ 7 rfl rfl [7, 8] [0, 1, 2, 3, 4, 5, 6, 9] rfl rfl (by decide) (by decide) (by decide) rfl rfl (Nat.le_of_ble_eq_true rfl) ⟨Nat.le_of_ble_eq_true rfl, Nat.le_of_ble_eq_true rfl⟩ (fun r628 _ w629 => ?_)
        refine r_ws [(h2, .inr (3, [.ref h3, .ref h10, .ref h8, .ref h11, .int x5, .int x6, .int x7])), (h8, .inr (7, [.ref h3, .ref h12, .ref h13, .int x9, .int x10, .int x11])), (h3, .inr (4, [.ref h9, .int x8])), (h4, .inl (gI g, 48, .inl f591)), (h6, .inl (gI g, 6, .inl f593)), (h7, .inl (gI g, 6, .inl f594)), (h9, .inl (gB g, 1500, .inl fn4)), (h0, .inr (1, [.ref h1, .ref h2, .ref h3, .int z622, .long z588, .long 9223372036854775807, .int x1, .int x2, .long y4, .long y5])), (h1, .inr (2, [.ref h4, .int z589, .int z590, .ref h5, .ref h6, .ref h7])), (h5, .inl (gI g, 6, .inl f592))] rfl ?_
        have p630 : 0 ≤ (Int32.toInt r628) := w629.1
        have p631 : (Int32.toInt r628) ≤ 1 := w629.2.1
        have p632 : FTS (Int32.toInt r628) (Int32.toInt (f592 (Int32.toNatClampNeg 5))) (1 : Int) := w629.2.2
        refine r_callVv 86 C dX1_takePrivate_86 [] [(h0, .inr (1, [.ref h1, .ref h2, .ref h3, .int z622, .long z588, .long 9223372036854775807, .int x1, .int x2, .long y4, .long y5]))] [(h2, .inr (3, [.ref h3, .ref h10, .ref h8, .ref h11, .int x5, .int x6, .int x7])), (h8, .inr (7, [.ref h3, .ref h12, .ref h13, .int x9, .int x10, .int x11])), (h3, .inr (4, [.ref h9, .int x8])), (h4, .inl (gI g, 48, .inl f591)), (h6, .inl (gI g, 6, .inl f593)), (h7, .inl (gI g, 6, .inl f594)), (h9, .inl (gB g, 1500, .inl fn4)), (h1, .inr (2, [.ref h4, .int z589, .int z590, .ref h5, .ref h6, .ref h7])), (h5, .inl (gI g, 6, .inl f592))] (fun sz => c53_X1_want l g h0 r628 h1 h2 h3 z622 z588 9223372036854775807 x1 x2 y4 y5 ⟨p630, p631⟩ ⟨p624, p625⟩ ⟨p599, p600⟩ i_x1 i_x2 i_y4 i_y5 sz) gX1_takePrivate_X1_want rfl ⟨rfl, rfl⟩ 1 (by decide) ⟨Nat.le_of_ble_eq_true rfl, Nat.le_of_ble_eq_true rfl⟩ 7 rfl rfl [7] [0, 1, 2, 3, 4, 5, 6, 8, 9] rfl rfl (by decide) (by decide) (by decide) rfl rfl (Nat.le_of_ble_eq_true rfl) ⟨Nat.le_of_ble_eq_true rfl, Nat.le_of_ble_eq_true rfl⟩ (fun  z633 w634 => ?_)
        refine r_ws [(h2, .inr (3, [.ref h3, .ref h10, .ref h8, .ref h11, .int x5, .int x6, .int x7])), (h8, .inr (7, [.ref h3, .ref h12, .ref h13, .int x9, .int x10, .int x11])), (h3, .inr (4, [.ref h9, .int x8])), (h4, .inl (gI g, 48, .inl f591)), (h6, .inl (gI g, 6, .inl f593)), (h7, .inl (gI g, 6, .inl f594)), (h9, .inl (gB g, 1500, .inl fn4)), (h1, .inr (2, [.ref h4, .int z589, .int z590, .ref h5, .ref h6, .ref h7])), (h5, .inl (gI g, 6, .inl f592)), (h0, .inr (1, [.ref h1, .ref h2, .ref h3, .int z633, .long z588, .long 9223372036854775807, .int x1, .int x2, .long y4, .long y5]))] rfl ?_
        have p635 : 0 ≤ (Int32.toInt z633) := w634.1
        have p636 : (Int32.toInt z633) ≤ 2 := w634.2.1
        have p637 : WNT (Int32.toInt r628) (Int32.toInt z622) (Int32.toInt z633) := w634.2.2.1
        have p638 : (((Int32.toInt r628) = 1 ∧ (Int32.toInt z633) = (Int32.toInt z622)) ∨ ((Int32.toInt r628) = 0 ∧ 1 ≤ (Int32.toInt z633))) := w634.2.2.2
        clear p638
        refine r_aload_n 89 0 C dX1_takePrivate_89 rfl ?_
        refine r_get 90 C dX1_takePrivate_90 (k := 1) 9 rfl rfl hiX1 (by decide) rfl (mg 3 rfl) (Or.inl rfl) rfl ?_
        refine r_aload_n 93 0 C dX1_takePrivate_93 rfl ?_
        refine r_get 94 C dX1_takePrivate_94 (k := 0) 9 rfl rfl hiX1 (by decide) rfl (mg 2 rfl) (Or.inl rfl) rfl ?_
        refine r_bipush 97 20 C dX1_takePrivate_97 (by decide) ?_
        refine r_callVi 99 C dX1_takePrivate_99 [.ref h2] [(h1, .inr (2, [.ref h4, .int z589, .int z590, .ref h5, .ref h6, .ref h7])), (h5, .inl (gI g, 6, .inl f592)), (h6, .inl (gI g, 6, .inl f593))] [(h2, .inr (3, [.ref h3, .ref h10, .ref h8, .ref h11, .int x5, .int x6, .int x7])), (h8, .inr (7, [.ref h3, .ref h12, .ref h13, .int x9, .int x10, .int x11])), (h3, .inr (4, [.ref h9, .int x8])), (h4, .inl (gI g, 48, .inl f591)), (h7, .inl (gI g, 6, .inl f594)), (h9, .inl (gB g, 1500, .inl fn4)), (h0, .inr (1, [.ref h1, .ref h2, .ref h3, .int z633, .long z588, .long 9223372036854775807, .int x1, .int x2, .long y4, .long y5]))] (fun sz => c95_X2_first l g h1 h5 h6 h4 z589 z590 h7 f592 f593 ⟨p601, p602⟩ ⟨p603, p604⟩ sz) gX1_takePrivate_X2_first rfl ⟨rfl, rfl⟩ 1 (by decide) ⟨Nat.le_of_ble_eq_true rfl, Nat.le_of_ble_eq_true rfl⟩ 7 rfl rfl [7, 8, 4] [0, 1, 2, 3, 5, 6, 9] rfl rfl (by decide) (by decide) (by decide) rfl rfl (Nat.le_of_ble_eq_true rfl) ⟨Nat.le_of_ble_eq_true rfl, Nat.le_of_ble_eq_true rfl⟩ (fun r639 _ w640 => ?_)
        refine r_ws [(h2, .inr (3, [.ref h3, .ref h10, .ref h8, .ref h11, .int x5, .int x6, .int x7])), (h8, .inr (7, [.ref h3, .ref h12, .ref h13, .int x9, .int x10, .int x11])), (h3, .inr (4, [.ref h9, .int x8])), (h4, .inl (gI g, 48, .inl f591)), (h7, .inl (gI g, 6, .inl f594)), (h9, .inl (gB g, 1500, .inl fn4)), (h0, .inr (1, [.ref h1, .ref h2, .ref h3, .int z633, .long z588, .long 9223372036854775807, .int x1, .int x2, .long y4, .long y5])), (h1, .inr (2, [.ref h4, .int z589, .int z590, .ref h5, .ref h6, .ref h7])), (h5, .inl (gI g, 6, .inl f592)), (h6, .inl (gI g, 6, .inl f593))] rfl ?_
        have p641 : FST (Int32.toInt r639) (Int32.toInt (f592 (Int32.toNatClampNeg 4))) (Int32.toInt (f593 (Int32.toNatClampNeg 4))) := w640
        have gr639 := fb_rng r639
        refine r_putN 102 C dX1_takePrivate_102 (k := 5) 0 rfl rfl hiX3 tyX3 tyX3_ok nmX3 (by decide) rfl (mg 11 rfl) rfl rfl rfl rfl rfl (Nat.le_of_ble_eq_true rfl) [(h2, .inr (3, [.ref h3, .ref h10, .ref h8, .ref h11, .int x5, .int r639, .int x7])), (h8, .inr (7, [.ref h3, .ref h12, .ref h13, .int x9, .int x10, .int x11])), (h3, .inr (4, [.ref h9, .int x8])), (h4, .inl (gI g, 48, .inl f591)), (h7, .inl (gI g, 6, .inl f594)), (h9, .inl (gB g, 1500, .inl fn4)), (h0, .inr (1, [.ref h1, .ref h2, .ref h3, .int z633, .long z588, .long 9223372036854775807, .int x1, .int x2, .long y4, .long y5])), (h1, .inr (2, [.ref h4, .int z589, .int z590, .ref h5, .ref h6, .ref h7])), (h5, .inl (gI g, 6, .inl f592)), (h6, .inl (gI g, 6, .inl f593))] rfl ?_
        refine r_aload_n 105 0 C dX1_takePrivate_105 rfl ?_
        refine r_get 106 C dX1_takePrivate_106 (k := 1) 6 rfl rfl hiX1 (by decide) rfl (mg 3 rfl) (Or.inl rfl) rfl ?_
        refine r_aload_n 109 0 C dX1_takePrivate_109 rfl ?_
        refine r_get 110 C dX1_takePrivate_110 (k := 0) 6 rfl rfl hiX1 (by decide) rfl (mg 2 rfl) (Or.inl rfl) rfl ?_
        refine r_bipush 113 21 C dX1_takePrivate_113 (by decide) ?_
        refine r_callVi 115 C dX1_takePrivate_115 [.ref h2] [(h1, .inr (2, [.ref h4, .int z589, .int z590, .ref h5, .ref h6, .ref h7])), (h5, .inl (gI g, 6, .inl f592)), (h6, .inl (gI g, 6, .inl f593))] [(h2, .inr (3, [.ref h3, .ref h10, .ref h8, .ref h11, .int x5, .int r639, .int x7])), (h8, .inr (7, [.ref h3, .ref h12, .ref h13, .int x9, .int x10, .int x11])), (h3, .inr (4, [.ref h9, .int x8])), (h4, .inl (gI g, 48, .inl f591)), (h7, .inl (gI g, 6, .inl f594)), (h9, .inl (gB g, 1500, .inl fn4)), (h0, .inr (1, [.ref h1, .ref h2, .ref h3, .int z633, .long z588, .long 9223372036854775807, .int x1, .int x2, .long y4, .long y5]))] (fun sz => c97_X2_first l g h1 h5 h6 h4 z589 z590 h7 f592 f593 ⟨p601, p602⟩ ⟨p603, p604⟩ sz) gX1_takePrivate_X2_first rfl ⟨rfl, rfl⟩ 1 (by decide) ⟨Nat.le_of_ble_eq_true rfl, Nat.le_of_ble_eq_true rfl⟩ 7 rfl rfl [7, 8, 9] [0, 1, 2, 3, 4, 5, 6] rfl rfl (by decide) (by decide) (by decide) rfl rfl (Nat.le_of_ble_eq_true rfl) ⟨Nat.le_of_ble_eq_true rfl, Nat.le_of_ble_eq_true rfl⟩ (fun r642 _ w643 => ?_)
        refine r_ws [(h2, .inr (3, [.ref h3, .ref h10, .ref h8, .ref h11, .int x5, .int r639, .int x7])), (h8, .inr (7, [.ref h3, .ref h12, .ref h13, .int x9, .int x10, .int x11])), (h3, .inr (4, [.ref h9, .int x8])), (h4, .inl (gI g, 48, .inl f591)), (h7, .inl (gI g, 6, .inl f594)), (h9, .inl (gB g, 1500, .inl fn4)), (h0, .inr (1, [.ref h1, .ref h2, .ref h3, .int z633, .long z588, .long 9223372036854775807, .int x1, .int x2, .long y4, .long y5])), (h1, .inr (2, [.ref h4, .int z589, .int z590, .ref h5, .ref h6, .ref h7])), (h5, .inl (gI g, 6, .inl f592)), (h6, .inl (gI g, 6, .inl f593))] rfl ?_
        have p644 : FST (Int32.toInt r642) (Int32.toInt (f592 (Int32.toNatClampNeg 5))) (Int32.toInt (f593 (Int32.toNatClampNeg 5))) := w643
        have gr642 := fb_rng r642
        refine r_putN 118 C dX1_takePrivate_118 (k := 6) 0 rfl rfl hiX3 tyX3 tyX3_ok nmX3 (by decide) rfl (mg 12 rfl) rfl rfl rfl rfl rfl (Nat.le_of_ble_eq_true rfl) [(h2, .inr (3, [.ref h3, .ref h10, .ref h8, .ref h11, .int x5, .int r639, .int r642])), (h8, .inr (7, [.ref h3, .ref h12, .ref h13, .int x9, .int x10, .int x11])), (h3, .inr (4, [.ref h9, .int x8])), (h4, .inl (gI g, 48, .inl f591)), (h7, .inl (gI g, 6, .inl f594)), (h9, .inl (gB g, 1500, .inl fn4)), (h0, .inr (1, [.ref h1, .ref h2, .ref h3, .int z633, .long z588, .long 9223372036854775807, .int x1, .int x2, .long y4, .long y5])), (h1, .inr (2, [.ref h4, .int z589, .int z590, .ref h5, .ref h6, .ref h7])), (h5, .inl (gI g, 6, .inl f592)), (h6, .inl (gI g, 6, .inl f593))] rfl ?_
        refine r_aload_n 121 0 C dX1_takePrivate_121 rfl ?_
        refine r_get 122 C dX1_takePrivate_122 (k := 3) 6 rfl rfl hiX1 (by decide) rfl (mg 4 rfl) (Or.inl rfl) rfl ?_
        refine r_if_ne 125 174 C dX1_takePrivate_125 (by decide) (fun c645 => ?_) (fun c645 => ?_)
        · skip
          have k646 : ¬ ((Int32.toInt z633) = 0) := fun h_9 => c645 ((fa_eq z633 0).mpr h_9)
          exact r_vret 174 Rt dX1_takePrivate_174 (z633, z588, x1, x2, y4, y5, z589, z590, r639, r642, f591, f592, f593, f594, x9, x10, x11) (show 0 ≤ (Int32.toInt z633) ∧ (Int32.toInt z633) ≤ 2 ∧ -8589934592 ≤ (Int64.toInt z588) ∧ (Int64.toInt z588) ≤ 8589934592 ∧ -257 ≤ (Int32.toInt x1) ∧ (Int32.toInt x1) ≤ 65535 ∧ -1 ≤ (Int32.toInt x2) ∧ (Int32.toInt x2) ≤ 255 ∧ -8589934592 ≤ (Int64.toInt y4) ∧ (Int64.toInt y4) ≤ 8589934592 ∧ -8589934592 ≤ (Int64.toInt y5) ∧ (Int64.toInt y5) ≤ 8589934592 ∧ 0 ≤ (Int32.toInt z589) ∧ (Int32.toInt z589) ≤ 48 ∧ 0 ≤ (Int32.toInt z590) ∧ (Int32.toInt z590) ≤ 1 ∧ SEQ (Int32.toInt x0) (Int32.toInt z633) (PRIV (GB fn4 (Int32.toInt x8)) (Int32.toInt x8) (Int64.toInt y0) (Int64.toInt y1)) (fun q => q = ((Int32.toInt x9), (Int32.toInt r639), (Int32.toInt r642))) from ⟨(show _ ∧ _ from ⟨p635, p636⟩).1, (show _ ∧ _ from ⟨p635, p636⟩).2, (show _ ∧ _ from ⟨p599, p600⟩).1, (show _ ∧ _ from ⟨p599, p600⟩).2, i_x1.1, i_x1.2, i_x2.1, i_x2.2, i_y4.1, i_y4.2, i_y5.1, i_y5.2, (show _ ∧ _ from ⟨p601, p602⟩).1, (show _ ∧ _ from ⟨p601, p602⟩).2, (show _ ∧ _ from ⟨p603, p604⟩).1, (show _ ∧ _ from ⟨p603, p604⟩).2, (by exact priv_end (by omega) p584 (by omega) (by omega) p605 p615 p626 p637 (by have h_1 := p610; unfold FTS at h_1; omega) (by have h_1 := p621; unfold FTS at h_1; omega) (by have h_1 := p632; unfold FTS at h_1; omega) (by have h_1 := p641; unfold FST at h_1; omega) (by have h_1 := p644; unfold FST at h_1; omega) (by first | exact Or.inl ⟨by omega, by omega⟩ | exact Or.inr (Or.inl ⟨by omega, (by omega), by omega, by omega⟩)))⟩) [6, 7, 0, 2, 3, 8, 9, 4, 1, 5] (by decide) rfl (Nat.le_of_ble_eq_true rfl) (Nat.le_of_ble_eq_true rfl)
        · skip
          have k647 : (Int32.toInt z633) = 0 := (fa_eq z633 0).mp c645
          refine r_aload_n 128 0 C dX1_takePrivate_128 rfl ?_
          refine r_get 129 C dX1_takePrivate_129 (k := 0) 6 rfl rfl hiX1 (by decide) rfl (mg 2 rfl) (Or.inl rfl) rfl ?_
          refine r_bipush 132 19 C dX1_takePrivate_132 (by decide) ?_
          refine r_callVi 134 C dX1_takePrivate_134 [] [(h1, .inr (2, [.ref h4, .int z589, .int z590, .ref h5, .ref h6, .ref h7])), (h5, .inl (gI g, 6, .inl f592))] [(h2, .inr (3, [.ref h3, .ref h10, .ref h8, .ref h11, .int x5, .int r639, .int r642])), (h8, .inr (7, [.ref h3, .ref h12, .ref h13, .int x9, .int x10, .int x11])), (h3, .inr (4, [.ref h9, .int x8])), (h4, .inl (gI g, 48, .inl f591)), (h7, .inl (gI g, 6, .inl f594)), (h9, .inl (gB g, 1500, .inl fn4)), (h0, .inr (1, [.ref h1, .ref h2, .ref h3, .int z633, .long z588, .long 9223372036854775807, .int x1, .int x2, .long y4, .long y5])), (h6, .inl (gI g, 6, .inl f593))] (fun sz => c98_X2_isTold l g h1 h5 h4 z589 z590 h6 h7 f592 ⟨p601, p602⟩ ⟨p603, p604⟩ sz) gX1_takePrivate_X2_isTold rfl ⟨rfl, rfl⟩ 1 (by decide) ⟨Nat.le_of_ble_eq_true rfl, Nat.le_of_ble_eq_true rfl⟩ 7 rfl rfl [7, 8] [0, 1, 2, 3, 4, 5, 6, 9] rfl rfl (by decide) (by decide) (by decide) rfl rfl (Nat.le_of_ble_eq_true rfl) ⟨Nat.le_of_ble_eq_true rfl, Nat.le_of_ble_eq_true rfl⟩ (fun r648 _ w649 => ?_)
          refine r_ws [(h2, .inr (3, [.ref h3, .ref h10, .ref h8, .ref h11, .int x5, .int r639, .int r642])), (h8, .inr (7, [.ref h3, .ref h12, .ref h13, .int x9, .int x10, .int x11])), (h3, .inr (4, [.ref h9, .int x8])), (h4, .inl (gI g, 48, .inl f591)), (h7, .inl (gI g, 6, .inl f594)), (h9, .inl (gB g, 1500, .inl fn4)), (h0, .inr (1, [.ref h1, .ref h2, .ref h3, .int z633, .long z588, .long 9223372036854775807, .int x1, .int x2, .long y4, .long y5])), (h6, .inl (gI g, 6, .inl f593)), (h1, .inr (2, [.ref h4, .int z589, .int z590, .ref h5, .ref h6, .ref h7])), (h5, .inl (gI g, 6, .inl f592))] rfl ?_
          have p650 : 0 ≤ (Int32.toInt r648) := w649.1
          have p651 : (Int32.toInt r648) ≤ 1 := w649.2.1
          have p652 : TOL (Int32.toInt r648) (Int32.toInt (f592 (Int32.toNatClampNeg 3))) := w649.2.2
          refine r_if_eq 137 174 C dX1_takePrivate_137 (by decide) (fun c653 => ?_) (fun c653 => ?_)
          · skip
            have k654 : (Int32.toInt r648) = 0 := (fa_eq r648 0).mp c653
            exact r_vret 174 Rt dX1_takePrivate_174 (z633, z588, x1, x2, y4, y5, z589, z590, r639, r642, f591, f592, f593, f594, x9, x10, x11) (show 0 ≤ (Int32.toInt z633) ∧ (Int32.toInt z633) ≤ 2 ∧ -8589934592 ≤ (Int64.toInt z588) ∧ (Int64.toInt z588) ≤ 8589934592 ∧ -257 ≤ (Int32.toInt x1) ∧ (Int32.toInt x1) ≤ 65535 ∧ -1 ≤ (Int32.toInt x2) ∧ (Int32.toInt x2) ≤ 255 ∧ -8589934592 ≤ (Int64.toInt y4) ∧ (Int64.toInt y4) ≤ 8589934592 ∧ -8589934592 ≤ (Int64.toInt y5) ∧ (Int64.toInt y5) ≤ 8589934592 ∧ 0 ≤ (Int32.toInt z589) ∧ (Int32.toInt z589) ≤ 48 ∧ 0 ≤ (Int32.toInt z590) ∧ (Int32.toInt z590) ≤ 1 ∧ SEQ (Int32.toInt x0) (Int32.toInt z633) (PRIV (GB fn4 (Int32.toInt x8)) (Int32.toInt x8) (Int64.toInt y0) (Int64.toInt y1)) (fun q => q = ((Int32.toInt x9), (Int32.toInt r639), (Int32.toInt r642))) from ⟨(show _ ∧ _ from ⟨p635, p636⟩).1, (show _ ∧ _ from ⟨p635, p636⟩).2, (show _ ∧ _ from ⟨p599, p600⟩).1, (show _ ∧ _ from ⟨p599, p600⟩).2, i_x1.1, i_x1.2, i_x2.1, i_x2.2, i_y4.1, i_y4.2, i_y5.1, i_y5.2, (show _ ∧ _ from ⟨p601, p602⟩).1, (show _ ∧ _ from ⟨p601, p602⟩).2, (show _ ∧ _ from ⟨p603, p604⟩).1, (show _ ∧ _ from ⟨p603, p604⟩).2, (by exact priv_end (by omega) p584 (by omega) (by omega) p605 p615 p626 p637 (by have h_1 := p610; unfold FTS at h_1; omega) (by have h_1 := p621; unfold FTS at h_1; omega) (by have h_1 := p632; unfold FTS at h_1; omega) (by have h_1 := p641; unfold FST at h_1; omega) (by have h_1 := p644; unfold FST at h_1; omega) (by first | exact Or.inl ⟨by omega, by omega⟩ | exact Or.inr (Or.inl ⟨by omega, (by have h_1 := p652; unfold TOL at h_1; omega), by omega, by omega⟩)))⟩) [6, 8, 0, 2, 3, 9, 7, 4, 1, 5] (by decide) rfl (Nat.le_of_ble_eq_true rfl) (Nat.le_of_ble_eq_true rfl)
          · skip
            have k655 : ¬ ((Int32.toInt r648) = 0) := fun h_9 => c653 ((fa_eq r648 0).mpr h_9)
            refine r_aload_n 140 0 C dX1_takePrivate_140 rfl ?_
            refine r_lload_n 141 1 C dX1_takePrivate_141 rfl ?_
            refine r_aload_n 142 0 C dX1_takePrivate_142 rfl ?_
            refine r_get 143 C dX1_takePrivate_143 (k := 0) 6 rfl rfl hiX1 (by decide) rfl (mg 2 rfl) (Or.inl rfl) rfl ?_
            refine r_bipush 146 19 C dX1_takePrivate_146 (by decide) ?_
            refine r_callVi 148 C dX1_takePrivate_148 [.long y0, .ref h0] [(h1, .inr (2, [.ref h4, .int z589, .int z590, .ref h5, .ref h6, .ref h7])), (h5, .inl (gI g, 6, .inl f592)), (h6, .inl (gI g, 6, .inl f593))] [(h2, .inr (3, [.ref h3, .ref h10, .ref h8, .ref h11, .int x5, .int r639, .int r642])), (h8, .inr (7, [.ref h3, .ref h12, .ref h13, .int x9, .int x10, .int x11])), (h3, .inr (4, [.ref h9, .int x8])), (h4, .inl (gI g, 48, .inl f591)), (h7, .inl (gI g, 6, .inl f594)), (h9, .inl (gB g, 1500, .inl fn4)), (h0, .inr (1, [.ref h1, .ref h2, .ref h3, .int z633, .long z588, .long 9223372036854775807, .int x1, .int x2, .long y4, .long y5]))] (fun sz => c99_X2_first l g h1 h5 h6 h4 z589 z590 h7 f592 f593 ⟨p601, p602⟩ ⟨p603, p604⟩ sz) gX1_takePrivate_X2_first rfl ⟨rfl, rfl⟩ 1 (by decide) ⟨Nat.le_of_ble_eq_true rfl, Nat.le_of_ble_eq_true rfl⟩ 8 rfl rfl [8, 9, 7] [0, 1, 2, 3, 4, 5, 6] rfl rfl (by decide) (by decide) (by decide) rfl rfl (Nat.le_of_ble_eq_true rfl) ⟨Nat.le_of_ble_eq_true rfl, Nat.le_of_ble_eq_true rfl⟩ (fun r656 _ w657 => ?_)
            refine r_ws [(h2, .inr (3, [.ref h3, .ref h10, .ref h8, .ref h11, .int x5, .int r639, .int r642])), (h8, .inr (7, [.ref h3, .ref h12, .ref h13, .int x9, .int x10, .int x11])), (h3, .inr (4, [.ref h9, .int x8])), (h4, .inl (gI g, 48, .inl f591)), (h7, .inl (gI g, 6, .inl f594)), (h9, .inl (gB g, 1500, .inl fn4)), (h0, .inr (1, [.ref h1, .ref h2, .ref h3, .int z633, .long z588, .long 9223372036854775807, .int x1, .int x2, .long y4, .long y5])), (h1, .inr (2, [.ref h4, .int z589, .int z590, .ref h5, .ref h6, .ref h7])), (h5, .inl (gI g, 6, .inl f592)), (h6, .inl (gI g, 6, .inl f593))] rfl ?_
            have p658 : FST (Int32.toInt r656) (Int32.toInt (f592 (Int32.toNatClampNeg 3))) (Int32.toInt (f593 (Int32.toNatClampNeg 3))) := w657
            have gr656 := fb_rng r656
            obtain ⟨z659, ez659⟩ : ∃ z_9, Int32.toInt64 r656 = z_9 := ⟨_, rfl⟩
            have tz659 : (Int64.toInt z659) = (Int32.toInt r656) := by rw [← ez659]; exact Int32.toInt_toInt64 _
            refine r_i2l 151 z659 C dX1_takePrivate_151 ez659 ?_
            obtain ⟨z660, ez660⟩ : ∃ z_9, y0 + z659 = z_9 := ⟨_, rfl⟩
            have tz660 : (Int64.toInt z660) = (Int64.toInt y0) + (Int64.toInt z659) := by rw [← ez660]; exact fb_addL (by show -9223372036854775808 ≤ (Int64.toInt y0) + (Int64.toInt z659); omega) (by show (Int64.toInt y0) + (Int64.toInt z659) < 9223372036854775808; omega)
            refine r_ladd 152 z660 C dX1_takePrivate_152 ez660 ?_
            refine r_put 153 C dX1_takePrivate_153 (k := 4) 6 rfl rfl hiX1 tyX1 tyX1_ok nmX1 (by decide) rfl (mg 5 rfl) (Or.inl rfl) rfl rfl rfl rfl (Nat.le_of_ble_eq_true rfl) [(h2, .inr (3, [.ref h3, .ref h10, .ref h8, .ref h11, .int x5, .int r639, .int r642])), (h8, .inr (7, [.ref h3, .ref h12, .ref h13, .int x9, .int x10, .int x11])), (h3, .inr (4, [.ref h9, .int x8])), (h4, .inl (gI g, 48, .inl f591)), (h7, .inl (gI g, 6, .inl f594)), (h9, .inl (gB g, 1500, .inl fn4)), (h0, .inr (1, [.ref h1, .ref h2, .ref h3, .int z633, .long z660, .long 9223372036854775807, .int x1, .int x2, .long y4, .long y5])), (h1, .inr (2, [.ref h4, .int z589, .int z590, .ref h5, .ref h6, .ref h7])), (h5, .inl (gI g, 6, .inl f592)), (h6, .inl (gI g, 6, .inl f593))] rfl ?_
            refine r_aload_n 156 0 C dX1_takePrivate_156 rfl ?_
            refine r_iconst 157 0 C dX1_takePrivate_157 (by decide) ?_
            refine r_ldc 158 65535 C dX1_takePrivate_158 (mg 6 rfl) ?_
            refine r_callVv 160 C dX1_takePrivate_160 [] [(h0, .inr (1, [.ref h1, .ref h2, .ref h3, .int z633, .long z660, .long 9223372036854775807, .int x1, .int x2, .long y4, .long y5])), (h3, .inr (4, [.ref h9, .int x8])), (h9, .inl (gB g, 1500, .inl fn4))] [(h2, .inr (3, [.ref h3, .ref h10, .ref h8, .ref h11, .int x5, .int r639, .int r642])), (h8, .inr (7, [.ref h3, .ref h12, .ref h13, .int x9, .int x10, .int x11])), (h4, .inl (gI g, 48, .inl f591)), (h7, .inl (gI g, 6, .inl f594)), (h1, .inr (2, [.ref h4, .int z589, .int z590, .ref h5, .ref h6, .ref h7])), (h5, .inl (gI g, 6, .inl f592)), (h6, .inl (gI g, 6, .inl f593))] (fun sz => c57_X1_takeIndex l g h0 h3 h9 0 65535 h1 h2 z633 z660 9223372036854775807 x1 x2 y4 y5 x8 fn4 ⟨p635, p636⟩ ⟨by omega, by omega⟩ i_x1 i_x2 i_y4 i_y5 i_x8 (by show ((Int32.toInt x8) ≤ (9223372036854775807 : Int)); first | assumption | omega) sz) gX1_takePrivate_X1_takeIndex rfl ⟨rfl, rfl⟩ 2 (by decide) ⟨Nat.le_of_ble_eq_true rfl, Nat.le_of_ble_eq_true rfl⟩ 6 rfl rfl [6, 2, 5] [0, 1, 3, 4, 7, 8, 9] rfl rfl (by decide) (by decide) (by decide) rfl rfl (Nat.le_of_ble_eq_true rfl) ⟨Nat.le_of_ble_eq_true rfl, Nat.le_of_ble_eq_true rfl⟩ (fun  u668 w667 => ?_)
            obtain ⟨z661, z662, z663, z664, z665, z666⟩ := u668
            refine r_ws [(h2, .inr (3, [.ref h3, .ref h10, .ref h8, .ref h11, .int x5, .int r639, .int r642])), (h8, .inr (7, [.ref h3, .ref h12, .ref h13, .int x9, .int x10, .int x11])), (h4, .inl (gI g, 48, .inl f591)), (h7, .inl (gI g, 6, .inl f594)), (h1, .inr (2, [.ref h4, .int z589, .int z590, .ref h5, .ref h6, .ref h7])), (h5, .inl (gI g, 6, .inl f592)), (h6, .inl (gI g, 6, .inl f593)), (h0, .inr (1, [.ref h1, .ref h2, .ref h3, .int z661, .long z662, .long 9223372036854775807, .int z663, .int z664, .long z665, .long z666])), (h3, .inr (4, [.ref h9, .int x8])), (h9, .inl (gB g, 1500, .inl fn4))] rfl ?_
            have p669 : 0 ≤ (Int32.toInt z661) := w667.1
            have p670 : (Int32.toInt z661) ≤ 2 := w667.2.1
            have p671 : -8589934592 ≤ (Int64.toInt z662) := w667.2.2.1
            have p672 : (Int64.toInt z662) ≤ 8589934592 := w667.2.2.2.1
            have p673 : -257 ≤ (Int32.toInt z663) := w667.2.2.2.2.1
            have p674 : (Int32.toInt z663) ≤ 65535 := w667.2.2.2.2.2.1
            have p675 : -1 ≤ (Int32.toInt z664) := w667.2.2.2.2.2.2.1
            have p676 : (Int32.toInt z664) ≤ 255 := w667.2.2.2.2.2.2.2.1
            have p677 : -8589934592 ≤ (Int64.toInt z665) := w667.2.2.2.2.2.2.2.2.1
            have p678 : (Int64.toInt z665) ≤ 8589934592 := w667.2.2.2.2.2.2.2.2.2.1
            have p679 : -8589934592 ≤ (Int64.toInt z666) := w667.2.2.2.2.2.2.2.2.2.2.1
            have p680 : (Int64.toInt z666) ≤ 8589934592 := w667.2.2.2.2.2.2.2.2.2.2.2.1
            have p681 : SEQ (Int32.toInt z633) (Int32.toInt z661) (IDX (GB fn4 (Int32.toInt x8)) (Int32.toInt x8) (Int64.toInt z660) (0 : Int) (65535 : Int)) (IXR (Int32.toInt z663) (Int64.toInt z662) (Int32.toInt z664) (Int64.toInt z665) (Int64.toInt z666) (Int64.toInt z660)) := w667.2.2.2.2.2.2.2.2.2.2.2.2.1
            have p682 : IXN (Int32.toInt z633) (Int32.toInt z661) (0 : Int) (65535 : Int) (Int32.toInt z663) (Int64.toInt z666) := w667.2.2.2.2.2.2.2.2.2.2.2.2.2
            refine r_aload_n 163 0 C dX1_takePrivate_163 rfl ?_
            refine r_aload_n 164 0 C dX1_takePrivate_164 rfl ?_
            refine r_get 165 C dX1_takePrivate_165 (k := 1) 7 rfl rfl hiX1 (by decide) rfl (mg 3 rfl) (Or.inl rfl) rfl ?_
            refine r_getN 168 C dX1_takePrivate_168 (k := 2) 0 rfl rfl hiX3 (by decide) rfl (mg 13 rfl) rfl rfl ?_
            refine r_callVv 171 C dX1_takePrivate_171 [] [(h0, .inr (1, [.ref h1, .ref h2, .ref h3, .int z661, .long z662, .long 9223372036854775807, .int z663, .int z664, .long z665, .long z666])), (h8, .inr (7, [.ref h3, .ref h12, .ref h13, .int x9, .int x10, .int x11]))] [(h2, .inr (3, [.ref h3, .ref h10, .ref h8, .ref h11, .int x5, .int r639, .int r642])), (h4, .inl (gI g, 48, .inl f591)), (h7, .inl (gI g, 6, .inl f594)), (h1, .inr (2, [.ref h4, .int z589, .int z590, .ref h5, .ref h6, .ref h7])), (h5, .inl (gI g, 6, .inl f592)), (h6, .inl (gI g, 6, .inl f593)), (h3, .inr (4, [.ref h9, .int x8])), (h9, .inl (gB g, 1500, .inl fn4))] (fun sz => c59_X1_shelve l g h0 h8 h1 h2 h3 z661 z662 9223372036854775807 z663 z664 z665 z666 h12 h13 x9 x10 x11 ⟨p669, p670⟩ ⟨p671, p672⟩ ⟨p673, p674⟩ ⟨p675, p676⟩ ⟨p677, p678⟩ ⟨p679, p680⟩ sz) gX1_takePrivate_X1_shelve rfl ⟨rfl, rfl⟩ 1 (by decide) ⟨Nat.le_of_ble_eq_true rfl, Nat.le_of_ble_eq_true rfl⟩ 7 rfl rfl [7, 1] [0, 2, 3, 4, 5, 6, 8, 9] rfl rfl (by decide) (by decide) (by decide) rfl rfl (Nat.le_of_ble_eq_true rfl) ⟨Nat.le_of_ble_eq_true rfl, Nat.le_of_ble_eq_true rfl⟩ (fun  u687 w686 => ?_)
            obtain ⟨z683, z684, z685⟩ := u687
            refine r_ws [(h2, .inr (3, [.ref h3, .ref h10, .ref h8, .ref h11, .int x5, .int r639, .int r642])), (h4, .inl (gI g, 48, .inl f591)), (h7, .inl (gI g, 6, .inl f594)), (h1, .inr (2, [.ref h4, .int z589, .int z590, .ref h5, .ref h6, .ref h7])), (h5, .inl (gI g, 6, .inl f592)), (h6, .inl (gI g, 6, .inl f593)), (h3, .inr (4, [.ref h9, .int x8])), (h9, .inl (gB g, 1500, .inl fn4)), (h0, .inr (1, [.ref h1, .ref h2, .ref h3, .int z661, .long z662, .long 9223372036854775807, .int z663, .int z664, .long z665, .long z666])), (h8, .inr (7, [.ref h3, .ref h12, .ref h13, .int z683, .int z684, .int z685]))] rfl ?_
            have gz683 := fb_rng z683
            have gz684 := fb_rng z684
            have gz685 := fb_rng z685
            have p688 : SHV (Int32.toInt z661) (Int32.toInt z663) (Int32.toInt x9) (Int32.toInt z683) := w686
            exact r_vret 174 Rt dX1_takePrivate_174 (z661, z662, z663, z664, z665, z666, z589, z590, r639, r642, f591, f592, f593, f594, z683, z684, z685) (show 0 ≤ (Int32.toInt z661) ∧ (Int32.toInt z661) ≤ 2 ∧ -8589934592 ≤ (Int64.toInt z662) ∧ (Int64.toInt z662) ≤ 8589934592 ∧ -257 ≤ (Int32.toInt z663) ∧ (Int32.toInt z663) ≤ 65535 ∧ -1 ≤ (Int32.toInt z664) ∧ (Int32.toInt z664) ≤ 255 ∧ -8589934592 ≤ (Int64.toInt z665) ∧ (Int64.toInt z665) ≤ 8589934592 ∧ -8589934592 ≤ (Int64.toInt z666) ∧ (Int64.toInt z666) ≤ 8589934592 ∧ 0 ≤ (Int32.toInt z589) ∧ (Int32.toInt z589) ≤ 48 ∧ 0 ≤ (Int32.toInt z590) ∧ (Int32.toInt z590) ≤ 1 ∧ SEQ (Int32.toInt x0) (Int32.toInt z661) (PRIV (GB fn4 (Int32.toInt x8)) (Int32.toInt x8) (Int64.toInt y0) (Int64.toInt y1)) (fun q => q = ((Int32.toInt z683), (Int32.toInt r639), (Int32.toInt r642))) from ⟨(show _ ∧ _ from ⟨p669, p670⟩).1, (show _ ∧ _ from ⟨p669, p670⟩).2, (show _ ∧ _ from ⟨p671, p672⟩).1, (show _ ∧ _ from ⟨p671, p672⟩).2, (show _ ∧ _ from ⟨p673, p674⟩).1, (show _ ∧ _ from ⟨p673, p674⟩).2, (show _ ∧ _ from ⟨p675, p676⟩).1, (show _ ∧ _ from ⟨p675, p676⟩).2, (show _ ∧ _ from ⟨p677, p678⟩).1, (show _ ∧ _ from ⟨p677, p678⟩).2, (show _ ∧ _ from ⟨p679, p680⟩).1, (show _ ∧ _ from ⟨p679, p680⟩).2, (show _ ∧ _ from ⟨p601, p602⟩).1, (show _ ∧ _ from ⟨p601, p602⟩).2, (show _ ∧ _ from ⟨p603, p604⟩).1, (show _ ∧ _ from ⟨p603, p604⟩).2, (by exact priv_end (by omega) p584 (by omega) (by omega) p605 p615 p626 p637 (by have h_1 := p610; unfold FTS at h_1; omega) (by have h_1 := p621; unfold FTS at h_1; omega) (by have h_1 := p632; unfold FTS at h_1; omega) (by have h_1 := p641; unfold FST at h_1; omega) (by have h_1 := p644; unfold FST at h_1; omega) (Or.inr (Or.inr ⟨(by have h_1 := p652; unfold TOL at h_1; omega), seq_of (ixr_len p681 (fun h_9 => (by have h_1 := p682; unfold IXN at h_1; have h_2 := p688; unfold SHV at h_2; omega))) (idx_p (by have h_1 := p652; unfold TOL at h_1; have h_2 := p658; unfold FST at h_2; omega))⟩)))⟩) [8, 3, 0, 6, 1, 4, 5, 2, 9, 7] (by decide) rfl (Nat.le_of_ble_eq_true rfl) (Nat.le_of_ble_eq_true rfl)
