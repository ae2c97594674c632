set_option maxHeartbeats 4000000 in
set_option maxRecDepth 100000 in
theorem c62_J7_rangeCheck_23922 (l : Launch) (g : GD) (sz : Nat) : Met l yJ7_rangeCheck_23922 wsJ7_rangeCheck_23922 ({ frames := 0, cells := 0, slots := 0, locals := 0 }) (va_Pc [.int 0, .int 0, .int 0] (PW g [] sz)) (va_Qv (fun (_ : Unit) => True) (BW g (va_A [] sz) (fun _ : Unit => [])) (va_A [] sz)) 0 0 (va_A [] sz) := by
  refine met_v RJ7 (by decide) rfl rfl (Nat.le_of_ble_eq_true rfl) [(0, .int 0), (1, .int 0), (2, .int 0)] rfl ?_
  intro p e s m args below meth c A Q C hnm Rt
  refine r_iload_n 0 1 C dJ7_rangeCheck_23922_0 rfl ?_
  refine r_iload_n 1 2 C dJ7_rangeCheck_23922_1 rfl ?_
  refine r_icmp_le_t 2 46 C dJ7_rangeCheck_23922_2 (by decide) (by decide) ?_
  refine r_iload_n 46 1 C dJ7_rangeCheck_23922_46 rfl ?_
  refine r_if_ge_t 47 59 C dJ7_rangeCheck_23922_47 (by decide) (by decide) ?_
  refine r_iload_n 59 2 C dJ7_rangeCheck_23922_59 rfl ?_
  refine r_iload_n 60 0 C dJ7_rangeCheck_23922_60 rfl ?_
  refine r_icmp_le_t 61 73 C dJ7_rangeCheck_23922_61 (by decide) (by decide) ?_
  exact r_vret 73 Rt dJ7_rangeCheck_23922_73 () trivial [] (by decide) rfl (Nat.le_of_ble_eq_true rfl) (Nat.le_of_ble_eq_true rfl)
set_option maxHeartbeats 4000000 in
set_option maxRecDepth 100000 in
theorem c63_J7_fill_fda19 (l : Launch) (g : GD) (h0 : Nat) (fn0 : Nat → Int32) (sz : Nat) : Met l yJ7_fill_fda19 wsJ7_fill_fda19 ({ frames := 1, cells := 0, slots := 0, locals := 22 }) (va_Pc [.ref h0, .int 0, .int 0, .int (-1)] (PW g [(h0, .inl (gI g, 0, .inl fn0))] sz)) (va_Qv (fun (_ : Unit) => True) (BW g (va_A [(h0, .inl (gI g, 0, .inl fn0))] sz) (fun _ : Unit => [(h0, .inl (gI g, 0, .inl fn0))])) (va_A [(h0, .inl (gI g, 0, .inl fn0))] sz)) 0 0 (va_A [(h0, .inl (gI g, 0, .inl fn0))] sz) := by
  refine met_v RJ7 (by decide) rfl rfl (Nat.le_of_ble_eq_true rfl) [(0, .ref h0), (1, .int 0), (2, .int 0), (3, .int (-1))] rfl ?_
  intro p e s m args below meth c A Q C hnm Rt
  refine r_aload_n 0 0 C dJ7_fill_fda19_0 rfl ?_
  refine r_ialen 1 0 C dJ7_fill_fda19_1 0 rfl (by decide) ?_
  refine r_iload_n 2 1 C dJ7_fill_fda19_2 rfl ?_
  refine r_iload_n 3 2 C dJ7_fill_fda19_3 rfl ?_
  refine r_callSv 4 C dJ7_fill_fda19_4 [] [] [(h0, .inl (gI g, 0, .inl fn0))] (fun sz => c62_J7_rangeCheck_23922 l g  sz) gJ7_fill_fda19_J7_rangeCheck_23922 rfl ⟨rfl, rfl⟩ 3 (by decide) ⟨Nat.le_of_ble_eq_true rfl, Nat.le_of_ble_eq_true rfl⟩ [] [0] rfl rfl (by decide) (by decide) (by decide) rfl rfl (Nat.le_of_ble_eq_true rfl) ⟨Nat.le_of_ble_eq_true rfl, Nat.le_of_ble_eq_true rfl⟩ (fun  _ w1 => ?_)
  refine r_ws [(h0, .inl (gI g, 0, .inl fn0))] rfl ?_
  refine r_iload_n 7 1 C dJ7_fill_fda19_7 rfl ?_
  refine r_istore 8 C dJ7_fill_fda19_8 [(4, .int 0), (0, .ref h0), (1, .int 0), (2, .int 0), (3, .int (-1))] (by decide) rfl ?_
  refine r_iload 10 0 C dJ7_fill_fda19_10 rfl ?_
  refine r_iload_n 12 3 C dJ7_fill_fda19_12 rfl ?_
  refine r_icmp_ge_t 13 27 C dJ7_fill_fda19_13 (by decide) (by decide) ?_
  exact r_vret 27 Rt dJ7_fill_fda19_27 () trivial [0] (by decide) rfl (Nat.le_of_ble_eq_true rfl) (Nat.le_of_ble_eq_true rfl)
set_option maxHeartbeats 4000000 in
set_option maxRecDepth 100000 in
theorem c64_X8_lay (l : Launch) (g : GD) (h0 : Nat) (h1 : Nat) (h2 : Nat) (h3 : Nat) (fn0 : Nat → Int32) (sz : Nat) : Met l yX8_lay wsX8_lay ({ frames := 2, cells := 0, slots := 0, locals := 46 }) (va_Pc [.ref h0, .int 0] (PW g [(h0, .inr (7, [.ref h2, .ref h1, .ref h3, .int 0, .int 0, .int 0])), (h1, .inl (gI g, 0, .inl fn0))] sz)) (va_Qv (fun (_ : Unit) => True) (BW g (va_A [(h0, .inr (7, [.ref h2, .ref h1, .ref h3, .int 0, .int 0, .int 0])), (h1, .inl (gI g, 0, .inl fn0))] sz) (fun _ : Unit => [(h0, .inr (7, [.ref h2, .ref h1, .ref h3, .int 0, .int 0, .int 0])), (h1, .inl (gI g, 0, .inl fn0))])) (va_A [(h0, .inr (7, [.ref h2, .ref h1, .ref h3, .int 0, .int 0, .int 0])), (h1, .inl (gI g, 0, .inl fn0))] sz)) 0 0 (va_A [(h0, .inr (7, [.ref h2, .ref h1, .ref h3, .int 0, .int 0, .int 0])), (h1, .inl (gI g, 0, .inl fn0))] sz) := by
  refine met_v RX8 (by decide) rfl rfl (Nat.le_of_ble_eq_true rfl) [(0, .ref h0), (1, .int 0)] rfl ?_
  intro p e s m args below meth c A Q C hnm Rt
  have hiX8 : ∀ w ∈ wsX80, w ∈ wsX8_lay := fun w h => List.mem_cons_of_mem _ (List.mem_append_right _ (h))
  refine r_aload_n 0 0 C dX8_lay_0 rfl ?_
  refine r_iconst 1 0 C dX8_lay_1 (by decide) ?_
  refine r_iload_n 2 1 C dX8_lay_2 rfl ?_
  refine r_aload_n 3 0 C dX8_lay_3 rfl ?_
  refine r_get 4 C dX8_lay_4 (k := 1) 0 rfl rfl hiX8 (by decide) rfl (mg 1 rfl) (Or.inl rfl) rfl ?_
  refine r_ialen 7 0 C dX8_lay_7 1 rfl (by decide) ?_
  refine r_mmin 8 0 C dX8_lay_8 (mg 2 rfl) (mg 3 rfl) (mg 4 rfl) (mg 5 rfl) (Nat.le_of_ble_eq_true rfl) (Nat.le_of_ble_eq_true rfl) (Nat.le_of_ble_eq_true rfl) (Nat.le_of_ble_eq_true rfl) (by decide) ?_
  refine r_mmax 11 0 C dX8_lay_11 (mg 6 rfl) (mg 7 rfl) (mg 4 rfl) (mg 8 rfl) (Nat.le_of_ble_eq_true rfl) (Nat.le_of_ble_eq_true rfl) (Nat.le_of_ble_eq_true rfl) (Nat.le_of_ble_eq_true rfl) (by decide) ?_
  refine r_put 14 C dX8_lay_14 (k := 3) 0 rfl rfl hiX8 tyX8 tyX8_ok nmX8 (by decide) rfl (mg 9 rfl) (Or.inl rfl) rfl rfl rfl rfl (Nat.le_of_ble_eq_true rfl) [(h0, .inr (7, [.ref h2, .ref h1, .ref h3, .int 0, .int 0, .int 0])), (h1, .inl (gI g, 0, .inl fn0))] rfl ?_
  refine r_aload_n 17 0 C dX8_lay_17 rfl ?_
  refine r_get 18 C dX8_lay_18 (k := 1) 0 rfl rfl hiX8 (by decide) rfl (mg 1 rfl) (Or.inl rfl) rfl ?_
  refine r_iconst 21 0 C dX8_lay_21 (by decide) ?_
  refine r_aload_n 22 0 C dX8_lay_22 rfl ?_
  refine r_get 23 C dX8_lay_23 (k := 3) 0 rfl rfl hiX8 (by decide) rfl (mg 9 rfl) (Or.inl rfl) rfl ?_
  refine r_iconst 26 (-1) C dX8_lay_26 (by decide) ?_
  refine r_callSv 27 C dX8_lay_27 [] [(h1, .inl (gI g, 0, .inl fn0))] [(h0, .inr (7, [.ref h2, .ref h1, .ref h3, .int 0, .int 0, .int 0]))] (fun sz => c63_J7_fill_fda19 l g h1 fn0 sz) gX8_lay_J7_fill_fda19 rfl ⟨rfl, rfl⟩ 4 (by decide) ⟨Nat.le_of_ble_eq_true rfl, Nat.le_of_ble_eq_true rfl⟩ [1] [0] rfl rfl (by decide) (by decide) (by decide) rfl rfl (Nat.le_of_ble_eq_true rfl) ⟨Nat.le_of_ble_eq_true rfl, Nat.le_of_ble_eq_true rfl⟩ (fun  _ w1 => ?_)
  refine r_ws [(h0, .inr (7, [.ref h2, .ref h1, .ref h3, .int 0, .int 0, .int 0])), (h1, .inl (gI g, 0, .inl fn0))] rfl ?_
  refine r_aload_n 30 0 C dX8_lay_30 rfl ?_
  refine r_iconst 31 0 C dX8_lay_31 (by decide) ?_
  refine r_put 32 C dX8_lay_32 (k := 5) 0 rfl rfl hiX8 tyX8 tyX8_ok nmX8 (by decide) rfl (mg 10 rfl) (Or.inl rfl) rfl rfl rfl rfl (Nat.le_of_ble_eq_true rfl) [(h0, .inr (7, [.ref h2, .ref h1, .ref h3, .int 0, .int 0, .int 0])), (h1, .inl (gI g, 0, .inl fn0))] rfl ?_
  exact r_vret 35 Rt dX8_lay_35 () trivial [0, 1] (by decide) rfl (Nat.le_of_ble_eq_true rfl) (Nat.le_of_ble_eq_true rfl)
set_option maxHeartbeats 4000000 in
set_option maxRecDepth 100000 in
theorem c65_X3_begin (l : Launch) (g : GD) (h0 : Nat) (h1 : Nat) (h2 : Nat) (h3 : Nat) (h4 : Nat) (h5 : Nat) (h6 : Nat) (h7 : Nat) (h8 : Nat) (h9 : Nat) (h10 : Nat) (h11 : Nat) (fn0 : Nat → Int32) (h12 : Nat) (fn1 : Nat → Int32) (h13 : Nat) (fn2 : Nat → Int32) (sz : Nat) : Met l yX3_begin wsX3_begin ({ frames := 3, cells := 0, slots := 0, locals := 67 }) (va_Pc [.ref h0, .int 0, .ref h1, .int 0] (PW g [(h1, .inr (4, [.ref h9, .int 0])), (h0, .inr (3, [.ref h2, .ref h3, .ref h5, .ref h7, .int (-1), .int 0, .int 0])), (h2, .inr (4, [.ref h10, .int 0])), (h3, .inr (7, [.ref h2, .ref h4, .ref h11, .int 0, .int 0, .int 0])), (h4, .inl (gI g, 40, .inl fn0)), (h5, .inr (7, [.ref h2, .ref h6, .ref h12, .int 0, .int 0, .int 0])), (h6, .inl (gI g, 200, .inl fn1)), (h7, .inr (7, [.ref h2, .ref h8, .ref h13, .int 0, .int 0, .int 0])), (h8, .inl (gI g, 0, .inl fn2))] sz)) (va_Qv (fun (_ : Unit) => True) (BW g (va_A [(h1, .inr (4, [.ref h9, .int 0])), (h0, .inr (3, [.ref h2, .ref h3, .ref h5, .ref h7, .int (-1), .int 0, .int 0])), (h2, .inr (4, [.ref h10, .int 0])), (h3, .inr (7, [.ref h2, .ref h4, .ref h11, .int 0, .int 0, .int 0])), (h4, .inl (gI g, 40, .inl fn0)), (h5, .inr (7, [.ref h2, .ref h6, .ref h12, .int 0, .int 0, .int 0])), (h6, .inl (gI g, 200, .inl fn1)), (h7, .inr (7, [.ref h2, .ref h8, .ref h13, .int 0, .int 0, .int 0])), (h8, .inl (gI g, 0, .inl fn2))] sz) (fun _ : Unit => [(h1, .inr (4, [.ref h9, .int 0])), (h0, .inr (3, [.ref h2, .ref h3, .ref h5, .ref h7, .int 0, .int 0, .int 0])), (h2, .inr (4, [.ref h10, .int 0])), (h3, .inr (7, [.ref h2, .ref h4, .ref h11, .int 0, .int 0, .int 0])), (h4, .inl (gI g, 40, .inl fn0)), (h5, .inr (7, [.ref h2, .ref h6, .ref h12, .int 0, .int 0, .int 0])), (h6, .inl (gI g, 200, .inl fn1)), (h7, .inr (7, [.ref h2, .ref h8, .ref h13, .int 0, .int 0, .int 0])), (h8, .inl (gI g, 0, .inl fn2))])) (va_A [(h1, .inr (4, [.ref h9, .int 0])), (h0, .inr (3, [.ref h2, .ref h3, .ref h5, .ref h7, .int (-1), .int 0, .int 0])), (h2, .inr (4, [.ref h10, .int 0])), (h3, .inr (7, [.ref h2, .ref h4, .ref h11, .int 0, .int 0, .int 0])), (h4, .inl (gI g, 40, .inl fn0)), (h5, .inr (7, [.ref h2, .ref h6, .ref h12, .int 0, .int 0, .int 0])), (h6, .inl (gI g, 200, .inl fn1)), (h7, .inr (7, [.ref h2, .ref h8, .ref h13, .int 0, .int 0, .int 0])), (h8, .inl (gI g, 0, .inl fn2))] sz)) 0 0 (va_A [(h1, .inr (4, [.ref h9, .int 0])), (h0, .inr (3, [.ref h2, .ref h3, .ref h5, .ref h7, .int (-1), .int 0, .int 0])), (h2, .inr (4, [.ref h10, .int 0])), (h3, .inr (7, [.ref h2, .ref h4, .ref h11, .int 0, .int 0, .int 0])), (h4, .inl (gI g, 40, .inl fn0)), (h5, .inr (7, [.ref h2, .ref h6, .ref h12, .int 0, .int 0, .int 0])), (h6, .inl (gI g, 200, .inl fn1)), (h7, .inr (7, [.ref h2, .ref h8, .ref h13, .int 0, .int 0, .int 0])), (h8, .inl (gI g, 0, .inl fn2))] sz) := by
  refine met_v RX3 (by decide) rfl rfl (Nat.le_of_ble_eq_true rfl) [(0, .ref h0), (1, .int 0), (2, .ref h1), (3, .int 0)] rfl ?_
  intro p e s m args below meth c A Q C hnm Rt
  have hiX3 : ∀ w ∈ wsX30, w ∈ wsX3_begin := fun w h => List.mem_cons_of_mem _ (List.mem_append_left _ (List.mem_append_left _ (List.mem_append_right _ (h))))
  refine r_aload_n 0 0 C dX3_begin_0 rfl ?_
  refine r_iload_n 1 1 C dX3_begin_1 rfl ?_
  refine r_put 2 C dX3_begin_2 (k := 4) 1 rfl rfl hiX3 tyX3 tyX3_ok nmX3 (by decide) rfl (mg 1 rfl) (Or.inl rfl) rfl rfl rfl rfl (Nat.le_of_ble_eq_true rfl) [(h1, .inr (4, [.ref h9, .int 0])), (h0, .inr (3, [.ref h2, .ref h3, .ref h5, .ref h7, .int 0, .int 0, .int 0])), (h2, .inr (4, [.ref h10, .int 0])), (h3, .inr (7, [.ref h2, .ref h4, .ref h11, .int 0, .int 0, .int 0])), (h4, .inl (gI g, 40, .inl fn0)), (h5, .inr (7, [.ref h2, .ref h6, .ref h12, .int 0, .int 0, .int 0])), (h6, .inl (gI g, 200, .inl fn1)), (h7, .inr (7, [.ref h2, .ref h8, .ref h13, .int 0, .int 0, .int 0])), (h8, .inl (gI g, 0, .inl fn2))] rfl ?_
  refine r_aload_n 5 0 C dX3_begin_5 rfl ?_
  refine r_get 6 C dX3_begin_6 (k := 0) 1 rfl rfl hiX3 (by decide) rfl (mg 2 rfl) (Or.inl rfl) rfl ?_
  refine r_iconst 9 0 C dX3_begin_9 (by decide) ?_
  refine r_callVv 10 C dX3_begin_10 [] [(h2, .inr (4, [.ref h10, .int 0]))] [(h1, .inr (4, [.ref h9, .int 0])), (h0, .inr (3, [.ref h2, .ref h3, .ref h5, .ref h7, .int 0, .int 0, .int 0])), (h3, .inr (7, [.ref h2, .ref h4, .ref h11, .int 0, .int 0, .int 0])), (h4, .inl (gI g, 40, .inl fn0)), (h5, .inr (7, [.ref h2, .ref h6, .ref h12, .int 0, .int 0, .int 0])), (h6, .inl (gI g, 200, .inl fn1)), (h7, .inr (7, [.ref h2, .ref h8, .ref h13, .int 0, .int 0, .int 0])), (h8, .inl (gI g, 0, .inl fn2))] (fun sz => c53_X5_cut l g h2 h10 sz) gX3_begin_X5_cut rfl ⟨rfl, rfl⟩ 1 (by decide) ⟨Nat.le_of_ble_eq_true rfl, Nat.le_of_ble_eq_true rfl⟩ 2 rfl rfl [2] [0, 1, 3, 4, 5, 6, 7, 8] rfl rfl (by decide) (by decide) (by decide) rfl rfl (Nat.le_of_ble_eq_true rfl) ⟨Nat.le_of_ble_eq_true rfl, Nat.le_of_ble_eq_true rfl⟩ (fun  _ w1 => ?_)
  refine r_ws [(h1, .inr (4, [.ref h9, .int 0])), (h0, .inr (3, [.ref h2, .ref h3, .ref h5, .ref h7, .int 0, .int 0, .int 0])), (h3, .inr (7, [.ref h2, .ref h4, .ref h11, .int 0, .int 0, .int 0])), (h4, .inl (gI g, 40, .inl fn0)), (h5, .inr (7, [.ref h2, .ref h6, .ref h12, .int 0, .int 0, .int 0])), (h6, .inl (gI g, 200, .inl fn1)), (h7, .inr (7, [.ref h2, .ref h8, .ref h13, .int 0, .int 0, .int 0])), (h8, .inl (gI g, 0, .inl fn2)), (h2, .inr (4, [.ref h10, .int 0]))] rfl ?_
  refine r_aload_n 13 0 C dX3_begin_13 rfl ?_
  refine r_get 14 C dX3_begin_14 (k := 0) 1 rfl rfl hiX3 (by decide) rfl (mg 2 rfl) (Or.inl rfl) rfl ?_
  refine r_aload_n 17 2 C dX3_begin_17 rfl ?_
  refine r_iload_n 18 3 C dX3_begin_18 rfl ?_
  refine r_callVv 19 C dX3_begin_19 [] [(h1, .inr (4, [.ref h9, .int 0]))] [(h0, .inr (3, [.ref h2, .ref h3, .ref h5, .ref h7, .int 0, .int 0, .int 0])), (h3, .inr (7, [.ref h2, .ref h4, .ref h11, .int 0, .int 0, .int 0])), (h4, .inl (gI g, 40, .inl fn0)), (h5, .inr (7, [.ref h2, .ref h6, .ref h12, .int 0, .int 0, .int 0])), (h6, .inl (gI g, 200, .inl fn1)), (h7, .inr (7, [.ref h2, .ref h8, .ref h13, .int 0, .int 0, .int 0])), (h8, .inl (gI g, 0, .inl fn2)), (h2, .inr (4, [.ref h10, .int 0]))] (fun sz => c55_X5_addAll l g h2 h1 h9 sz) gX3_begin_X5_addAll rfl ⟨rfl, rfl⟩ 2 (by decide) ⟨Nat.le_of_ble_eq_true rfl, Nat.le_of_ble_eq_true rfl⟩ 8 rfl rfl [0] [1, 2, 3, 4, 5, 6, 7, 8] rfl rfl (by decide) (by decide) (by decide) rfl rfl (Nat.le_of_ble_eq_true rfl) ⟨Nat.le_of_ble_eq_true rfl, Nat.le_of_ble_eq_true rfl⟩ (fun  _ w2 => ?_)
  refine r_ws [(h0, .inr (3, [.ref h2, .ref h3, .ref h5, .ref h7, .int 0, .int 0, .int 0])), (h3, .inr (7, [.ref h2, .ref h4, .ref h11, .int 0, .int 0, .int 0])), (h4, .inl (gI g, 40, .inl fn0)), (h5, .inr (7, [.ref h2, .ref h6, .ref h12, .int 0, .int 0, .int 0])), (h6, .inl (gI g, 200, .inl fn1)), (h7, .inr (7, [.ref h2, .ref h8, .ref h13, .int 0, .int 0, .int 0])), (h8, .inl (gI g, 0, .inl fn2)), (h2, .inr (4, [.ref h10, .int 0])), (h1, .inr (4, [.ref h9, .int 0]))] rfl ?_
  refine r_aload_n 22 0 C dX3_begin_22 rfl ?_
  refine r_get 23 C dX3_begin_23 (k := 1) 0 rfl rfl hiX3 (by decide) rfl (mg 3 rfl) (Or.inl rfl) rfl ?_
  refine r_iconst 26 0 C dX3_begin_26 (by decide) ?_
  refine r_callVv 27 C dX3_begin_27 [] [(h3, .inr (7, [.ref h2, .ref h4, .ref h11, .int 0, .int 0, .int 0])), (h4, .inl (gI g, 40, .inl fn0))] [(h0, .inr (3, [.ref h2, .ref h3, .ref h5, .ref h7, .int 0, .int 0, .int 0])), (h5, .inr (7, [.ref h2, .ref h6, .ref h12, .int 0, .int 0, .int 0])), (h6, .inl (gI g, 200, .inl fn1)), (h7, .inr (7, [.ref h2, .ref h8, .ref h13, .int 0, .int 0, .int 0])), (h8, .inl (gI g, 0, .inl fn2)), (h2, .inr (4, [.ref h10, .int 0])), (h1, .inr (4, [.ref h9, .int 0]))] (fun sz => c58_X8_lay l g h3 h4 h2 h11 fn0 sz) gX3_begin_X8_lay rfl ⟨rfl, rfl⟩ 1 (by decide) ⟨Nat.le_of_ble_eq_true rfl, Nat.le_of_ble_eq_true rfl⟩ 1 rfl rfl [1, 2] [0, 3, 4, 5, 6, 7, 8] rfl rfl (by decide) (by decide) (by decide) rfl rfl (Nat.le_of_ble_eq_true rfl) ⟨Nat.le_of_ble_eq_true rfl, Nat.le_of_ble_eq_true rfl⟩ (fun  _ w3 => ?_)
  refine r_ws [(h0, .inr (3, [.ref h2, .ref h3, .ref h5, .ref h7, .int 0, .int 0, .int 0])), (h5, .inr (7, [.ref h2, .ref h6, .ref h12, .int 0, .int 0, .int 0])), (h6, .inl (gI g, 200, .inl fn1)), (h7, .inr (7, [.ref h2, .ref h8, .ref h13, .int 0, .int 0, .int 0])), (h8, .inl (gI g, 0, .inl fn2)), (h2, .inr (4, [.ref h10, .int 0])), (h1, .inr (4, [.ref h9, .int 0])), (h3, .inr (7, [.ref h2, .ref h4, .ref h11, .int 0, .int 0, .int 0])), (h4, .inl (gI g, 40, .inl fn0))] rfl ?_
  refine r_aload_n 30 0 C dX3_begin_30 rfl ?_
  refine r_get 31 C dX3_begin_31 (k := 2) 0 rfl rfl hiX3 (by decide) rfl (mg 4 rfl) (Or.inl rfl) rfl ?_
  refine r_iconst 34 0 C dX3_begin_34 (by decide) ?_
  refine r_callVv 35 C dX3_begin_35 [] [(h5, .inr (7, [.ref h2, .ref h6, .ref h12, .int 0, .int 0, .int 0])), (h6, .inl (gI g, 200, .inl fn1))] [(h0, .inr (3, [.ref h2, .ref h3, .ref h5, .ref h7, .int 0, .int 0, .int 0])), (h7, .inr (7, [.ref h2, .ref h8, .ref h13, .int 0, .int 0, .int 0])), (h8, .inl (gI g, 0, .inl fn2)), (h2, .inr (4, [.ref h10, .int 0])), (h1, .inr (4, [.ref h9, .int 0])), (h3, .inr (7, [.ref h2, .ref h4, .ref h11, .int 0, .int 0, .int 0])), (h4, .inl (gI g, 40, .inl fn0))] (fun sz => c61_X8_lay l g h5 h6 h2 h12 fn1 sz) gX3_begin_X8_lay rfl ⟨rfl, rfl⟩ 1 (by decide) ⟨Nat.le_of_ble_eq_true rfl, Nat.le_of_ble_eq_true rfl⟩ 1 rfl rfl [1, 2] [0, 3, 4, 5, 6, 7, 8] rfl rfl (by decide) (by decide) (by decide) rfl rfl (Nat.le_of_ble_eq_true rfl) ⟨Nat.le_of_ble_eq_true rfl, Nat.le_of_ble_eq_true rfl⟩ (fun  _ w4 => ?_)
  refine r_ws [(h0, .inr (3, [.ref h2, .ref h3, .ref h5, .ref h7, .int 0, .int 0, .int 0])), (h7, .inr (7, [.ref h2, .ref h8, .ref h13, .int 0, .int 0, .int 0])), (h8, .inl (gI g, 0, .inl fn2)), (h2, .inr (4, [.ref h10, .int 0])), (h1, .inr (4, [.ref h9, .int 0])), (h3, .inr (7, [.ref h2, .ref h4, .ref h11, .int 0, .int 0, .int 0])), (h4, .inl (gI g, 40, .inl fn0)), (h5, .inr (7, [.ref h2, .ref h6, .ref h12, .int 0, .int 0, .int 0])), (h6, .inl (gI g, 200, .inl fn1))] rfl ?_
  refine r_aload_n 38 0 C dX3_begin_38 rfl ?_
  refine r_get 39 C dX3_begin_39 (k := 3) 0 rfl rfl hiX3 (by decide) rfl (mg 5 rfl) (Or.inl rfl) rfl ?_
  refine r_iconst 42 0 C dX3_begin_42 (by decide) ?_
  refine r_callVv 43 C dX3_begin_43 [] [(h7, .inr (7, [.ref h2, .ref h8, .ref h13, .int 0, .int 0, .int 0])), (h8, .inl (gI g, 0, .inl fn2))] [(h0, .inr (3, [.ref h2, .ref h3, .ref h5, .ref h7, .int 0, .int 0, .int 0])), (h2, .inr (4, [.ref h10, .int 0])), (h1, .inr (4, [.ref h9, .int 0])), (h3, .inr (7, [.ref h2, .ref h4, .ref h11, .int 0, .int 0, .int 0])), (h4, .inl (gI g, 40, .inl fn0)), (h5, .inr (7, [.ref h2, .ref h6, .ref h12, .int 0, .int 0, .int 0])), (h6, .inl (gI g, 200, .inl fn1))] (fun sz => c64_X8_lay l g h7 h8 h2 h13 fn2 sz) gX3_begin_X8_lay rfl ⟨rfl, rfl⟩ 1 (by decide) ⟨Nat.le_of_ble_eq_true rfl, Nat.le_of_ble_eq_true rfl⟩ 1 rfl rfl [1, 2] [0, 3, 4, 5, 6, 7, 8] rfl rfl (by decide) (by decide) (by decide) rfl rfl (Nat.le_of_ble_eq_true rfl) ⟨Nat.le_of_ble_eq_true rfl, Nat.le_of_ble_eq_true rfl⟩ (fun  _ w5 => ?_)
  refine r_ws [(h0, .inr (3, [.ref h2, .ref h3, .ref h5, .ref h7, .int 0, .int 0, .int 0])), (h2, .inr (4, [.ref h10, .int 0])), (h1, .inr (4, [.ref h9, .int 0])), (h3, .inr (7, [.ref h2, .ref h4, .ref h11, .int 0, .int 0, .int 0])), (h4, .inl (gI g, 40, .inl fn0)), (h5, .inr (7, [.ref h2, .ref h6, .ref h12, .int 0, .int 0, .int 0])), (h6, .inl (gI g, 200, .inl fn1)), (h7, .inr (7, [.ref h2, .ref h8, .ref h13, .int 0, .int 0, .int 0])), (h8, .inl (gI g, 0, .inl fn2))] rfl ?_
  refine r_aload_n 46 0 C dX3_begin_46 rfl ?_
  refine r_iconst 47 0 C dX3_begin_47 (by decide) ?_
  refine r_put 48 C dX3_begin_48 (k := 5) 0 rfl rfl hiX3 tyX3 tyX3_ok nmX3 (by decide) rfl (mg 6 rfl) (Or.inl rfl) rfl rfl rfl rfl (Nat.le_of_ble_eq_true rfl) [(h0, .inr (3, [.ref h2, .ref h3, .ref h5, .ref h7, .int 0, .int 0, .int 0])), (h2, .inr (4, [.ref h10, .int 0])), (h1, .inr (4, [.ref h9, .int 0])), (h3, .inr (7, [.ref h2, .ref h4, .ref h11, .int 0, .int 0, .int 0])), (h4, .inl (gI g, 40, .inl fn0)), (h5, .inr (7, [.ref h2, .ref h6, .ref h12, .int 0, .int 0, .int 0])), (h6, .inl (gI g, 200, .inl fn1)), (h7, .inr (7, [.ref h2, .ref h8, .ref h13, .int 0, .int 0, .int 0])), (h8, .inl (gI g, 0, .inl fn2))] rfl ?_
  refine r_aload_n 51 0 C dX3_begin_51 rfl ?_
  refine r_iconst 52 0 C dX3_begin_52 (by decide) ?_
  refine r_put 53 C dX3_begin_53 (k := 6) 0 rfl rfl hiX3 tyX3 tyX3_ok nmX3 (by decide) rfl (mg 7 rfl) (Or.inl rfl) rfl rfl rfl rfl (Nat.le_of_ble_eq_true rfl) [(h0, .inr (3, [.ref h2, .ref h3, .ref h5, .ref h7, .int 0, .int 0, .int 0])), (h2, .inr (4, [.ref h10, .int 0])), (h1, .inr (4, [.ref h9, .int 0])), (h3, .inr (7, [.ref h2, .ref h4, .ref h11, .int 0, .int 0, .int 0])), (h4, .inl (gI g, 40, .inl fn0)), (h5, .inr (7, [.ref h2, .ref h6, .ref h12, .int 0, .int 0, .int 0])), (h6, .inl (gI g, 200, .inl fn1)), (h7, .inr (7, [.ref h2, .ref h8, .ref h13, .int 0, .int 0, .int 0])), (h8, .inl (gI g, 0, .inl fn2))] rfl ?_
  exact r_vret 56 Rt dX3_begin_56 () trivial [2, 0, 1, 3, 4, 5, 6, 7, 8] (by decide) rfl (Nat.le_of_ble_eq_true rfl) (Nat.le_of_ble_eq_true rfl)
set_option maxHeartbeats 4000000 in
set_option maxRecDepth 100000 in
theorem c66_X1_wrong (l : Launch) (g : GD) (h0 : Nat) (h1 : Nat) (h2 : Nat) (h3 : Nat) (sz : Nat) : Met l yX1_wrong wsX1_wrong ({ frames := 0, cells := 0, slots := 0, locals := 0 }) (va_Pc [.ref h0, .int 1] (PW g [(h0, .inr (1, [.ref h1, .ref h2, .ref h3, .int 0, .long 0, .long 9223372036854775807, .int 0, .int 0, .long 0, .long 0]))] sz)) (va_Qv (fun (_ : Unit) => True) (BW g (va_A [(h0, .inr (1, [.ref h1, .ref h2, .ref h3, .int 0, .long 0, .long 9223372036854775807, .int 0, .int 0, .long 0, .long 0]))] sz) (fun _ : Unit => [(h0, .inr (1, [.ref h1, .ref h2, .ref h3, .int 1, .long 0, .long 9223372036854775807, .int 0, .int 0, .long 0, .long 0]))])) (va_A [(h0, .inr (1, [.ref h1, .ref h2, .ref h3, .int 0, .long 0, .long 9223372036854775807, .int 0, .int 0, .long 0, .long 0]))] sz)) 0 0 (va_A [(h0, .inr (1, [.ref h1, .ref h2, .ref h3, .int 0, .long 0, .long 9223372036854775807, .int 0, .int 0, .long 0, .long 0]))] sz) := by
  refine met_v RX1 (by decide) rfl rfl (Nat.le_of_ble_eq_true rfl) [(0, .ref h0), (1, .int 1)] rfl ?_
  intro p e s m args below meth c A Q C hnm Rt
  have hiX1 : ∀ w ∈ wsX10, w ∈ wsX1_wrong := fun w h => List.mem_cons_of_mem _ (List.mem_append_right _ (h))
  refine r_aload_n 0 0 C dX1_wrong_0 rfl ?_
  refine r_get 1 C dX1_wrong_1 (k := 3) 0 rfl rfl hiX1 (by decide) rfl (mg 1 rfl) (Or.inl rfl) rfl ?_
  refine r_if_ne_f 4 12 C dX1_wrong_4 (by decide) (by decide) ?_
  refine r_aload_n 7 0 C dX1_wrong_7 rfl ?_
  refine r_iload_n 8 1 C dX1_wrong_8 rfl ?_
  refine r_put 9 C dX1_wrong_9 (k := 3) 0 rfl rfl hiX1 tyX1 tyX1_ok nmX1 (by decide) rfl (mg 1 rfl) (Or.inl rfl) rfl rfl rfl rfl (Nat.le_of_ble_eq_true rfl) [(h0, .inr (1, [.ref h1, .ref h2, .ref h3, .int 1, .long 0, .long 9223372036854775807, .int 0, .int 0, .long 0, .long 0]))] rfl ?_
  exact r_vret 12 Rt dX1_wrong_12 () trivial [0] (by decide) rfl (Nat.le_of_ble_eq_true rfl) (Nat.le_of_ble_eq_true rfl)
set_option maxHeartbeats 4000000 in
set_option maxRecDepth 100000 in
theorem c67_X1_take (l : Launch) (g : GD) (h0 : Nat) (h1 : Nat) (h2 : Nat) (h3 : Nat) (h4 : Nat) (sz : Nat) : Met l yX1_take wsX1_take ({ frames := 1, cells := 0, slots := 0, locals := 21 }) (va_Pc [.ref h0] (PW g [(h0, .inr (1, [.ref h2, .ref h3, .ref h1, .int 0, .long 0, .long 9223372036854775807, .int 0, .int 0, .long 0, .long 0])), (h1, .inr (4, [.ref h4, .int 0]))] sz)) (va_Qi (fun (r : Int32) (_ : Unit) => r = (-1)) (BW g (va_A [(h0, .inr (1, [.ref h2, .ref h3, .ref h1, .int 0, .long 0, .long 9223372036854775807, .int 0, .int 0, .long 0, .long 0])), (h1, .inr (4, [.ref h4, .int 0]))] sz) (fun _ : Unit => [(h0, .inr (1, [.ref h2, .ref h3, .ref h1, .int 1, .long 0, .long 9223372036854775807, .int 0, .int 0, .long 0, .long 0])), (h1, .inr (4, [.ref h4, .int 0]))])) (va_A [(h0, .inr (1, [.ref h2, .ref h3, .ref h1, .int 0, .long 0, .long 9223372036854775807, .int 0, .int 0, .long 0, .long 0])), (h1, .inr (4, [.ref h4, .int 0]))] sz)) 0 0 (va_A [(h0, .inr (1, [.ref h2, .ref h3, .ref h1, .int 0, .long 0, .long 9223372036854775807, .int 0, .int 0, .long 0, .long 0])), (h1, .inr (4, [.ref h4, .int 0]))] sz) := by
  refine met_i RX1 (by decide) rfl rfl (Nat.le_of_ble_eq_true rfl) [(0, .ref h0)] rfl ?_
  intro p e s m args below meth c A Q C hnm Rt
  have hiX1 : ∀ w ∈ wsX10, w ∈ wsX1_take := fun w h => List.mem_cons_of_mem _ (List.mem_append_left _ (List.mem_append_right _ (h)))
  refine r_aload_n 0 0 C dX1_take_0 rfl ?_
  refine r_get 1 C dX1_take_1 (k := 4) 0 rfl rfl hiX1 (by decide) rfl (mg 1 rfl) (Or.inl rfl) rfl ?_
  refine r_lconst 4 0 C dX1_take_4 (by decide) ?_
  refine r_lcmp 5 0 C dX1_take_5 (by decide) ?_
  refine r_if_lt_f 6 25 C dX1_take_6 (by decide) (by decide) ?_
  refine r_aload_n 9 0 C dX1_take_9 rfl ?_
  refine r_get 10 C dX1_take_10 (k := 4) 0 rfl rfl hiX1 (by decide) rfl (mg 1 rfl) (Or.inl rfl) rfl ?_
  refine r_aload_n 13 0 C dX1_take_13 rfl ?_
  refine r_get 14 C dX1_take_14 (k := 2) 0 rfl rfl hiX1 (by decide) rfl (mg 2 rfl) (Or.inl rfl) rfl ?_
  refine r_callVi 17 C dX1_take_17 [.long 0] [(h1, .inr (4, [.ref h4, .int 0]))] [(h0, .inr (1, [.ref h2, .ref h3, .ref h1, .int 0, .long 0, .long 9223372036854775807, .int 0, .int 0, .long 0, .long 0]))] (fun sz => c17_X5_size l g h1 h4 sz) gX1_take_X5_size rfl ⟨rfl, rfl⟩ 0 (by decide) ⟨Nat.le_of_ble_eq_true rfl, Nat.le_of_ble_eq_true rfl⟩ 1 rfl rfl [1] [0] rfl rfl (by decide) (by decide) (by decide) rfl rfl (Nat.le_of_ble_eq_true rfl) ⟨Nat.le_of_ble_eq_true rfl, Nat.le_of_ble_eq_true rfl⟩ (fun r1 _ w2 => ?_)
  refine r_ws [(h0, .inr (1, [.ref h2, .ref h3, .ref h1, .int 0, .long 0, .long 9223372036854775807, .int 0, .int 0, .long 0, .long 0])), (h1, .inr (4, [.ref h4, .int 0]))] rfl ?_
  have w2 : r1 = 0 := w2
  subst w2
  refine r_i2l 20 0 C dX1_take_20 (by decide) ?_
  refine r_lcmp 21 0 C dX1_take_21 (by decide) ?_
  refine r_if_lt_f 22 33 C dX1_take_22 (by decide) (by decide) ?_
  refine r_aload_n 25 0 C dX1_take_25 rfl ?_
  refine r_iconst 26 1 C dX1_take_26 (by decide) ?_
  refine r_callVv 27 C dX1_take_27 [] [(h0, .inr (1, [.ref h2, .ref h3, .ref h1, .int 0, .long 0, .long 9223372036854775807, .int 0, .int 0, .long 0, .long 0]))] [(h1, .inr (4, [.ref h4, .int 0]))] (fun sz => c66_X1_wrong l g h0 h2 h3 h1 sz) gX1_take_X1_wrong rfl ⟨rfl, rfl⟩ 1 (by decide) ⟨Nat.le_of_ble_eq_true rfl, Nat.le_of_ble_eq_true rfl⟩ 0 rfl rfl [0] [1] rfl rfl (by decide) (by decide) (by decide) rfl rfl (Nat.le_of_ble_eq_true rfl) ⟨Nat.le_of_ble_eq_true rfl, Nat.le_of_ble_eq_true rfl⟩ (fun  _ w3 => ?_)
  refine r_ws [(h1, .inr (4, [.ref h4, .int 0])), (h0, .inr (1, [.ref h2, .ref h3, .ref h1, .int 1, .long 0, .long 9223372036854775807, .int 0, .int 0, .long 0, .long 0]))] rfl ?_
  refine r_goto 30 50 C dX1_take_30 (by decide) ?_
  refine r_aload_n 50 0 C dX1_take_50 rfl ?_
  refine r_get 51 C dX1_take_51 (k := 3) 1 rfl rfl hiX1 (by decide) rfl (mg 4 rfl) (Or.inl rfl) rfl ?_
  refine r_if_eq_f 54 59 C dX1_take_54 (by decide) (by decide) ?_
  refine r_iconst 57 (-1) C dX1_take_57 (by decide) ?_
  exact r_iret 58 Rt dX1_take_58 () rfl [1, 0] (by decide) rfl (Nat.le_of_ble_eq_true rfl) (Nat.le_of_ble_eq_true rfl)
set_option maxHeartbeats 4000000 in
set_option maxRecDepth 100000 in
theorem c68_X1_wrong (l : Launch) (g : GD) (h0 : Nat) (h1 : Nat) (h2 : Nat) (h3 : Nat) (sz : Nat) : Met l yX1_wrong wsX1_wrong ({ frames := 0, cells := 0, slots := 0, locals := 0 }) (va_Pc [.ref h0, .int 2] (PW g [(h0, .inr (1, [.ref h1, .ref h2, .ref h3, .int 1, .long 0, .long 9223372036854775807, .int 0, .int 0, .long 0, .long 0]))] sz)) (va_Qv (fun (_ : Unit) => True) (BW g (va_A [(h0, .inr (1, [.ref h1, .ref h2, .ref h3, .int 1, .long 0, .long 9223372036854775807, .int 0, .int 0, .long 0, .long 0]))] sz) (fun _ : Unit => [(h0, .inr (1, [.ref h1, .ref h2, .ref h3, .int 1, .long 0, .long 9223372036854775807, .int 0, .int 0, .long 0, .long 0]))])) (va_A [(h0, .inr (1, [.ref h1, .ref h2, .ref h3, .int 1, .long 0, .long 9223372036854775807, .int 0, .int 0, .long 0, .long 0]))] sz)) 0 0 (va_A [(h0, .inr (1, [.ref h1, .ref h2, .ref h3, .int 1, .long 0, .long 9223372036854775807, .int 0, .int 0, .long 0, .long 0]))] sz) := by
  refine met_v RX1 (by decide) rfl rfl (Nat.le_of_ble_eq_true rfl) [(0, .ref h0), (1, .int 2)] rfl ?_
  intro p e s m args below meth c A Q C hnm Rt
  have hiX1 : ∀ w ∈ wsX10, w ∈ wsX1_wrong := fun w h => List.mem_cons_of_mem _ (List.mem_append_right _ (h))
  refine r_aload_n 0 0 C dX1_wrong_0 rfl ?_
  refine r_get 1 C dX1_wrong_1 (k := 3) 0 rfl rfl hiX1 (by decide) rfl (mg 1 rfl) (Or.inl rfl) rfl ?_
  refine r_if_ne_t 4 12 C dX1_wrong_4 (by decide) (by decide) ?_
  exact r_vret 12 Rt dX1_wrong_12 () trivial [0] (by decide) rfl (Nat.le_of_ble_eq_true rfl) (Nat.le_of_ble_eq_true rfl)
set_option maxHeartbeats 4000000 in
set_option maxRecDepth 100000 in
theorem c69_X1_want (l : Launch) (g : GD) (h0 : Nat) (h1 : Nat) (h2 : Nat) (h3 : Nat) (sz : Nat) : Met l yX1_want wsX1_want ({ frames := 1, cells := 0, slots := 0, locals := 21 }) (va_Pc [.ref h0, .int 0] (PW g [(h0, .inr (1, [.ref h1, .ref h2, .ref h3, .int 1, .long 0, .long 9223372036854775807, .int 0, .int 0, .long 0, .long 0]))] sz)) (va_Qv (fun (_ : Unit) => True) (BW g (va_A [(h0, .inr (1, [.ref h1, .ref h2, .ref h3, .int 1, .long 0, .long 9223372036854775807, .int 0, .int 0, .long 0, .long 0]))] sz) (fun _ : Unit => [(h0, .inr (1, [.ref h1, .ref h2, .ref h3, .int 1, .long 0, .long 9223372036854775807, .int 0, .int 0, .long 0, .long 0]))])) (va_A [(h0, .inr (1, [.ref h1, .ref h2, .ref h3, .int 1, .long 0, .long 9223372036854775807, .int 0, .int 0, .long 0, .long 0]))] sz)) 0 0 (va_A [(h0, .inr (1, [.ref h1, .ref h2, .ref h3, .int 1, .long 0, .long 9223372036854775807, .int 0, .int 0, .long 0, .long 0]))] sz) := by
  refine met_v RX1 (by decide) rfl rfl (Nat.le_of_ble_eq_true rfl) [(0, .ref h0), (1, .int 0)] rfl ?_
  intro p e s m args below meth c A Q C hnm Rt
  refine r_iload_n 0 1 C dX1_want_0 rfl ?_
  refine r_if_ne_f 1 9 C dX1_want_1 (by decide) (by decide) ?_
  refine r_aload_n 4 0 C dX1_want_4 rfl ?_
  refine r_iconst 5 2 C dX1_want_5 (by decide) ?_
  refine r_callVv 6 C dX1_want_6 [] [(h0, .inr (1, [.ref h1, .ref h2, .ref h3, .int 1, .long 0, .long 9223372036854775807, .int 0, .int 0, .long 0, .long 0]))] [] (fun sz => c68_X1_wrong l g h0 h1 h2 h3 sz) gX1_want_X1_wrong rfl ⟨rfl, rfl⟩ 1 (by decide) ⟨Nat.le_of_ble_eq_true rfl, Nat.le_of_ble_eq_true rfl⟩ 0 rfl rfl [0] [] rfl rfl (by decide) (by decide) (by decide) rfl rfl (Nat.le_of_ble_eq_true rfl) ⟨Nat.le_of_ble_eq_true rfl, Nat.le_of_ble_eq_true rfl⟩ (fun  _ w1 => ?_)
  refine r_ws [(h0, .inr (1, [.ref h1, .ref h2, .ref h3, .int 1, .long 0, .long 9223372036854775807, .int 0, .int 0, .long 0, .long 0]))] rfl ?_
  exact r_vret 9 Rt dX1_want_9 () trivial [0] (by decide) rfl (Nat.le_of_ble_eq_true rfl) (Nat.le_of_ble_eq_true rfl)
set_option maxHeartbeats 4000000 in
set_option maxRecDepth 100000 in
theorem c70_X1_wrong (l : Launch) (g : GD) (h0 : Nat) (h1 : Nat) (h2 : Nat) (h3 : Nat) (sz : Nat) : Met l yX1_wrong wsX1_wrong ({ frames := 0, cells := 0, slots := 0, locals := 0 }) (va_Pc [.ref h0, .int 1] (PW g [(h0, .inr (1, [.ref h1, .ref h2, .ref h3, .int 1, .long 0, .long 9223372036854775807, .int 0, .int 0, .long 0, .long 0]))] sz)) (va_Qv (fun (_ : Unit) => True) (BW g (va_A [(h0, .inr (1, [.ref h1, .ref h2, .ref h3, .int 1, .long 0, .long 9223372036854775807, .int 0, .int 0, .long 0, .long 0]))] sz) (fun _ : Unit => [(h0, .inr (1, [.ref h1, .ref h2, .ref h3, .int 1, .long 0, .long 9223372036854775807, .int 0, .int 0, .long 0, .long 0]))])) (va_A [(h0, .inr (1, [.ref h1, .ref h2, .ref h3, .int 1, .long 0, .long 9223372036854775807, .int 0, .int 0, .long 0, .long 0]))] sz)) 0 0 (va_A [(h0, .inr (1, [.ref h1, .ref h2, .ref h3, .int 1, .long 0, .long 9223372036854775807, .int 0, .int 0, .long 0, .long 0]))] sz) := by
  refine met_v RX1 (by decide) rfl rfl (Nat.le_of_ble_eq_true rfl) [(0, .ref h0), (1, .int 1)] rfl ?_
  intro p e s m args below meth c A Q C hnm Rt
  have hiX1 : ∀ w ∈ wsX10, w ∈ wsX1_wrong := fun w h => List.mem_cons_of_mem _ (List.mem_append_right _ (h))
  refine r_aload_n 0 0 C dX1_wrong_0 rfl ?_
  refine r_get 1 C dX1_wrong_1 (k := 3) 0 rfl rfl hiX1 (by decide) rfl (mg 1 rfl) (Or.inl rfl) rfl ?_
  refine r_if_ne_t 4 12 C dX1_wrong_4 (by decide) (by decide) ?_
  exact r_vret 12 Rt dX1_wrong_12 () trivial [0] (by decide) rfl (Nat.le_of_ble_eq_true rfl) (Nat.le_of_ble_eq_true rfl)
set_option maxHeartbeats 4000000 in
set_option maxRecDepth 100000 in
theorem c71_X1_take (l : Launch) (g : GD) (h0 : Nat) (h1 : Nat) (h2 : Nat) (h3 : Nat) (h4 : Nat) (sz : Nat) : Met l yX1_take wsX1_take ({ frames := 1, cells := 0, slots := 0, locals := 21 }) (va_Pc [.ref h0] (PW g [(h1, .inr (4, [.ref h2, .int 0])), (h0, .inr (1, [.ref h3, .ref h4, .ref h1, .int 1, .long 0, .long 9223372036854775807, .int 0, .int 0, .long 0, .long 0]))] sz)) (va_Qi (fun (r : Int32) (_ : Unit) => r = (-1)) (BW g (va_A [(h1, .inr (4, [.ref h2, .int 0])), (h0, .inr (1, [.ref h3, .ref h4, .ref h1, .int 1, .long 0, .long 9223372036854775807, .int 0, .int 0, .long 0, .long 0]))] sz) (fun _ : Unit => [(h1, .inr (4, [.ref h2, .int 0])), (h0, .inr (1, [.ref h3, .ref h4, .ref h1, .int 1, .long 0, .long 9223372036854775807, .int 0, .int 0, .long 0, .long 0]))])) (va_A [(h1, .inr (4, [.ref h2, .int 0])), (h0, .inr (1, [.ref h3, .ref h4, .ref h1, .int 1, .long 0, .long 9223372036854775807, .int 0, .int 0, .long 0, .long 0]))] sz)) 0 0 (va_A [(h1, .inr (4, [.ref h2, .int 0])), (h0, .inr (1, [.ref h3, .ref h4, .ref h1, .int 1, .long 0, .long 9223372036854775807, .int 0, .int 0, .long 0, .long 0]))] sz) := by
  refine met_i RX1 (by decide) rfl rfl (Nat.le_of_ble_eq_true rfl) [(0, .ref h0)] rfl ?_
  intro p e s m args below meth c A Q C hnm Rt
  have hiX1 : ∀ w ∈ wsX10, w ∈ wsX1_take := fun w h => List.mem_cons_of_mem _ (List.mem_append_left _ (List.mem_append_right _ (h)))
  refine r_aload_n 0 0 C dX1_take_0 rfl ?_
  refine r_get 1 C dX1_take_1 (k := 4) 1 rfl rfl hiX1 (by decide) rfl (mg 1 rfl) (Or.inl rfl) rfl ?_
  refine r_lconst 4 0 C dX1_take_4 (by decide) ?_
  refine r_lcmp 5 0 C dX1_take_5 (by decide) ?_
  refine r_if_lt_f 6 25 C dX1_take_6 (by decide) (by decide) ?_
  refine r_aload_n 9 0 C dX1_take_9 rfl ?_
  refine r_get 10 C dX1_take_10 (k := 4) 1 rfl rfl hiX1 (by decide) rfl (mg 1 rfl) (Or.inl rfl) rfl ?_
  refine r_aload_n 13 0 C dX1_take_13 rfl ?_
  refine r_get 14 C dX1_take_14 (k := 2) 1 rfl rfl hiX1 (by decide) rfl (mg 2 rfl) (Or.inl rfl) rfl ?_
  refine r_callVi 17 C dX1_take_17 [.long 0] [(h1, .inr (4, [.ref h2, .int 0]))] [(h0, .inr (1, [.ref h3, .ref h4, .ref h1, .int 1, .long 0, .long 9223372036854775807, .int 0, .int 0, .long 0, .long 0]))] (fun sz => c17_X5_size l g h1 h2 sz) gX1_take_X5_size rfl ⟨rfl, rfl⟩ 0 (by decide) ⟨Nat.le_of_ble_eq_true rfl, Nat.le_of_ble_eq_true rfl⟩ 0 rfl rfl [0] [1] rfl rfl (by decide) (by decide) (by decide) rfl rfl (Nat.le_of_ble_eq_true rfl) ⟨Nat.le_of_ble_eq_true rfl, Nat.le_of_ble_eq_true rfl⟩ (fun r1 _ w2 => ?_)
  refine r_ws [(h0, .inr (1, [.ref h3, .ref h4, .ref h1, .int 1, .long 0, .long 9223372036854775807, .int 0, .int 0, .long 0, .long 0])), (h1, .inr (4, [.ref h2, .int 0]))] rfl ?_
  have w2 : r1 = 0 := w2
  subst w2
  refine r_i2l 20 0 C dX1_take_20 (by decide) ?_
  refine r_lcmp 21 0 C dX1_take_21 (by decide) ?_
  refine r_if_lt_f 22 33 C dX1_take_22 (by decide) (by decide) ?_
  refine r_aload_n 25 0 C dX1_take_25 rfl ?_
  refine r_iconst 26 1 C dX1_take_26 (by decide) ?_
  refine r_callVv 27 C dX1_take_27 [] [(h0, .inr (1, [.ref h3, .ref h4, .ref h1, .int 1, .long 0, .long 9223372036854775807, .int 0, .int 0, .long 0, .long 0]))] [(h1, .inr (4, [.ref h2, .int 0]))] (fun sz => c70_X1_wrong l g h0 h3 h4 h1 sz) gX1_take_X1_wrong rfl ⟨rfl, rfl⟩ 1 (by decide) ⟨Nat.le_of_ble_eq_true rfl, Nat.le_of_ble_eq_true rfl⟩ 0 rfl rfl [0] [1] rfl rfl (by decide) (by decide) (by decide) rfl rfl (Nat.le_of_ble_eq_true rfl) ⟨Nat.le_of_ble_eq_true rfl, Nat.le_of_ble_eq_true rfl⟩ (fun  _ w3 => ?_)
  refine r_ws [(h1, .inr (4, [.ref h2, .int 0])), (h0, .inr (1, [.ref h3, .ref h4, .ref h1, .int 1, .long 0, .long 9223372036854775807, .int 0, .int 0, .long 0, .long 0]))] rfl ?_
  refine r_goto 30 50 C dX1_take_30 (by decide) ?_
  refine r_aload_n 50 0 C dX1_take_50 rfl ?_
  refine r_get 51 C dX1_take_51 (k := 3) 1 rfl rfl hiX1 (by decide) rfl (mg 4 rfl) (Or.inl rfl) rfl ?_
  refine r_if_eq_f 54 59 C dX1_take_54 (by decide) (by decide) ?_
  refine r_iconst 57 (-1) C dX1_take_57 (by decide) ?_
  exact r_iret 58 Rt dX1_take_58 () rfl [0, 1] (by decide) rfl (Nat.le_of_ble_eq_true rfl) (Nat.le_of_ble_eq_true rfl)
set_option maxHeartbeats 4000000 in
set_option maxRecDepth 100000 in
theorem c72_X1_takeHeader (l : Launch) (g : GD) (h0 : Nat) (h1 : Nat) (h2 : Nat) (h3 : Nat) (h4 : Nat) (sz : Nat) : Met l yX1_takeHeader wsX1_takeHeader ({ frames := 2, cells := 0, slots := 0, locals := 42 }) (va_Pc [.ref h0] (PW g [(h0, .inr (1, [.ref h2, .ref h3, .ref h1, .int 0, .long 0, .long 9223372036854775807, .int 0, .int 0, .long 0, .long 0])), (h1, .inr (4, [.ref h4, .int 0]))] sz)) (va_Qv (fun (_ : Unit) => True) (BW g (va_A [(h0, .inr (1, [.ref h2, .ref h3, .ref h1, .int 0, .long 0, .long 9223372036854775807, .int 0, .int 0, .long 0, .long 0])), (h1, .inr (4, [.ref h4, .int 0]))] sz) (fun _ : Unit => [(h0, .inr (1, [.ref h2, .ref h3, .ref h1, .int 1, .long (-1), .long 9223372036854775807, .int 0, .int 0, .long 0, .long 0])), (h1, .inr (4, [.ref h4, .int 0]))])) (va_A [(h0, .inr (1, [.ref h2, .ref h3, .ref h1, .int 0, .long 0, .long 9223372036854775807, .int 0, .int 0, .long 0, .long 0])), (h1, .inr (4, [.ref h4, .int 0]))] sz)) 0 0 (va_A [(h0, .inr (1, [.ref h2, .ref h3, .ref h1, .int 0, .long 0, .long 9223372036854775807, .int 0, .int 0, .long 0, .long 0])), (h1, .inr (4, [.ref h4, .int 0]))] sz) := by
  refine met_v RX1 (by decide) rfl rfl (Nat.le_of_ble_eq_true rfl) [(0, .ref h0)] rfl ?_
  intro p e s m args below meth c A Q C hnm Rt
  have hiX1 : ∀ w ∈ wsX10, w ∈ wsX1_takeHeader := fun w h => List.mem_cons_of_mem _ (List.mem_append_left _ (List.mem_append_right _ (h)))
  refine r_aload_n 0 0 C dX1_takeHeader_0 rfl ?_
  refine r_lconst 1 0 C dX1_takeHeader_1 (by decide) ?_
  refine r_put 2 C dX1_takeHeader_2 (k := 4) 0 rfl rfl hiX1 tyX1 tyX1_ok nmX1 (by decide) rfl (mg 1 rfl) (Or.inl rfl) rfl rfl rfl rfl (Nat.le_of_ble_eq_true rfl) [(h0, .inr (1, [.ref h2, .ref h3, .ref h1, .int 0, .long 0, .long 9223372036854775807, .int 0, .int 0, .long 0, .long 0])), (h1, .inr (4, [.ref h4, .int 0]))] rfl ?_
  refine r_aload_n 5 0 C dX1_takeHeader_5 rfl ?_
  refine r_aload_n 6 0 C dX1_takeHeader_6 rfl ?_
  refine r_callVi 7 C dX1_takeHeader_7 [.ref h0] [(h0, .inr (1, [.ref h2, .ref h3, .ref h1, .int 0, .long 0, .long 9223372036854775807, .int 0, .int 0, .long 0, .long 0])), (h1, .inr (4, [.ref h4, .int 0]))] [] (fun sz => c67_X1_take l g h0 h1 h2 h3 h4 sz) gX1_takeHeader_X1_take rfl ⟨rfl, rfl⟩ 0 (by decide) ⟨Nat.le_of_ble_eq_true rfl, Nat.le_of_ble_eq_true rfl⟩ 0 rfl rfl [0, 1] [] rfl rfl (by decide) (by decide) (by decide) rfl rfl (Nat.le_of_ble_eq_true rfl) ⟨Nat.le_of_ble_eq_true rfl, Nat.le_of_ble_eq_true rfl⟩ (fun r1 _ w2 => ?_)
  refine r_ws [(h0, .inr (1, [.ref h2, .ref h3, .ref h1, .int 1, .long 0, .long 9223372036854775807, .int 0, .int 0, .long 0, .long 0])), (h1, .inr (4, [.ref h4, .int 0]))] rfl ?_
  have w2 : r1 = (-1) := w2
  subst w2
  refine r_iconst 10 1 C dX1_takeHeader_10 (by decide) ?_
  refine r_icmp_ne_t 11 18 C dX1_takeHeader_11 (by decide) (by decide) ?_
  refine r_iconst 18 0 C dX1_takeHeader_18 (by decide) ?_
  refine r_callVv 19 C dX1_takeHeader_19 [] [(h0, .inr (1, [.ref h2, .ref h3, .ref h1, .int 1, .long 0, .long 9223372036854775807, .int 0, .int 0, .long 0, .long 0]))] [(h1, .inr (4, [.ref h4, .int 0]))] (fun sz => c69_X1_want l g h0 h2 h3 h1 sz) gX1_takeHeader_X1_want rfl ⟨rfl, rfl⟩ 1 (by decide) ⟨Nat.le_of_ble_eq_true rfl, Nat.le_of_ble_eq_true rfl⟩ 0 rfl rfl [0] [1] rfl rfl (by decide) (by decide) (by decide) rfl rfl (Nat.le_of_ble_eq_true rfl) ⟨Nat.le_of_ble_eq_true rfl, Nat.le_of_ble_eq_true rfl⟩ (fun  _ w3 => ?_)
  refine r_ws [(h1, .inr (4, [.ref h4, .int 0])), (h0, .inr (1, [.ref h2, .ref h3, .ref h1, .int 1, .long 0, .long 9223372036854775807, .int 0, .int 0, .long 0, .long 0]))] rfl ?_
  refine r_aload_n 22 0 C dX1_takeHeader_22 rfl ?_
  refine r_callVi 23 C dX1_takeHeader_23 [] [(h1, .inr (4, [.ref h4, .int 0])), (h0, .inr (1, [.ref h2, .ref h3, .ref h1, .int 1, .long 0, .long 9223372036854775807, .int 0, .int 0, .long 0, .long 0]))] [] (fun sz => c71_X1_take l g h0 h1 h4 h2 h3 sz) gX1_takeHeader_X1_take rfl ⟨rfl, rfl⟩ 0 (by decide) ⟨Nat.le_of_ble_eq_true rfl, Nat.le_of_ble_eq_true rfl⟩ 1 rfl rfl [0, 1] [] rfl rfl (by decide) (by decide) (by decide) rfl rfl (Nat.le_of_ble_eq_true rfl) ⟨Nat.le_of_ble_eq_true rfl, Nat.le_of_ble_eq_true rfl⟩ (fun r4 _ w5 => ?_)
  refine r_ws [(h1, .inr (4, [.ref h4, .int 0])), (h0, .inr (1, [.ref h2, .ref h3, .ref h1, .int 1, .long 0, .long 9223372036854775807, .int 0, .int 0, .long 0, .long 0]))] rfl ?_
  have w5 : r4 = (-1) := w5
  subst w5
  refine r_pop 26 C dX1_takeHeader_26 rfl ?_
  refine r_aload_n 27 0 C dX1_takeHeader_27 rfl ?_
  refine r_callVi 28 C dX1_takeHeader_28 [] [(h1, .inr (4, [.ref h4, .int 0])), (h0, .inr (1, [.ref h2, .ref h3, .ref h1, .int 1, .long 0, .long 9223372036854775807, .int 0, .int 0, .long 0, .long 0]))] [] (fun sz => c71_X1_take l g h0 h1 h4 h2 h3 sz) gX1_takeHeader_X1_take rfl ⟨rfl, rfl⟩ 0 (by decide) ⟨Nat.le_of_ble_eq_true rfl, Nat.le_of_ble_eq_true rfl⟩ 1 rfl rfl [0, 1] [] rfl rfl (by decide) (by decide) (by decide) rfl rfl (Nat.le_of_ble_eq_true rfl) ⟨Nat.le_of_ble_eq_true rfl, Nat.le_of_ble_eq_true rfl⟩ (fun r6 _ w7 => ?_)
  refine r_ws [(h1, .inr (4, [.ref h4, .int 0])), (h0, .inr (1, [.ref h2, .ref h3, .ref h1, .int 1, .long 0, .long 9223372036854775807, .int 0, .int 0, .long 0, .long 0]))] rfl ?_
  have w7 : r6 = (-1) := w7
  subst w7
  refine r_istore_n 31 C dX1_takeHeader_31 [(1, .int (-1)), (0, .ref h0)] (by decide) rfl ?_
  refine r_aload_n 32 1 C dX1_takeHeader_32 rfl ?_
  refine r_iload_n 33 0 C dX1_takeHeader_33 rfl ?_
  refine r_iconst 34 4 C dX1_takeHeader_34 (by decide) ?_
  refine r_icmp_lt_t 35 42 C dX1_takeHeader_35 (by decide) (by decide) ?_
  refine r_iconst 42 0 C dX1_takeHeader_42 (by decide) ?_
  refine r_callVv 43 C dX1_takeHeader_43 [] [(h0, .inr (1, [.ref h2, .ref h3, .ref h1, .int 1, .long 0, .long 9223372036854775807, .int 0, .int 0, .long 0, .long 0]))] [(h1, .inr (4, [.ref h4, .int 0]))] (fun sz => c69_X1_want l g h0 h2 h3 h1 sz) gX1_takeHeader_X1_want rfl ⟨rfl, rfl⟩ 1 (by decide) ⟨Nat.le_of_ble_eq_true rfl, Nat.le_of_ble_eq_true rfl⟩ 1 rfl rfl [1] [0] rfl rfl (by decide) (by decide) (by decide) rfl rfl (Nat.le_of_ble_eq_true rfl) ⟨Nat.le_of_ble_eq_true rfl, Nat.le_of_ble_eq_true rfl⟩ (fun  _ w8 => ?_)
  refine r_ws [(h1, .inr (4, [.ref h4, .int 0])), (h0, .inr (1, [.ref h2, .ref h3, .ref h1, .int 1, .long 0, .long 9223372036854775807, .int 0, .int 0, .long 0, .long 0]))] rfl ?_
  refine r_aload_n 46 1 C dX1_takeHeader_46 rfl ?_
  refine r_callVi 47 C dX1_takeHeader_47 [] [(h1, .inr (4, [.ref h4, .int 0])), (h0, .inr (1, [.ref h2, .ref h3, .ref h1, .int 1, .long 0, .long 9223372036854775807, .int 0, .int 0, .long 0, .long 0]))] [] (fun sz => c71_X1_take l g h0 h1 h4 h2 h3 sz) gX1_takeHeader_X1_take rfl ⟨rfl, rfl⟩ 0 (by decide) ⟨Nat.le_of_ble_eq_true rfl, Nat.le_of_ble_eq_true rfl⟩ 1 rfl rfl [0, 1] [] rfl rfl (by decide) (by decide) (by decide) rfl rfl (Nat.le_of_ble_eq_true rfl) ⟨Nat.le_of_ble_eq_true rfl, Nat.le_of_ble_eq_true rfl⟩ (fun r9 _ w10 => ?_)
  refine r_ws [(h1, .inr (4, [.ref h4, .int 0])), (h0, .inr (1, [.ref h2, .ref h3, .ref h1, .int 1, .long 0, .long 9223372036854775807, .int 0, .int 0, .long 0, .long 0]))] rfl ?_
  have w10 : r9 = (-1) := w10
  subst w10
  refine r_istore_n 50 C dX1_takeHeader_50 [(2, .int (-1)), (1, .int (-1)), (0, .ref h0)] (by decide) rfl ?_
  refine r_aload_n 51 2 C dX1_takeHeader_51 rfl ?_
  refine r_iload_n 52 0 C dX1_takeHeader_52 rfl ?_
  refine r_iconst 53 1 C dX1_takeHeader_53 (by decide) ?_
  refine r_icmp_lt_t 54 66 C dX1_takeHeader_54 (by decide) (by decide) ?_
  refine r_iconst 66 0 C dX1_takeHeader_66 (by decide) ?_
  refine r_callVv 67 C dX1_takeHeader_67 [] [(h0, .inr (1, [.ref h2, .ref h3, .ref h1, .int 1, .long 0, .long 9223372036854775807, .int 0, .int 0, .long 0, .long 0]))] [(h1, .inr (4, [.ref h4, .int 0]))] (fun sz => c69_X1_want l g h0 h2 h3 h1 sz) gX1_takeHeader_X1_want rfl ⟨rfl, rfl⟩ 1 (by decide) ⟨Nat.le_of_ble_eq_true rfl, Nat.le_of_ble_eq_true rfl⟩ 1 rfl rfl [1] [0] rfl rfl (by decide) (by decide) (by decide) rfl rfl (Nat.le_of_ble_eq_true rfl) ⟨Nat.le_of_ble_eq_true rfl, Nat.le_of_ble_eq_true rfl⟩ (fun  _ w11 => ?_)
  refine r_ws [(h1, .inr (4, [.ref h4, .int 0])), (h0, .inr (1, [.ref h2, .ref h3, .ref h1, .int 1, .long 0, .long 9223372036854775807, .int 0, .int 0, .long 0, .long 0]))] rfl ?_
  refine r_aload_n 70 2 C dX1_takeHeader_70 rfl ?_
  refine r_iload_n 71 1 C dX1_takeHeader_71 rfl ?_
  refine r_i2l 72 (-1) C dX1_takeHeader_72 (by decide) ?_
  refine r_put 73 C dX1_takeHeader_73 (k := 4) 1 rfl rfl hiX1 tyX1 tyX1_ok nmX1 (by decide) rfl (mg 1 rfl) (Or.inl rfl) rfl rfl rfl rfl (Nat.le_of_ble_eq_true rfl) [(h1, .inr (4, [.ref h4, .int 0])), (h0, .inr (1, [.ref h2, .ref h3, .ref h1, .int 1, .long (-1), .long 9223372036854775807, .int 0, .int 0, .long 0, .long 0]))] rfl ?_
  exact r_vret 76 Rt dX1_takeHeader_76 () trivial [1, 0] (by decide) rfl (Nat.le_of_ble_eq_true rfl) (Nat.le_of_ble_eq_true rfl)
set_option maxHeartbeats 4000000 in
set_option maxRecDepth 100000 in
theorem c73_X1_takeNumber (l : Launch) (g : GD) (h0 : Nat) (h1 : Nat) (h2 : Nat) (h3 : Nat) (sz : Nat) : Met l yX1_takeNumber wsX1_takeNumber ({ frames := 0, cells := 0, slots := 0, locals := 0 }) (va_Pc [.ref h0, .int 2] (PW g [(h0, .inr (1, [.ref h1, .ref h2, .ref h3, .int 1, .long (-1), .long 9223372036854775807, .int 0, .int 0, .long 0, .long 0]))] sz)) (va_Ql (fun (r : Int64) (_ : Unit) => r = 0) (BW g (va_A [(h0, .inr (1, [.ref h1, .ref h2, .ref h3, .int 1, .long (-1), .long 9223372036854775807, .int 0, .int 0, .long 0, .long 0]))] sz) (fun _ : Unit => [(h0, .inr (1, [.ref h1, .ref h2, .ref h3, .int 1, .long (-1), .long 9223372036854775807, .int 0, .int 0, .long 0, .long 0]))])) (va_A [(h0, .inr (1, [.ref h1, .ref h2, .ref h3, .int 1, .long (-1), .long 9223372036854775807, .int 0, .int 0, .long 0, .long 0]))] sz)) 0 0 (va_A [(h0, .inr (1, [.ref h1, .ref h2, .ref h3, .int 1, .long (-1), .long 9223372036854775807, .int 0, .int 0, .long 0, .long 0]))] sz) := by
  refine met_l RX1 (by decide) rfl rfl (Nat.le_of_ble_eq_true rfl) [(0, .ref h0), (1, .int 2)] rfl ?_
  intro p e s m args below meth c A Q C hnm Rt
  have hiX1 : ∀ w ∈ wsX10, w ∈ wsX1_takeNumber := fun w h => List.mem_cons_of_mem _ (List.mem_append_left _ (List.mem_append_right _ (h)))
  refine r_lconst 0 0 C dX1_takeNumber_0 (by decide) ?_
  refine r_lstore_n 1 C dX1_takeNumber_1 [(2, .long 0), (0, .ref h0), (1, .int 2)] (by decide) rfl ?_
  refine r_iconst 2 0 C dX1_takeNumber_2 (by decide) ?_
  refine r_istore 3 C dX1_takeNumber_3 [(4, .int 0), (2, .long 0), (0, .ref h0), (1, .int 2)] (by decide) rfl ?_
  refine r_iload 5 0 C dX1_takeNumber_5 rfl ?_
  refine r_iload_n 7 3 C dX1_takeNumber_7 rfl ?_
  refine r_icmp_ge_f 8 36 C dX1_takeNumber_8 (by decide) (by decide) ?_
  refine r_aload_n 11 2 C dX1_takeNumber_11 rfl ?_
  refine r_get 12 C dX1_takeNumber_12 (k := 3) 0 rfl rfl hiX1 (by decide) rfl (mg 1 rfl) (Or.inl rfl) rfl ?_
  refine r_if_ne_t 15 36 C dX1_takeNumber_15 (by decide) (by decide) ?_
  refine r_aload_n 36 2 C dX1_takeNumber_36 rfl ?_
  refine r_get 37 C dX1_takeNumber_37 (k := 3) 0 rfl rfl hiX1 (by decide) rfl (mg 1 rfl) (Or.inl rfl) rfl ?_
  refine r_if_ne_t 40 47 C dX1_takeNumber_40 (by decide) (by decide) ?_
  refine r_lconst 47 0 C dX1_takeNumber_47 (by decide) ?_
  exact r_lret 48 Rt dX1_takeNumber_48 () rfl [0] (by decide) rfl (Nat.le_of_ble_eq_true rfl) (Nat.le_of_ble_eq_true rfl)
set_option maxHeartbeats 4000000 in
set_option maxRecDepth 100000 in
theorem c74_X1_wrong (l : Launch) (g : GD) (h0 : Nat) (h1 : Nat) (h2 : Nat) (h3 : Nat) (sz : Nat) : Met l yX1_wrong wsX1_wrong ({ frames := 0, cells := 0, slots := 0, locals := 0 }) (va_Pc [.ref h0, .int 2] (PW g [(h0, .inr (1, [.ref h1, .ref h2, .ref h3, .int 1, .long (-1), .long 9223372036854775807, .int 0, .int 0, .long 0, .long 0]))] sz)) (va_Qv (fun (_ : Unit) => True) (BW g (va_A [(h0, .inr (1, [.ref h1, .ref h2, .ref h3, .int 1, .long (-1), .long 9223372036854775807, .int 0, .int 0, .long 0, .long 0]))] sz) (fun _ : Unit => [(h0, .inr (1, [.ref h1, .ref h2, .ref h3, .int 1, .long (-1), .long 9223372036854775807, .int 0, .int 0, .long 0, .long 0]))])) (va_A [(h0, .inr (1, [.ref h1, .ref h2, .ref h3, .int 1, .long (-1), .long 9223372036854775807, .int 0, .int 0, .long 0, .long 0]))] sz)) 0 0 (va_A [(h0, .inr (1, [.ref h1, .ref h2, .ref h3, .int 1, .long (-1), .long 9223372036854775807, .int 0, .int 0, .long 0, .long 0]))] sz) := by
  refine met_v RX1 (by decide) rfl rfl (Nat.le_of_ble_eq_true rfl) [(0, .ref h0), (1, .int 2)] rfl ?_
  intro p e s m args below meth c A Q C hnm Rt
  have hiX1 : ∀ w ∈ wsX10, w ∈ wsX1_wrong := fun w h => List.mem_cons_of_mem _ (List.mem_append_right _ (h))
  refine r_aload_n 0 0 C dX1_wrong_0 rfl ?_
  refine r_get 1 C dX1_wrong_1 (k := 3) 0 rfl rfl hiX1 (by decide) rfl (mg 1 rfl) (Or.inl rfl) rfl ?_
  refine r_if_ne_t 4 12 C dX1_wrong_4 (by decide) (by decide) ?_
  exact r_vret 12 Rt dX1_wrong_12 () trivial [0] (by decide) rfl (Nat.le_of_ble_eq_true rfl) (Nat.le_of_ble_eq_true rfl)
set_option maxHeartbeats 4000000 in
set_option maxRecDepth 100000 in
theorem c75_X1_want (l : Launch) (g : GD) (h0 : Nat) (h1 : Nat) (h2 : Nat) (h3 : Nat) (sz : Nat) : Met l yX1_want wsX1_want ({ frames := 1, cells := 0, slots := 0, locals := 21 }) (va_Pc [.ref h0, .int 0] (PW g [(h0, .inr (1, [.ref h1, .ref h2, .ref h3, .int 1, .long (-1), .long 9223372036854775807, .int 0, .int 0, .long 0, .long 0]))] sz)) (va_Qv (fun (_ : Unit) => True) (BW g (va_A [(h0, .inr (1, [.ref h1, .ref h2, .ref h3, .int 1, .long (-1), .long 9223372036854775807, .int 0, .int 0, .long 0, .long 0]))] sz) (fun _ : Unit => [(h0, .inr (1, [.ref h1, .ref h2, .ref h3, .int 1, .long (-1), .long 9223372036854775807, .int 0, .int 0, .long 0, .long 0]))])) (va_A [(h0, .inr (1, [.ref h1, .ref h2, .ref h3, .int 1, .long (-1), .long 9223372036854775807, .int 0, .int 0, .long 0, .long 0]))] sz)) 0 0 (va_A [(h0, .inr (1, [.ref h1, .ref h2, .ref h3, .int 1, .long (-1), .long 9223372036854775807, .int 0, .int 0, .long 0, .long 0]))] sz) := by
  refine met_v RX1 (by decide) rfl rfl (Nat.le_of_ble_eq_true rfl) [(0, .ref h0), (1, .int 0)] rfl ?_
  intro p e s m args below meth c A Q C hnm Rt
  refine r_iload_n 0 1 C dX1_want_0 rfl ?_
  refine r_if_ne_f 1 9 C dX1_want_1 (by decide) (by decide) ?_
  refine r_aload_n 4 0 C dX1_want_4 rfl ?_
  refine r_iconst 5 2 C dX1_want_5 (by decide) ?_
  refine r_callVv 6 C dX1_want_6 [] [(h0, .inr (1, [.ref h1, .ref h2, .ref h3, .int 1, .long (-1), .long 9223372036854775807, .int 0, .int 0, .long 0, .long 0]))] [] (fun sz => c74_X1_wrong l g h0 h1 h2 h3 sz) gX1_want_X1_wrong rfl ⟨rfl, rfl⟩ 1 (by decide) ⟨Nat.le_of_ble_eq_true rfl, Nat.le_of_ble_eq_true rfl⟩ 0 rfl rfl [0] [] rfl rfl (by decide) (by decide) (by decide) rfl rfl (Nat.le_of_ble_eq_true rfl) ⟨Nat.le_of_ble_eq_true rfl, Nat.le_of_ble_eq_true rfl⟩ (fun  _ w1 => ?_)
  refine r_ws [(h0, .inr (1, [.ref h1, .ref h2, .ref h3, .int 1, .long (-1), .long 9223372036854775807, .int 0, .int 0, .long 0, .long 0]))] rfl ?_
  exact r_vret 9 Rt dX1_want_9 () trivial [0] (by decide) rfl (Nat.le_of_ble_eq_true rfl) (Nat.le_of_ble_eq_true rfl)
set_option maxHeartbeats 4000000 in
set_option maxRecDepth 100000 in
theorem c76_X1_takeIndex (l : Launch) (g : GD) (h0 : Nat) (h1 : Nat) (h2 : Nat) (h3 : Nat) (sz : Nat) : Met l yX1_takeIndex wsX1_takeIndex ({ frames := 2, cells := 0, slots := 0, locals := 42 }) (va_Pc [.ref h0, .int 1, .int 1] (PW g [(h0, .inr (1, [.ref h1, .ref h2, .ref h3, .int 1, .long (-1), .long 9223372036854775807, .int 0, .int 0, .long 0, .long 0]))] sz)) (va_Qv (fun (_ : Unit) => True) (BW g (va_A [(h0, .inr (1, [.ref h1, .ref h2, .ref h3, .int 1, .long (-1), .long 9223372036854775807, .int 0, .int 0, .long 0, .long 0]))] sz) (fun _ : Unit => [(h0, .inr (1, [.ref h1, .ref h2, .ref h3, .int 1, .long (-1), .long 9223372036854775807, .int 0, .int 0, .long 0, .long 0]))])) (va_A [(h0, .inr (1, [.ref h1, .ref h2, .ref h3, .int 1, .long (-1), .long 9223372036854775807, .int 0, .int 0, .long 0, .long 0]))] sz)) 0 0 (va_A [(h0, .inr (1, [.ref h1, .ref h2, .ref h3, .int 1, .long (-1), .long 9223372036854775807, .int 0, .int 0, .long 0, .long 0]))] sz) := by
  refine met_v RX1 (by decide) rfl rfl (Nat.le_of_ble_eq_true rfl) [(0, .ref h0), (1, .int 1), (2, .int 1)] rfl ?_
  intro p e s m args below meth c A Q C hnm Rt
  have hiX1 : ∀ w ∈ wsX10, w ∈ wsX1_takeIndex := fun w h => List.mem_cons_of_mem _ (List.mem_append_left _ (List.mem_append_right _ (h)))
  refine r_aload_n 0 0 C dX1_takeIndex_0 rfl ?_
  refine r_aload_n 1 0 C dX1_takeIndex_1 rfl ?_
  refine r_iconst 2 2 C dX1_takeIndex_2 (by decide) ?_
  refine r_callVl 3 C dX1_takeIndex_3 [.ref h0] [(h0, .inr (1, [.ref h1, .ref h2, .ref h3, .int 1, .long (-1), .long 9223372036854775807, .int 0, .int 0, .long 0, .long 0]))] [] (fun sz => c73_X1_takeNumber l g h0 h1 h2 h3 sz) gX1_takeIndex_X1_takeNumber rfl ⟨rfl, rfl⟩ 1 (by decide) ⟨Nat.le_of_ble_eq_true rfl, Nat.le_of_ble_eq_true rfl⟩ 0 rfl rfl [0] [] rfl rfl (by decide) (by decide) (by decide) rfl rfl (Nat.le_of_ble_eq_true rfl) ⟨Nat.le_of_ble_eq_true rfl, Nat.le_of_ble_eq_true rfl⟩ (fun r1 _ w2 => ?_)
  refine r_ws [(h0, .inr (1, [.ref h1, .ref h2, .ref h3, .int 1, .long (-1), .long 9223372036854775807, .int 0, .int 0, .long 0, .long 0]))] rfl ?_
  have w2 : r1 = 0 := w2
  subst w2
  refine r_l2i 6 0 C dX1_takeIndex_6 (by decide) ?_
  refine r_put 7 C dX1_takeIndex_7 (k := 6) 0 rfl rfl hiX1 tyX1 tyX1_ok nmX1 (by decide) rfl (mg 1 rfl) (Or.inl rfl) rfl rfl rfl rfl (Nat.le_of_ble_eq_true rfl) [(h0, .inr (1, [.ref h1, .ref h2, .ref h3, .int 1, .long (-1), .long 9223372036854775807, .int 0, .int 0, .long 0, .long 0]))] rfl ?_
  refine r_aload_n 10 0 C dX1_takeIndex_10 rfl ?_
  refine r_aload_n 11 0 C dX1_takeIndex_11 rfl ?_
  refine r_get 12 C dX1_takeIndex_12 (k := 6) 0 rfl rfl hiX1 (by decide) rfl (mg 1 rfl) (Or.inl rfl) rfl ?_
  refine r_iload_n 15 1 C dX1_takeIndex_15 rfl ?_
  refine r_icmp_lt_t 16 31 C dX1_takeIndex_16 (by decide) (by decide) ?_
  refine r_iconst 31 0 C dX1_takeIndex_31 (by decide) ?_
  refine r_callVv 32 C dX1_takeIndex_32 [] [(h0, .inr (1, [.ref h1, .ref h2, .ref h3, .int 1, .long (-1), .long 9223372036854775807, .int 0, .int 0, .long 0, .long 0]))] [] (fun sz => c75_X1_want l g h0 h1 h2 h3 sz) gX1_takeIndex_X1_want rfl ⟨rfl, rfl⟩ 1 (by decide) ⟨Nat.le_of_ble_eq_true rfl, Nat.le_of_ble_eq_true rfl⟩ 0 rfl rfl [0] [] rfl rfl (by decide) (by decide) (by decide) rfl rfl (Nat.le_of_ble_eq_true rfl) ⟨Nat.le_of_ble_eq_true rfl, Nat.le_of_ble_eq_true rfl⟩ (fun  _ w3 => ?_)
  refine r_ws [(h0, .inr (1, [.ref h1, .ref h2, .ref h3, .int 1, .long (-1), .long 9223372036854775807, .int 0, .int 0, .long 0, .long 0]))] rfl ?_
  refine r_aload_n 35 0 C dX1_takeIndex_35 rfl ?_
  refine r_get 36 C dX1_takeIndex_36 (k := 3) 0 rfl rfl hiX1 (by decide) rfl (mg 2 rfl) (Or.inl rfl) rfl ?_
  refine r_if_ne_t 39 49 C dX1_takeIndex_39 (by decide) (by decide) ?_
  exact r_vret 49 Rt dX1_takeIndex_49 () trivial [0] (by decide) rfl (Nat.le_of_ble_eq_true rfl) (Nat.le_of_ble_eq_true rfl)
set_option maxHeartbeats 4000000 in
set_option maxRecDepth 100000 in
theorem c77_X1_want (l : Launch) (g : GD) (h0 : Nat) (sz : Nat) : Met l yX1_want wsX1_want ({ frames := 0, cells := 0, slots := 0, locals := 0 }) (va_Pc [.ref h0, .int 1] (PW g [] sz)) (va_Qv (fun (_ : Unit) => True) (BW g (va_A [] sz) (fun _ : Unit => [])) (va_A [] sz)) 0 0 (va_A [] sz) := by
  refine met_v RX1 (by decide) rfl rfl (Nat.le_of_ble_eq_true rfl) [(0, .ref h0), (1, .int 1)] rfl ?_
  intro p e s m args below meth c A Q C hnm Rt
  refine r_iload_n 0 1 C dX1_want_0 rfl ?_
  refine r_if_ne_t 1 9 C dX1_want_1 (by decide) (by decide) ?_
  exact r_vret 9 Rt dX1_want_9 () trivial [] (by decide) rfl (Nat.le_of_ble_eq_true rfl) (Nat.le_of_ble_eq_true rfl)
set_option maxHeartbeats 4000000 in
set_option maxRecDepth 100000 in
theorem c78_X1_takeIndex (l : Launch) (g : GD) (h0 : Nat) (h1 : Nat) (h2 : Nat) (h3 : Nat) (sz : Nat) : Met l yX1_takeIndex wsX1_takeIndex ({ frames := 1, cells := 0, slots := 0, locals := 24 }) (va_Pc [.ref h0, .int 0, .int 65535] (PW g [(h0, .inr (1, [.ref h1, .ref h2, .ref h3, .int 1, .long (-1), .long 9223372036854775807, .int 0, .int 0, .long 0, .long 0]))] sz)) (va_Qv (fun (_ : Unit) => True) (BW g (va_A [(h0, .inr (1, [.ref h1, .ref h2, .ref h3, .int 1, .long (-1), .long 9223372036854775807, .int 0, .int 0, .long 0, .long 0]))] sz) (fun _ : Unit => [(h0, .inr (1, [.ref h1, .ref h2, .ref h3, .int 1, .long (-1), .long 9223372036854775807, .int 0, .int 0, .long 0, .long 0]))])) (va_A [(h0, .inr (1, [.ref h1, .ref h2, .ref h3, .int 1, .long (-1), .long 9223372036854775807, .int 0, .int 0, .long 0, .long 0]))] sz)) 0 0 (va_A [(h0, .inr (1, [.ref h1, .ref h2, .ref h3, .int 1, .long (-1), .long 9223372036854775807, .int 0, .int 0, .long 0, .long 0]))] sz) := by
  refine met_v RX1 (by decide) rfl rfl (Nat.le_of_ble_eq_true rfl) [(0, .ref h0), (1, .int 0), (2, .int 65535)] rfl ?_
  intro p e s m args below meth c A Q C hnm Rt
  have hiX1 : ∀ w ∈ wsX10, w ∈ wsX1_takeIndex := fun w h => List.mem_cons_of_mem _ (List.mem_append_left _ (List.mem_append_right _ (h)))
  refine r_aload_n 0 0 C dX1_takeIndex_0 rfl ?_
  refine r_aload_n 1 0 C dX1_takeIndex_1 rfl ?_
  refine r_iconst 2 2 C dX1_takeIndex_2 (by decide) ?_
  refine r_callVl 3 C dX1_takeIndex_3 [.ref h0] [(h0, .inr (1, [.ref h1, .ref h2, .ref h3, .int 1, .long (-1), .long 9223372036854775807, .int 0, .int 0, .long 0, .long 0]))] [] (fun sz => c73_X1_takeNumber l g h0 h1 h2 h3 sz) gX1_takeIndex_X1_takeNumber rfl ⟨rfl, rfl⟩ 1 (by decide) ⟨Nat.le_of_ble_eq_true rfl, Nat.le_of_ble_eq_true rfl⟩ 0 rfl rfl [0] [] rfl rfl (by decide) (by decide) (by decide) rfl rfl (Nat.le_of_ble_eq_true rfl) ⟨Nat.le_of_ble_eq_true rfl, Nat.le_of_ble_eq_true rfl⟩ (fun r1 _ w2 => ?_)
  refine r_ws [(h0, .inr (1, [.ref h1, .ref h2, .ref h3, .int 1, .long (-1), .long 9223372036854775807, .int 0, .int 0, .long 0, .long 0]))] rfl ?_
  have w2 : r1 = 0 := w2
  subst w2
  refine r_l2i 6 0 C dX1_takeIndex_6 (by decide) ?_
  refine r_put 7 C dX1_takeIndex_7 (k := 6) 0 rfl rfl hiX1 tyX1 tyX1_ok nmX1 (by decide) rfl (mg 1 rfl) (Or.inl rfl) rfl rfl rfl rfl (Nat.le_of_ble_eq_true rfl) [(h0, .inr (1, [.ref h1, .ref h2, .ref h3, .int 1, .long (-1), .long 9223372036854775807, .int 0, .int 0, .long 0, .long 0]))] rfl ?_
  refine r_aload_n 10 0 C dX1_takeIndex_10 rfl ?_
  refine r_aload_n 11 0 C dX1_takeIndex_11 rfl ?_
  refine r_get 12 C dX1_takeIndex_12 (k := 6) 0 rfl rfl hiX1 (by decide) rfl (mg 1 rfl) (Or.inl rfl) rfl ?_
  refine r_iload_n 15 1 C dX1_takeIndex_15 rfl ?_
  refine r_icmp_lt_f 16 31 C dX1_takeIndex_16 (by decide) (by decide) ?_
  refine r_aload_n 19 0 C dX1_takeIndex_19 rfl ?_
  refine r_get 20 C dX1_takeIndex_20 (k := 6) 0 rfl rfl hiX1 (by decide) rfl (mg 1 rfl) (Or.inl rfl) rfl ?_
  refine r_iload_n 23 2 C dX1_takeIndex_23 rfl ?_
  refine r_icmp_gt_f 24 31 C dX1_takeIndex_24 (by decide) (by decide) ?_
  refine r_iconst 27 1 C dX1_takeIndex_27 (by decide) ?_
  refine r_goto 28 32 C dX1_takeIndex_28 (by decide) ?_
  refine r_callVv 32 C dX1_takeIndex_32 [] [] [(h0, .inr (1, [.ref h1, .ref h2, .ref h3, .int 1, .long (-1), .long 9223372036854775807, .int 0, .int 0, .long 0, .long 0]))] (fun sz => c77_X1_want l g h0 sz) gX1_takeIndex_X1_want rfl ⟨rfl, rfl⟩ 1 (by decide) ⟨Nat.le_of_ble_eq_true rfl, Nat.le_of_ble_eq_true rfl⟩ 0 rfl rfl [] [0] rfl rfl (by decide) (by decide) (by decide) rfl rfl (Nat.le_of_ble_eq_true rfl) ⟨Nat.le_of_ble_eq_true rfl, Nat.le_of_ble_eq_true rfl⟩ (fun  _ w3 => ?_)
  refine r_ws [(h0, .inr (1, [.ref h1, .ref h2, .ref h3, .int 1, .long (-1), .long 9223372036854775807, .int 0, .int 0, .long 0, .long 0]))] rfl ?_
  refine r_aload_n 35 0 C dX1_takeIndex_35 rfl ?_
  refine r_get 36 C dX1_takeIndex_36 (k := 3) 0 rfl rfl hiX1 (by decide) rfl (mg 2 rfl) (Or.inl rfl) rfl ?_
  refine r_if_ne_t 39 49 C dX1_takeIndex_39 (by decide) (by decide) ?_
  exact r_vret 49 Rt dX1_takeIndex_49 () trivial [0] (by decide) rfl (Nat.le_of_ble_eq_true rfl) (Nat.le_of_ble_eq_true rfl)
set_option maxHeartbeats 4000000 in
set_option maxRecDepth 100000 in
theorem c79_X1_shelve (l : Launch) (g : GD) (h0 : Nat) (h1 : Nat) (h2 : Nat) (h3 : Nat) (h4 : Nat) (sz : Nat) : Met l yX1_shelve wsX1_shelve ({ frames := 0, cells := 0, slots := 0, locals := 0 }) (va_Pc [.ref h0, .ref h1] (PW g [(h0, .inr (1, [.ref h2, .ref h3, .ref h4, .int 1, .long (-1), .long 9223372036854775807, .int 0, .int 0, .long 0, .long 0]))] sz)) (va_Qv (fun (_ : Unit) => True) (BW g (va_A [(h0, .inr (1, [.ref h2, .ref h3, .ref h4, .int 1, .long (-1), .long 9223372036854775807, .int 0, .int 0, .long 0, .long 0]))] sz) (fun _ : Unit => [(h0, .inr (1, [.ref h2, .ref h3, .ref h4, .int 1, .long (-1), .long 9223372036854775807, .int 0, .int 0, .long 0, .long 0]))])) (va_A [(h0, .inr (1, [.ref h2, .ref h3, .ref h4, .int 1, .long (-1), .long 9223372036854775807, .int 0, .int 0, .long 0, .long 0]))] sz)) 0 0 (va_A [(h0, .inr (1, [.ref h2, .ref h3, .ref h4, .int 1, .long (-1), .long 9223372036854775807, .int 0, .int 0, .long 0, .long 0]))] sz) := by
  refine met_v RX1 (by decide) rfl rfl (Nat.le_of_ble_eq_true rfl) [(0, .ref h0), (1, .ref h1)] rfl ?_
  intro p e s m args below meth c A Q C hnm Rt
  have hiX1 : ∀ w ∈ wsX10, w ∈ wsX1_shelve := fun w h => List.mem_cons_of_mem _ (List.mem_append_left _ (List.mem_append_right _ (h)))
  refine r_aload_n 0 0 C dX1_shelve_0 rfl ?_
  refine r_get 1 C dX1_shelve_1 (k := 3) 0 rfl rfl hiX1 (by decide) rfl (mg 1 rfl) (Or.inl rfl) rfl ?_
  refine r_if_ne_t 4 31 C dX1_shelve_4 (by decide) (by decide) ?_
  exact r_vret 31 Rt dX1_shelve_31 () trivial [0] (by decide) rfl (Nat.le_of_ble_eq_true rfl) (Nat.le_of_ble_eq_true rfl)
set_option maxHeartbeats 4000000 in
set_option maxRecDepth 100000 in
theorem c80_J7_fill_53178 (l : Launch) (g : GD) (h0 : Nat) (fn0 : Nat → Int32) (sz : Nat) : Met l yJ7_fill_53178 wsJ7_fill_53178 ({ frames := 0, cells := 0, slots := 0, locals := 0 }) (va_Pc [.ref h0, .int (-1)] (PW g [(h0, .inl (gI g, 6, .inl fn0))] sz)) (va_Qv (fun (_ : (Nat → Int32)) => True) (BW g (va_A [(h0, .inl (gI g, 6, .inl fn0))] sz) (fun u : (Nat → Int32) => [(h0, .inl (gI g, 6, .inl u))])) (va_A [(h0, .inl (gI g, 6, .inl fn0))] sz)) 0 0 (va_A [(h0, .inl (gI g, 6, .inl fn0))] sz) := by
  refine met_v RJ7 (by decide) rfl rfl (Nat.le_of_ble_eq_true rfl) [(0, .ref h0), (1, .int (-1))] rfl ?_
  intro p e s m args below meth c A Q C hnm Rt
  refine r_iconst 0 0 C dJ7_fill_53178_0 (by decide) ?_
  refine r_istore_n 1 C dJ7_fill_53178_1 [(2, .int 0), (0, .ref h0), (1, .int (-1))] (by decide) rfl ?_
  refine r_aload_n 2 1 C dJ7_fill_53178_2 rfl ?_
  refine r_ialen 3 6 C dJ7_fill_53178_3 0 rfl (by decide) ?_
  refine r_istore_n 4 C dJ7_fill_53178_4 [(3, .int 6), (2, .int 0), (0, .ref h0), (1, .int (-1))] (by decide) rfl ?_
  refine r_iload_n 5 1 C dJ7_fill_53178_5 rfl ?_
  refine r_iload_n 6 0 C dJ7_fill_53178_6 rfl ?_
  refine r_icmp_ge_f 7 20 C dJ7_fill_53178_7 (by decide) (by decide) ?_
  refine r_aload_n 10 2 C dJ7_fill_53178_10 rfl ?_
  refine r_iload_n 11 1 C dJ7_fill_53178_11 rfl ?_
  refine r_iload_n 12 3 C dJ7_fill_53178_12 rfl ?_
  obtain ⟨f1, ef1⟩ : ∃ f_9, upd fn0 (Int32.toNatClampNeg 0) (-1) = f_9 := ⟨_, rfl⟩
  refine r_iast 13 C dJ7_fill_53178_13 0 rfl (vin (by decide)) f1 ef1 [(h0, .inl (gI g, 6, .inl f1))] rfl ?_
  refine r_iinc 14 1 1 C dJ7_fill_53178_14 rfl (by decide) [(2, .int 1), (3, .int 6), (0, .ref h0), (1, .int (-1))] (by decide) rfl ?_
  refine r_goto 17 5 C dJ7_fill_53178_17 (by decide) ?_
  refine r_iload_n 5 0 C dJ7_fill_53178_5 rfl ?_
  refine r_iload_n 6 1 C dJ7_fill_53178_6 rfl ?_
  refine r_icmp_ge_f 7 20 C dJ7_fill_53178_7 (by decide) (by decide) ?_
  refine r_aload_n 10 2 C dJ7_fill_53178_10 rfl ?_
  refine r_iload_n 11 0 C dJ7_fill_53178_11 rfl ?_
  refine r_iload_n 12 3 C dJ7_fill_53178_12 rfl ?_
  obtain ⟨f2, ef2⟩ : ∃ f_9, upd f1 (Int32.toNatClampNeg 1) (-1) = f_9 := ⟨_, rfl⟩
  refine r_iast 13 C dJ7_fill_53178_13 0 rfl (vin (by decide)) f2 ef2 [(h0, .inl (gI g, 6, .inl f2))] rfl ?_
  refine r_iinc 14 0 2 C dJ7_fill_53178_14 rfl (by decide) [(2, .int 2), (3, .int 6), (0, .ref h0), (1, .int (-1))] (by decide) rfl ?_
  refine r_goto 17 5 C dJ7_fill_53178_17 (by decide) ?_
  refine r_iload_n 5 0 C dJ7_fill_53178_5 rfl ?_
  refine r_iload_n 6 1 C dJ7_fill_53178_6 rfl ?_
  refine r_icmp_ge_f 7 20 C dJ7_fill_53178_7 (by decide) (by decide) ?_
  refine r_aload_n 10 2 C dJ7_fill_53178_10 rfl ?_
  refine r_iload_n 11 0 C dJ7_fill_53178_11 rfl ?_
  refine r_iload_n 12 3 C dJ7_fill_53178_12 rfl ?_
  obtain ⟨f3, ef3⟩ : ∃ f_9, upd f2 (Int32.toNatClampNeg 2) (-1) = f_9 := ⟨_, rfl⟩
  refine r_iast 13 C dJ7_fill_53178_13 0 rfl (vin (by decide)) f3 ef3 [(h0, .inl (gI g, 6, .inl f3))] rfl ?_
  refine r_iinc 14 0 3 C dJ7_fill_53178_14 rfl (by decide) [(2, .int 3), (3, .int 6), (0, .ref h0), (1, .int (-1))] (by decide) rfl ?_
  refine r_goto 17 5 C dJ7_fill_53178_17 (by decide) ?_
  refine r_iload_n 5 0 C dJ7_fill_53178_5 rfl ?_
  refine r_iload_n 6 1 C dJ7_fill_53178_6 rfl ?_
  refine r_icmp_ge_f 7 20 C dJ7_fill_53178_7 (by decide) (by decide) ?_
  refine r_aload_n 10 2 C dJ7_fill_53178_10 rfl ?_
  refine r_iload_n 11 0 C dJ7_fill_53178_11 rfl ?_
  refine r_iload_n 12 3 C dJ7_fill_53178_12 rfl ?_
  obtain ⟨f4, ef4⟩ : ∃ f_9, upd f3 (Int32.toNatClampNeg 3) (-1) = f_9 := ⟨_, rfl⟩
  refine r_iast 13 C dJ7_fill_53178_13 0 rfl (vin (by decide)) f4 ef4 [(h0, .inl (gI g, 6, .inl f4))] rfl ?_
  refine r_iinc 14 0 4 C dJ7_fill_53178_14 rfl (by decide) [(2, .int 4), (3, .int 6), (0, .ref h0), (1, .int (-1))] (by decide) rfl ?_
  refine r_goto 17 5 C dJ7_fill_53178_17 (by decide) ?_
  refine r_iload_n 5 0 C dJ7_fill_53178_5 rfl ?_
  refine r_iload_n 6 1 C dJ7_fill_53178_6 rfl ?_
  refine r_icmp_ge_f 7 20 C dJ7_fill_53178_7 (by decide) (by decide) ?_
  refine r_aload_n 10 2 C dJ7_fill_53178_10 rfl ?_
  refine r_iload_n 11 0 C dJ7_fill_53178_11 rfl ?_
  refine r_iload_n 12 3 C dJ7_fill_53178_12 rfl ?_
  obtain ⟨f5, ef5⟩ : ∃ f_9, upd f4 (Int32.toNatClampNeg 4) (-1) = f_9 := ⟨_, rfl⟩
  refine r_iast 13 C dJ7_fill_53178_13 0 rfl (vin (by decide)) f5 ef5 [(h0, .inl (gI g, 6, .inl f5))] rfl ?_
  refine r_iinc 14 0 5 C dJ7_fill_53178_14 rfl (by decide) [(2, .int 5), (3, .int 6), (0, .ref h0), (1, .int (-1))] (by decide) rfl ?_
  refine r_goto 17 5 C dJ7_fill_53178_17 (by decide) ?_
  refine r_iload_n 5 0 C dJ7_fill_53178_5 rfl ?_
  refine r_iload_n 6 1 C dJ7_fill_53178_6 rfl ?_
  refine r_icmp_ge_f 7 20 C dJ7_fill_53178_7 (by decide) (by decide) ?_
  refine r_aload_n 10 2 C dJ7_fill_53178_10 rfl ?_
  refine r_iload_n 11 0 C dJ7_fill_53178_11 rfl ?_
  refine r_iload_n 12 3 C dJ7_fill_53178_12 rfl ?_
  obtain ⟨f6, ef6⟩ : ∃ f_9, upd f5 (Int32.toNatClampNeg 5) (-1) = f_9 := ⟨_, rfl⟩
  refine r_iast 13 C dJ7_fill_53178_13 0 rfl (vin (by decide)) f6 ef6 [(h0, .inl (gI g, 6, .inl f6))] rfl ?_
  refine r_iinc 14 0 6 C dJ7_fill_53178_14 rfl (by decide) [(2, .int 6), (3, .int 6), (0, .ref h0), (1, .int (-1))] (by decide) rfl ?_
  refine r_goto 17 5 C dJ7_fill_53178_17 (by decide) ?_
  refine r_iload_n 5 0 C dJ7_fill_53178_5 rfl ?_
  refine r_iload_n 6 1 C dJ7_fill_53178_6 rfl ?_
  refine r_icmp_ge_t 7 20 C dJ7_fill_53178_7 (by decide) (by decide) ?_
  exact r_vret 20 Rt dJ7_fill_53178_20 f6 trivial [0] (by decide) rfl (Nat.le_of_ble_eq_true rfl) (Nat.le_of_ble_eq_true rfl)
set_option maxHeartbeats 4000000 in
set_option maxRecDepth 100000 in
theorem c81_X2_clear (l : Launch) (g : GD) (h0 : Nat) (h1 : Nat) (h2 : Nat) (h3 : Nat) (h4 : Nat) (fn0 : Nat → Int32) (sz : Nat) : Met l yX2_clear wsX2_clear ({ frames := 1, cells := 0, slots := 0, locals := 23 }) (va_Pc [.ref h0] (PW g [(h0, .inr (2, [.ref h2, .int 0, .int 0, .ref h1, .ref h3, .ref h4])), (h1, .inl (gI g, 6, .inl fn0))] sz)) (va_Qv (fun (_ : (Nat → Int32)) => True) (BW g (va_A [(h0, .inr (2, [.ref h2, .int 0, .int 0, .ref h1, .ref h3, .ref h4])), (h1, .inl (gI g, 6, .inl fn0))] sz) (fun u : (Nat → Int32) => [(h0, .inr (2, [.ref h2, .int 0, .int 0, .ref h1, .ref h3, .ref h4])), (h1, .inl (gI g, 6, .inl u))])) (va_A [(h0, .inr (2, [.ref h2, .int 0, .int 0, .ref h1, .ref h3, .ref h4])), (h1, .inl (gI g, 6, .inl fn0))] sz)) 0 0 (va_A [(h0, .inr (2, [.ref h2, .int 0, .int 0, .ref h1, .ref h3, .ref h4])), (h1, .inl (gI g, 6, .inl fn0))] sz) := by
  refine met_v RX2 (by decide) rfl rfl (Nat.le_of_ble_eq_true rfl) [(0, .ref h0)] rfl ?_
  intro p e s m args below meth c A Q C hnm Rt
  have hiX2 : ∀ w ∈ wsX20, w ∈ wsX2_clear := fun w h => List.mem_cons_of_mem _ (List.mem_append_right _ (h))
  refine r_aload_n 0 0 C dX2_clear_0 rfl ?_
  refine r_iconst 1 0 C dX2_clear_1 (by decide) ?_
  refine r_put 2 C dX2_clear_2 (k := 1) 0 rfl rfl hiX2 tyX2 tyX2_ok nmX2 (by decide) rfl (mg 1 rfl) (Or.inl rfl) rfl rfl rfl rfl (Nat.le_of_ble_eq_true rfl) [(h0, .inr (2, [.ref h2, .int 0, .int 0, .ref h1, .ref h3, .ref h4])), (h1, .inl (gI g, 6, .inl fn0))] rfl ?_
  refine r_aload_n 5 0 C dX2_clear_5 rfl ?_
  refine r_iconst 6 0 C dX2_clear_6 (by decide) ?_
  refine r_put 7 C dX2_clear_7 (k := 2) 0 rfl rfl hiX2 tyX2 tyX2_ok nmX2 (by decide) rfl (mg 2 rfl) (Or.inl rfl) rfl rfl rfl rfl (Nat.le_of_ble_eq_true rfl) [(h0, .inr (2, [.ref h2, .int 0, .int 0, .ref h1, .ref h3, .ref h4])), (h1, .inl (gI g, 6, .inl fn0))] rfl ?_
  refine r_aload_n 10 0 C dX2_clear_10 rfl ?_
  refine r_get 11 C dX2_clear_11 (k := 3) 0 rfl rfl hiX2 (by decide) rfl (mg 3 rfl) (Or.inl rfl) rfl ?_
  refine r_iconst 14 (-1) C dX2_clear_14 (by decide) ?_
  refine r_callSv 15 C dX2_clear_15 [] [(h1, .inl (gI g, 6, .inl fn0))] [(h0, .inr (2, [.ref h2, .int 0, .int 0, .ref h1, .ref h3, .ref h4]))] (fun sz => c80_J7_fill_53178 l g h1 fn0 sz) gX2_clear_J7_fill_53178 rfl ⟨rfl, rfl⟩ 2 (by decide) ⟨Nat.le_of_ble_eq_true rfl, Nat.le_of_ble_eq_true rfl⟩ [1] [0] rfl rfl (by decide) (by decide) (by decide) rfl rfl (Nat.le_of_ble_eq_true rfl) ⟨Nat.le_of_ble_eq_true rfl, Nat.le_of_ble_eq_true rfl⟩ (fun  f1 w2 => ?_)
  refine r_ws [(h0, .inr (2, [.ref h2, .int 0, .int 0, .ref h1, .ref h3, .ref h4])), (h1, .inl (gI g, 6, .inl f1))] rfl ?_
  exact r_vret 18 Rt dX2_clear_18 f1 trivial [0, 1] (by decide) rfl (Nat.le_of_ble_eq_true rfl) (Nat.le_of_ble_eq_true rfl)
set_option maxHeartbeats 4000000 in
set_option maxRecDepth 100000 in
theorem c82_X2_isBetween (l : Launch) (g : GD) (h0 : Nat) (h1 : Nat) (h2 : Nat) (h3 : Nat) (h4 : Nat) (sz : Nat) : Met l yX2_isBetween wsX2_isBetween ({ frames := 0, cells := 0, slots := 0, locals := 0 }) (va_Pc [.ref h0] (PW g [(h0, .inr (2, [.ref h1, .int 0, .int 0, .ref h2, .ref h3, .ref h4]))] sz)) (va_Qi (fun (r : Int32) (_ : Unit) => r = 1) (BW g (va_A [(h0, .inr (2, [.ref h1, .int 0, .int 0, .ref h2, .ref h3, .ref h4]))] sz) (fun _ : Unit => [(h0, .inr (2, [.ref h1, .int 0, .int 0, .ref h2, .ref h3, .ref h4]))])) (va_A [(h0, .inr (2, [.ref h1, .int 0, .int 0, .ref h2, .ref h3, .ref h4]))] sz)) 0 0 (va_A [(h0, .inr (2, [.ref h1, .int 0, .int 0, .ref h2, .ref h3, .ref h4]))] sz) := by
  refine met_z RX2 (by decide) rfl rfl (Nat.le_of_ble_eq_true rfl) [(0, .ref h0)] rfl ?_
  intro p e s m args below meth c A Q C hnm Rt
  have hiX2 : ∀ w ∈ wsX20, w ∈ wsX2_isBetween := fun w h => List.mem_cons_of_mem _ (List.mem_append_right _ (h))
  refine r_aload_n 0 0 C dX2_isBetween_0 rfl ?_
  refine r_get 1 C dX2_isBetween_1 (k := 1) 0 rfl rfl hiX2 (by decide) rfl (mg 1 rfl) (Or.inl rfl) rfl ?_
  refine r_if_ne_f 4 11 C dX2_isBetween_4 (by decide) (by decide) ?_
  refine r_iconst 7 1 C dX2_isBetween_7 (by decide) ?_
  refine r_goto 8 12 C dX2_isBetween_8 (by decide) ?_
  exact r_zret 12 Rt dX2_isBetween_12 (by decide) () rfl [0] (by decide) rfl (Nat.le_of_ble_eq_true rfl) (Nat.le_of_ble_eq_true rfl)
set_option maxHeartbeats 4000000 in
set_option maxRecDepth 100000 in
theorem c83_X1_takeDict (l : Launch) (g : GD) (h0 : Nat) (h1 : Nat) (h2 : Nat) (h3 : Nat) (h4 : Nat) (h5 : Nat) (fn0 : Nat → Int32) (h6 : Nat) (h7 : Nat) (sz : Nat) : Met l yX1_takeDict wsX1_takeDict ({ frames := 2, cells := 0, slots := 0, locals := 43 }) (va_Pc [.ref h0, .long 0, .long (-1)] (PW g [(h1, .inr (2, [.ref h3, .int 0, .int 0, .ref h2, .ref h4, .ref h5])), (h2, .inl (gI g, 6, .inl fn0)), (h0, .inr (1, [.ref h1, .ref h6, .ref h7, .int 1, .long (-1), .long 9223372036854775807, .int 0, .int 0, .long 0, .long 0]))] sz)) (va_Qv (fun (_ : (Nat → Int32)) => True) (BW g (va_A [(h1, .inr (2, [.ref h3, .int 0, .int 0, .ref h2, .ref h4, .ref h5])), (h2, .inl (gI g, 6, .inl fn0)), (h0, .inr (1, [.ref h1, .ref h6, .ref h7, .int 1, .long (-1), .long 9223372036854775807, .int 0, .int 0, .long 0, .long 0]))] sz) (fun u : (Nat → Int32) => [(h1, .inr (2, [.ref h3, .int 0, .int 0, .ref h2, .ref h4, .ref h5])), (h2, .inl (gI g, 6, .inl u)), (h0, .inr (1, [.ref h1, .ref h6, .ref h7, .int 1, .long 0, .long 9223372036854775807, .int 0, .int 0, .long 0, .long 0]))])) (va_A [(h1, .inr (2, [.ref h3, .int 0, .int 0, .ref h2, .ref h4, .ref h5])), (h2, .inl (gI g, 6, .inl fn0)), (h0, .inr (1, [.ref h1, .ref h6, .ref h7, .int 1, .long (-1), .long 9223372036854775807, .int 0, .int 0, .long 0, .long 0]))] sz)) 0 0 (va_A [(h1, .inr (2, [.ref h3, .int 0, .int 0, .ref h2, .ref h4, .ref h5])), (h2, .inl (gI g, 6, .inl fn0)), (h0, .inr (1, [.ref h1, .ref h6, .ref h7, .int 1, .long (-1), .long 9223372036854775807, .int 0, .int 0, .long 0, .long 0]))] sz) := by
  refine met_v RX1 (by decide) rfl rfl (Nat.le_of_ble_eq_true rfl) [(0, .ref h0), (1, .long 0), (3, .long (-1))] rfl ?_
  intro p e s m args below meth c A Q C hnm Rt
  have hiX1 : ∀ w ∈ wsX10, w ∈ wsX1_takeDict := fun w h => List.mem_cons_of_mem _ (List.mem_append_left _ (List.mem_append_left _ (List.mem_append_right _ (h))))
  refine r_aload_n 0 0 C dX1_takeDict_0 rfl ?_
  refine r_get 1 C dX1_takeDict_1 (k := 0) 2 rfl rfl hiX1 (by decide) rfl (mg 1 rfl) (Or.inl rfl) rfl ?_
  refine r_callVv 4 C dX1_takeDict_4 [] [(h1, .inr (2, [.ref h3, .int 0, .int 0, .ref h2, .ref h4, .ref h5])), (h2, .inl (gI g, 6, .inl fn0))] [(h0, .inr (1, [.ref h1, .ref h6, .ref h7, .int 1, .long (-1), .long 9223372036854775807, .int 0, .int 0, .long 0, .long 0]))] (fun sz => c81_X2_clear l g h1 h2 h3 h4 h5 fn0 sz) gX1_takeDict_X2_clear rfl ⟨rfl, rfl⟩ 0 (by decide) ⟨Nat.le_of_ble_eq_true rfl, Nat.le_of_ble_eq_true rfl⟩ 0 rfl rfl [0, 1] [2] rfl rfl (by decide) (by decide) (by decide) rfl rfl (Nat.le_of_ble_eq_true rfl) ⟨Nat.le_of_ble_eq_true rfl, Nat.le_of_ble_eq_true rfl⟩ (fun  f1 w2 => ?_)
  refine r_ws [(h0, .inr (1, [.ref h1, .ref h6, .ref h7, .int 1, .long (-1), .long 9223372036854775807, .int 0, .int 0, .long 0, .long 0])), (h1, .inr (2, [.ref h3, .int 0, .int 0, .ref h2, .ref h4, .ref h5])), (h2, .inl (gI g, 6, .inl f1))] rfl ?_
  refine r_aload_n 7 0 C dX1_takeDict_7 rfl ?_
  refine r_lload_n 8 1 C dX1_takeDict_8 rfl ?_
  refine r_put 9 C dX1_takeDict_9 (k := 4) 0 rfl rfl hiX1 tyX1 tyX1_ok nmX1 (by decide) rfl (mg 2 rfl) (Or.inl rfl) rfl rfl rfl rfl (Nat.le_of_ble_eq_true rfl) [(h0, .inr (1, [.ref h1, .ref h6, .ref h7, .int 1, .long 0, .long 9223372036854775807, .int 0, .int 0, .long 0, .long 0])), (h1, .inr (2, [.ref h3, .int 0, .int 0, .ref h2, .ref h4, .ref h5])), (h2, .inl (gI g, 6, .inl f1))] rfl ?_
  refine r_aload_n 12 0 C dX1_takeDict_12 rfl ?_
  refine r_lload_n 13 2 C dX1_takeDict_13 rfl ?_
  refine r_put 14 C dX1_takeDict_14 (k := 5) 0 rfl rfl hiX1 tyX1 tyX1_ok nmX1 (by decide) rfl (mg 3 rfl) (Or.inl rfl) rfl rfl rfl rfl (Nat.le_of_ble_eq_true rfl) [(h0, .inr (1, [.ref h1, .ref h6, .ref h7, .int 1, .long 0, .long (-1), .int 0, .int 0, .long 0, .long 0])), (h1, .inr (2, [.ref h3, .int 0, .int 0, .ref h2, .ref h4, .ref h5])), (h2, .inl (gI g, 6, .inl f1))] rfl ?_
  refine r_iconst 17 0 C dX1_takeDict_17 (by decide) ?_
  refine r_istore 18 C dX1_takeDict_18 [(5, .int 0), (0, .ref h0), (1, .long 0), (3, .long (-1))] (by decide) rfl ?_
  refine r_iload 20 0 C dX1_takeDict_20 rfl ?_
  refine r_sipush 22 1500 C dX1_takeDict_22 (by decide) ?_
  refine r_icmp_gt_f 25 57 C dX1_takeDict_25 (by decide) (by decide) ?_
  refine r_aload_n 28 1 C dX1_takeDict_28 rfl ?_
  refine r_get 29 C dX1_takeDict_29 (k := 3) 0 rfl rfl hiX1 (by decide) rfl (mg 4 rfl) (Or.inl rfl) rfl ?_
  refine r_if_ne_t 32 57 C dX1_takeDict_32 (by decide) (by decide) ?_
  refine r_aload_n 57 1 C dX1_takeDict_57 rfl ?_
  refine r_aload_n 58 1 C dX1_takeDict_58 rfl ?_
  refine r_get 59 C dX1_takeDict_59 (k := 0) 0 rfl rfl hiX1 (by decide) rfl (mg 1 rfl) (Or.inl rfl) rfl ?_
  refine r_callVi 62 C dX1_takeDict_62 [.ref h0] [(h1, .inr (2, [.ref h3, .int 0, .int 0, .ref h2, .ref h4, .ref h5]))] [(h0, .inr (1, [.ref h1, .ref h6, .ref h7, .int 1, .long 0, .long (-1), .int 0, .int 0, .long 0, .long 0])), (h2, .inl (gI g, 6, .inl f1))] (fun sz => c82_X2_isBetween l g h1 h3 h2 h4 h5 sz) gX1_takeDict_X2_isBetween rfl ⟨rfl, rfl⟩ 0 (by decide) ⟨Nat.le_of_ble_eq_true rfl, Nat.le_of_ble_eq_true rfl⟩ 1 rfl rfl [1] [0, 2] rfl rfl (by decide) (by decide) (by decide) rfl rfl (Nat.le_of_ble_eq_true rfl) ⟨Nat.le_of_ble_eq_true rfl, Nat.le_of_ble_eq_true rfl⟩ (fun r3 _ w4 => ?_)
  refine r_ws [(h0, .inr (1, [.ref h1, .ref h6, .ref h7, .int 1, .long 0, .long (-1), .int 0, .int 0, .long 0, .long 0])), (h2, .inl (gI g, 6, .inl f1)), (h1, .inr (2, [.ref h3, .int 0, .int 0, .ref h2, .ref h4, .ref h5]))] rfl ?_
  have w4 : r3 = 1 := w4
  subst w4
  refine r_callVv 65 C dX1_takeDict_65 [] [] [(h0, .inr (1, [.ref h1, .ref h6, .ref h7, .int 1, .long 0, .long (-1), .int 0, .int 0, .long 0, .long 0])), (h2, .inl (gI g, 6, .inl f1)), (h1, .inr (2, [.ref h3, .int 0, .int 0, .ref h2, .ref h4, .ref h5]))] (fun sz => c77_X1_want l g h0 sz) gX1_takeDict_X1_want rfl ⟨rfl, rfl⟩ 1 (by decide) ⟨Nat.le_of_ble_eq_true rfl, Nat.le_of_ble_eq_true rfl⟩ 0 rfl rfl [] [0, 1, 2] rfl rfl (by decide) (by decide) (by decide) rfl rfl (Nat.le_of_ble_eq_true rfl) ⟨Nat.le_of_ble_eq_true rfl, Nat.le_of_ble_eq_true rfl⟩ (fun  _ w5 => ?_)
  refine r_ws [(h0, .inr (1, [.ref h1, .ref h6, .ref h7, .int 1, .long 0, .long (-1), .int 0, .int 0, .long 0, .long 0])), (h2, .inl (gI g, 6, .inl f1)), (h1, .inr (2, [.ref h3, .int 0, .int 0, .ref h2, .ref h4, .ref h5]))] rfl ?_
  refine r_aload_n 68 1 C dX1_takeDict_68 rfl ?_
  refine r_ldc2 69 9223372036854775807 C dX1_takeDict_69 (mg 5 rfl) ?_
  refine r_put 72 C dX1_takeDict_72 (k := 5) 0 rfl rfl hiX1 tyX1 tyX1_ok nmX1 (by decide) rfl (mg 3 rfl) (Or.inl rfl) rfl rfl rfl rfl (Nat.le_of_ble_eq_true rfl) [(h0, .inr (1, [.ref h1, .ref h6, .ref h7, .int 1, .long 0, .long 9223372036854775807, .int 0, .int 0, .long 0, .long 0])), (h2, .inl (gI g, 6, .inl f1)), (h1, .inr (2, [.ref h3, .int 0, .int 0, .ref h2, .ref h4, .ref h5]))] rfl ?_
  exact r_vret 75 Rt dX1_takeDict_75 f1 trivial [2, 1, 0] (by decide) rfl (Nat.le_of_ble_eq_true rfl) (Nat.le_of_ble_eq_true rfl)
set_option maxHeartbeats 4000000 in
set_option maxRecDepth 100000 in
theorem c84_X2_slotOf (l : Launch) (g : GD) (sz : Nat) : Met l yX2_slotOf wsX2_slotOf ({ frames := 0, cells := 0, slots := 0, locals := 0 }) (va_Pc [.int 17] (PW g [] sz)) (va_Qi (fun (r : Int32) (_ : Unit) => r = 0) (BW g (va_A [] sz) (fun _ : Unit => [])) (va_A [] sz)) 0 0 (va_A [] sz) := by
  refine met_i RX2 (by decide) rfl rfl (Nat.le_of_ble_eq_true rfl) [(0, .int 17)] rfl ?_
  intro p e s m args below meth c A Q C hnm Rt
  refine r_iload_n 0 0 C dX2_slotOf_0 rfl ?_
  refine r_lookup 1 60 (off := 59) C dX2_slotOf_1 (by decide) (by decide) (by decide) ?_
  refine r_iconst 60 0 C dX2_slotOf_60 (by decide) ?_
  exact r_iret 61 Rt dX2_slotOf_61 () rfl [] (by decide) rfl (Nat.le_of_ble_eq_true rfl) (Nat.le_of_ble_eq_true rfl)
set_option maxHeartbeats 4000000 in
set_option maxRecDepth 100000 in
theorem c85_X2_isTold (l : Launch) (g : GD) (h0 : Nat) (h1 : Nat) (h2 : Nat) (h3 : Nat) (h4 : Nat) (fn0 : Nat → Int32) (sz : Nat) : Met l yX2_isTold wsX2_isTold ({ frames := 1, cells := 0, slots := 0, locals := 20 }) (va_Pc [.ref h0, .int 17] (PW g [(h0, .inr (2, [.ref h2, .int 0, .int 0, .ref h1, .ref h3, .ref h4])), (h1, .inl (gI g, 6, .inl fn0))] sz)) (va_Qi (fun (r : Int32) (_ : Unit) => (r = 0) ∨ (r = 1)) (BW g (va_A [(h0, .inr (2, [.ref h2, .int 0, .int 0, .ref h1, .ref h3, .ref h4])), (h1, .inl (gI g, 6, .inl fn0))] sz) (fun _ : Unit => [(h0, .inr (2, [.ref h2, .int 0, .int 0, .ref h1, .ref h3, .ref h4])), (h1, .inl (gI g, 6, .inl fn0))])) (va_A [(h0, .inr (2, [.ref h2, .int 0, .int 0, .ref h1, .ref h3, .ref h4])), (h1, .inl (gI g, 6, .inl fn0))] sz)) 0 0 (va_A [(h0, .inr (2, [.ref h2, .int 0, .int 0, .ref h1, .ref h3, .ref h4])), (h1, .inl (gI g, 6, .inl fn0))] sz) := by
  refine met_z RX2 (by decide) rfl rfl (Nat.le_of_ble_eq_true rfl) [(0, .ref h0), (1, .int 17)] rfl ?_
  intro p e s m args below meth c A Q C hnm Rt
  have hiX2 : ∀ w ∈ wsX20, w ∈ wsX2_isTold := fun w h => List.mem_cons_of_mem _ (List.mem_append_right _ (h))
  refine r_iload_n 0 1 C dX2_isTold_0 rfl ?_
  refine r_callSi 1 C dX2_isTold_1 [] [] [(h0, .inr (2, [.ref h2, .int 0, .int 0, .ref h1, .ref h3, .ref h4])), (h1, .inl (gI g, 6, .inl fn0))] (fun sz => c84_X2_slotOf l g  sz) gX2_isTold_X2_slotOf rfl ⟨rfl, rfl⟩ 1 (by decide) ⟨Nat.le_of_ble_eq_true rfl, Nat.le_of_ble_eq_true rfl⟩ [] [0, 1] rfl rfl (by decide) (by decide) (by decide) rfl rfl (Nat.le_of_ble_eq_true rfl) ⟨Nat.le_of_ble_eq_true rfl, Nat.le_of_ble_eq_true rfl⟩ (fun r1 _ w2 => ?_)
  refine r_ws [(h0, .inr (2, [.ref h2, .int 0, .int 0, .ref h1, .ref h3, .ref h4])), (h1, .inl (gI g, 6, .inl fn0))] rfl ?_
  have w2 : r1 = 0 := w2
  subst w2
  refine r_istore_n 4 C dX2_isTold_4 [(2, .int 0), (0, .ref h0), (1, .int 17)] (by decide) rfl ?_
  refine r_iload_n 5 0 C dX2_isTold_5 rfl ?_
  refine r_iconst 6 (-1) C dX2_isTold_6 (by decide) ?_
  refine r_icmp_eq_f 7 24 C dX2_isTold_7 (by decide) (by decide) ?_
  refine r_aload_n 10 1 C dX2_isTold_10 rfl ?_
  refine r_get 11 C dX2_isTold_11 (k := 3) 0 rfl rfl hiX2 (by decide) rfl (mg 1 rfl) (Or.inl rfl) rfl ?_
  refine r_iload_n 14 0 C dX2_isTold_14 rfl ?_
  obtain ⟨z3, ez3⟩ : ∃ z_9, fn0 (Int32.toNatClampNeg 0) = z_9 := ⟨_, rfl⟩
  refine r_iald 15 z3 C dX2_isTold_15 1 rfl (vin (by decide)) ez3 ?_
  refine r_iconst 16 (-1) C dX2_isTold_16 (by decide) ?_
  refine r_icmp_eq 17 24 C dX2_isTold_17 (by decide) (fun c4 => ?_) (fun c4 => ?_)
  · skip
    have k5 : (Int32.toInt z3) = (-1) := (fa_eq z3 (-1)).mp c4
    refine r_iconst 24 0 C dX2_isTold_24 (by decide) ?_
    exact r_zret 25 Rt dX2_isTold_25 (by decide) () (Or.inl rfl) [0, 1] (by decide) rfl (Nat.le_of_ble_eq_true rfl) (Nat.le_of_ble_eq_true rfl)
  · skip
    have k6 : ¬ ((Int32.toInt z3) = (-1)) := fun h_9 => c4 ((fa_eq z3 (-1)).mpr h_9)
    refine r_iconst 20 1 C dX2_isTold_20 (by decide) ?_
    refine r_goto 21 25 C dX2_isTold_21 (by decide) ?_
    exact r_zret 25 Rt dX2_isTold_25 (by decide) () (Or.inr rfl) [0, 1] (by decide) rfl (Nat.le_of_ble_eq_true rfl) (Nat.le_of_ble_eq_true rfl)
set_option maxHeartbeats 4000000 in
set_option maxRecDepth 100000 in
theorem c86_X2_slotOf (l : Launch) (g : GD) (sz : Nat) : Met l yX2_slotOf wsX2_slotOf ({ frames := 0, cells := 0, slots := 0, locals := 0 }) (va_Pc [.int 18] (PW g [] sz)) (va_Qi (fun (r : Int32) (_ : Unit) => r = 1) (BW g (va_A [] sz) (fun _ : Unit => [])) (va_A [] sz)) 0 0 (va_A [] sz) := by
  refine met_i RX2 (by decide) rfl rfl (Nat.le_of_ble_eq_true rfl) [(0, .int 18)] rfl ?_
  intro p e s m args below meth c A Q C hnm Rt
  refine r_iload_n 0 0 C dX2_slotOf_0 rfl ?_
  refine r_lookup 1 62 (off := 61) C dX2_slotOf_1 (by decide) (by decide) (by decide) ?_
  refine r_iconst 62 1 C dX2_slotOf_62 (by decide) ?_
  exact r_iret 63 Rt dX2_slotOf_63 () rfl [] (by decide) rfl (Nat.le_of_ble_eq_true rfl) (Nat.le_of_ble_eq_true rfl)
set_option maxHeartbeats 4000000 in
set_option maxRecDepth 100000 in
theorem c87_X2_fits (l : Launch) (g : GD) (h0 : Nat) (h1 : Nat) (h2 : Nat) (h3 : Nat) (h4 : Nat) (fn0 : Nat → Int32) (sz : Nat) : Met l yX2_fits wsX2_fits ({ frames := 1, cells := 0, slots := 0, locals := 20 }) (va_Pc [.ref h0, .int 18, .int 2] (PW g [(h0, .inr (2, [.ref h2, .int 0, .int 0, .ref h1, .ref h3, .ref h4])), (h1, .inl (gI g, 6, .inl fn0))] sz)) (va_Qi (fun (r : Int32) (_ : Unit) => (r = 1) ∨ (r = 0) ∨ (r = 1)) (BW g (va_A [(h0, .inr (2, [.ref h2, .int 0, .int 0, .ref h1, .ref h3, .ref h4])), (h1, .inl (gI g, 6, .inl fn0))] sz) (fun _ : Unit => [(h0, .inr (2, [.ref h2, .int 0, .int 0, .ref h1, .ref h3, .ref h4])), (h1, .inl (gI g, 6, .inl fn0))])) (va_A [(h0, .inr (2, [.ref h2, .int 0, .int 0, .ref h1, .ref h3, .ref h4])), (h1, .inl (gI g, 6, .inl fn0))] sz)) 0 0 (va_A [(h0, .inr (2, [.ref h2, .int 0, .int 0, .ref h1, .ref h3, .ref h4])), (h1, .inl (gI g, 6, .inl fn0))] sz) := by
  refine met_z RX2 (by decide) rfl rfl (Nat.le_of_ble_eq_true rfl) [(0, .ref h0), (1, .int 18), (2, .int 2)] rfl ?_
  intro p e s m args below meth c A Q C hnm Rt
  have hiX2 : ∀ w ∈ wsX20, w ∈ wsX2_fits := fun w h => List.mem_cons_of_mem _ (List.mem_append_right _ (h))
  refine r_iload_n 0 1 C dX2_fits_0 rfl ?_
  refine r_callSi 1 C dX2_fits_1 [] [] [(h0, .inr (2, [.ref h2, .int 0, .int 0, .ref h1, .ref h3, .ref h4])), (h1, .inl (gI g, 6, .inl fn0))] (fun sz => c86_X2_slotOf l g  sz) gX2_fits_X2_slotOf rfl ⟨rfl, rfl⟩ 1 (by decide) ⟨Nat.le_of_ble_eq_true rfl, Nat.le_of_ble_eq_true rfl⟩ [] [0, 1] rfl rfl (by decide) (by decide) (by decide) rfl rfl (Nat.le_of_ble_eq_true rfl) ⟨Nat.le_of_ble_eq_true rfl, Nat.le_of_ble_eq_true rfl⟩ (fun r1 _ w2 => ?_)
  refine r_ws [(h0, .inr (2, [.ref h2, .int 0, .int 0, .ref h1, .ref h3, .ref h4])), (h1, .inl (gI g, 6, .inl fn0))] rfl ?_
  have w2 : r1 = 1 := w2
  subst w2
  refine r_istore_n 4 C dX2_fits_4 [(3, .int 1), (0, .ref h0), (1, .int 18), (2, .int 2)] (by decide) rfl ?_
  refine r_iload_n 5 0 C dX2_fits_5 rfl ?_
  refine r_iconst 6 (-1) C dX2_fits_6 (by decide) ?_
  refine r_icmp_eq_f 7 30 C dX2_fits_7 (by decide) (by decide) ?_
  refine r_aload_n 10 1 C dX2_fits_10 rfl ?_
  refine r_get 11 C dX2_fits_11 (k := 3) 0 rfl rfl hiX2 (by decide) rfl (mg 1 rfl) (Or.inl rfl) rfl ?_
  refine r_iload_n 14 0 C dX2_fits_14 rfl ?_
  obtain ⟨z3, ez3⟩ : ∃ z_9, fn0 (Int32.toNatClampNeg 1) = z_9 := ⟨_, rfl⟩
  refine r_iald 15 z3 C dX2_fits_15 1 rfl (vin (by decide)) ez3 ?_
  refine r_iconst 16 (-1) C dX2_fits_16 (by decide) ?_
  refine r_icmp_eq 17 30 C dX2_fits_17 (by decide) (fun c4 => ?_) (fun c4 => ?_)
  · skip
    have k5 : (Int32.toInt z3) = (-1) := (fa_eq z3 (-1)).mp c4
    refine r_iconst 30 1 C dX2_fits_30 (by decide) ?_
    refine r_goto 31 35 C dX2_fits_31 (by decide) ?_
    exact r_zret 35 Rt dX2_fits_35 (by decide) () (Or.inl rfl) [0, 1] (by decide) rfl (Nat.le_of_ble_eq_true rfl) (Nat.le_of_ble_eq_true rfl)
  · skip
    have k6 : ¬ ((Int32.toInt z3) = (-1)) := fun h_9 => c4 ((fa_eq z3 (-1)).mpr h_9)
    refine r_aload_n 20 1 C dX2_fits_20 rfl ?_
    refine r_get 21 C dX2_fits_21 (k := 3) 0 rfl rfl hiX2 (by decide) rfl (mg 1 rfl) (Or.inl rfl) rfl ?_
    refine r_iload_n 24 0 C dX2_fits_24 rfl ?_
    obtain ⟨z7, ez7⟩ : ∃ z_9, fn0 (Int32.toNatClampNeg 1) = z_9 := ⟨_, rfl⟩
    refine r_iald 25 z7 C dX2_fits_25 1 rfl (vin (by decide)) ez7 ?_
    refine r_iload_n 26 3 C dX2_fits_26 rfl ?_
    refine r_icmp_ne 27 34 C dX2_fits_27 (by decide) (fun c8 => ?_) (fun c8 => ?_)
    · skip
      have k9 : ¬ ((Int32.toInt z7) = 2) := fun h_9 => c8 ((fa_eq z7 2).mpr h_9)
      refine r_iconst 34 0 C dX2_fits_34 (by decide) ?_
      exact r_zret 35 Rt dX2_fits_35 (by decide) () (Or.inr (Or.inl rfl)) [0, 1] (by decide) rfl (Nat.le_of_ble_eq_true rfl) (Nat.le_of_ble_eq_true rfl)
    · skip
      have k10 : (Int32.toInt z7) = 2 := (fa_eq z7 2).mp c8
      refine r_iconst 30 1 C dX2_fits_30 (by decide) ?_
      refine r_goto 31 35 C dX2_fits_31 (by decide) ?_
      exact r_zret 35 Rt dX2_fits_35 (by decide) () (Or.inr (Or.inr rfl)) [0, 1] (by decide) rfl (Nat.le_of_ble_eq_true rfl) (Nat.le_of_ble_eq_true rfl)
set_option maxHeartbeats 4000000 in
set_option maxRecDepth 100000 in
theorem c88_X2_slotOf (l : Launch) (g : GD) (sz : Nat) : Met l yX2_slotOf wsX2_slotOf ({ frames := 0, cells := 0, slots := 0, locals := 0 }) (va_Pc [.int 262] (PW g [] sz)) (va_Qi (fun (r : Int32) (_ : Unit) => r = 2) (BW g (va_A [] sz) (fun _ : Unit => [])) (va_A [] sz)) 0 0 (va_A [] sz) := by
  refine met_i RX2 (by decide) rfl rfl (Nat.le_of_ble_eq_true rfl) [(0, .int 262)] rfl ?_
  intro p e s m args below meth c A Q C hnm Rt
  refine r_iload_n 0 0 C dX2_slotOf_0 rfl ?_
  refine r_lookup 1 64 (off := 63) C dX2_slotOf_1 (by decide) (by decide) (by decide) ?_
  refine r_iconst 64 2 C dX2_slotOf_64 (by decide) ?_
  exact r_iret 65 Rt dX2_slotOf_65 () rfl [] (by decide) rfl (Nat.le_of_ble_eq_true rfl) (Nat.le_of_ble_eq_true rfl)
set_option maxHeartbeats 4000000 in
set_option maxRecDepth 100000 in
theorem c89_X2_fits (l : Launch) (g : GD) (h0 : Nat) (h1 : Nat) (h2 : Nat) (h3 : Nat) (h4 : Nat) (fn0 : Nat → Int32) (sz : Nat) : Met l yX2_fits wsX2_fits ({ frames := 1, cells := 0, slots := 0, locals := 20 }) (va_Pc [.ref h0, .int 262, .int 1] (PW g [(h0, .inr (2, [.ref h2, .int 0, .int 0, .ref h1, .ref h3, .ref h4])), (h1, .inl (gI g, 6, .inl fn0))] sz)) (va_Qi (fun (r : Int32) (_ : Unit) => (r = 1) ∨ (r = 0) ∨ (r = 1)) (BW g (va_A [(h0, .inr (2, [.ref h2, .int 0, .int 0, .ref h1, .ref h3, .ref h4])), (h1, .inl (gI g, 6, .inl fn0))] sz) (fun _ : Unit => [(h0, .inr (2, [.ref h2, .int 0, .int 0, .ref h1, .ref h3, .ref h4])), (h1, .inl (gI g, 6, .inl fn0))])) (va_A [(h0, .inr (2, [.ref h2, .int 0, .int 0, .ref h1, .ref h3, .ref h4])), (h1, .inl (gI g, 6, .inl fn0))] sz)) 0 0 (va_A [(h0, .inr (2, [.ref h2, .int 0, .int 0, .ref h1, .ref h3, .ref h4])), (h1, .inl (gI g, 6, .inl fn0))] sz) := by
  refine met_z RX2 (by decide) rfl rfl (Nat.le_of_ble_eq_true rfl) [(0, .ref h0), (1, .int 262), (2, .int 1)] rfl ?_
  intro p e s m args below meth c A Q C hnm Rt
  have hiX2 : ∀ w ∈ wsX20, w ∈ wsX2_fits := fun w h => List.mem_cons_of_mem _ (List.mem_append_right _ (h))
  refine r_iload_n 0 1 C dX2_fits_0 rfl ?_
  refine r_callSi 1 C dX2_fits_1 [] [] [(h0, .inr (2, [.ref h2, .int 0, .int 0, .ref h1, .ref h3, .ref h4])), (h1, .inl (gI g, 6, .inl fn0))] (fun sz => c88_X2_slotOf l g  sz) gX2_fits_X2_slotOf rfl ⟨rfl, rfl⟩ 1 (by decide) ⟨Nat.le_of_ble_eq_true rfl, Nat.le_of_ble_eq_true rfl⟩ [] [0, 1] rfl rfl (by decide) (by decide) (by decide) rfl rfl (Nat.le_of_ble_eq_true rfl) ⟨Nat.le_of_ble_eq_true rfl, Nat.le_of_ble_eq_true rfl⟩ (fun r1 _ w2 => ?_)
  refine r_ws [(h0, .inr (2, [.ref h2, .int 0, .int 0, .ref h1, .ref h3, .ref h4])), (h1, .inl (gI g, 6, .inl fn0))] rfl ?_
  have w2 : r1 = 2 := w2
  subst w2
  refine r_istore_n 4 C dX2_fits_4 [(3, .int 2), (0, .ref h0), (1, .int 262), (2, .int 1)] (by decide) rfl ?_
  refine r_iload_n 5 0 C dX2_fits_5 rfl ?_
  refine r_iconst 6 (-1) C dX2_fits_6 (by decide) ?_
  refine r_icmp_eq_f 7 30 C dX2_fits_7 (by decide) (by decide) ?_
  refine r_aload_n 10 1 C dX2_fits_10 rfl ?_
  refine r_get 11 C dX2_fits_11 (k := 3) 0 rfl rfl hiX2 (by decide) rfl (mg 1 rfl) (Or.inl rfl) rfl ?_
  refine r_iload_n 14 0 C dX2_fits_14 rfl ?_
  obtain ⟨z3, ez3⟩ : ∃ z_9, fn0 (Int32.toNatClampNeg 2) = z_9 := ⟨_, rfl⟩
  refine r_iald 15 z3 C dX2_fits_15 1 rfl (vin (by decide)) ez3 ?_
  refine r_iconst 16 (-1) C dX2_fits_16 (by decide) ?_
  refine r_icmp_eq 17 30 C dX2_fits_17 (by decide) (fun c4 => ?_) (fun c4 => ?_)
  · skip
    have k5 : (Int32.toInt z3) = (-1) := (fa_eq z3 (-1)).mp c4
    refine r_iconst 30 1 C dX2_fits_30 (by decide) ?_
    refine r_goto 31 35 C dX2_fits_31 (by decide) ?_
    exact r_zret 35 Rt dX2_fits_35 (by decide) () (Or.inl rfl) [0, 1] (by decide) rfl (Nat.le_of_ble_eq_true rfl) (Nat.le_of_ble_eq_true rfl)
  · skip
    have k6 : ¬ ((Int32.toInt z3) = (-1)) := fun h_9 => c4 ((fa_eq z3 (-1)).mpr h_9)
    refine r_aload_n 20 1 C dX2_fits_20 rfl ?_
    refine r_get 21 C dX2_fits_21 (k := 3) 0 rfl rfl hiX2 (by decide) rfl (mg 1 rfl) (Or.inl rfl) rfl ?_
    refine r_iload_n 24 0 C dX2_fits_24 rfl ?_
    obtain ⟨z7, ez7⟩ : ∃ z_9, fn0 (Int32.toNatClampNeg 2) = z_9 := ⟨_, rfl⟩
    refine r_iald 25 z7 C dX2_fits_25 1 rfl (vin (by decide)) ez7 ?_
    refine r_iload_n 26 3 C dX2_fits_26 rfl ?_
    refine r_icmp_ne 27 34 C dX2_fits_27 (by decide) (fun c8 => ?_) (fun c8 => ?_)
    · skip
      have k9 : ¬ ((Int32.toInt z7) = 1) := fun h_9 => c8 ((fa_eq z7 1).mpr h_9)
      refine r_iconst 34 0 C dX2_fits_34 (by decide) ?_
      exact r_zret 35 Rt dX2_fits_35 (by decide) () (Or.inr (Or.inl rfl)) [0, 1] (by decide) rfl (Nat.le_of_ble_eq_true rfl) (Nat.le_of_ble_eq_true rfl)
    · skip
      have k10 : (Int32.toInt z7) = 1 := (fa_eq z7 1).mp c8
      refine r_iconst 30 1 C dX2_fits_30 (by decide) ?_
      refine r_goto 31 35 C dX2_fits_31 (by decide) ?_
      exact r_zret 35 Rt dX2_fits_35 (by decide) () (Or.inr (Or.inr rfl)) [0, 1] (by decide) rfl (Nat.le_of_ble_eq_true rfl) (Nat.le_of_ble_eq_true rfl)
set_option maxHeartbeats 4000000 in
set_option maxRecDepth 100000 in
theorem c90_X2_isTold (l : Launch) (g : GD) (h0 : Nat) (h1 : Nat) (h2 : Nat) (h3 : Nat) (h4 : Nat) (fn0 : Nat → Int32) (sz : Nat) : Met l yX2_isTold wsX2_isTold ({ frames := 1, cells := 0, slots := 0, locals := 20 }) (va_Pc [.ref h0, .int 262] (PW g [(h0, .inr (2, [.ref h2, .int 0, .int 0, .ref h1, .ref h3, .ref h4])), (h1, .inl (gI g, 6, .inl fn0))] sz)) (va_Qi (fun (r : Int32) (_ : Unit) => (r = 0) ∨ (r = 1)) (BW g (va_A [(h0, .inr (2, [.ref h2, .int 0, .int 0, .ref h1, .ref h3, .ref h4])), (h1, .inl (gI g, 6, .inl fn0))] sz) (fun _ : Unit => [(h0, .inr (2, [.ref h2, .int 0, .int 0, .ref h1, .ref h3, .ref h4])), (h1, .inl (gI g, 6, .inl fn0))])) (va_A [(h0, .inr (2, [.ref h2, .int 0, .int 0, .ref h1, .ref h3, .ref h4])), (h1, .inl (gI g, 6, .inl fn0))] sz)) 0 0 (va_A [(h0, .inr (2, [.ref h2, .int 0, .int 0, .ref h1, .ref h3, .ref h4])), (h1, .inl (gI g, 6, .inl fn0))] sz) := by
  refine met_z RX2 (by decide) rfl rfl (Nat.le_of_ble_eq_true rfl) [(0, .ref h0), (1, .int 262)] rfl ?_
  intro p e s m args below meth c A Q C hnm Rt
  have hiX2 : ∀ w ∈ wsX20, w ∈ wsX2_isTold := fun w h => List.mem_cons_of_mem _ (List.mem_append_right _ (h))
  refine r_iload_n 0 1 C dX2_isTold_0 rfl ?_
  refine r_callSi 1 C dX2_isTold_1 [] [] [(h0, .inr (2, [.ref h2, .int 0, .int 0, .ref h1, .ref h3, .ref h4])), (h1, .inl (gI g, 6, .inl fn0))] (fun sz => c88_X2_slotOf l g  sz) gX2_isTold_X2_slotOf rfl ⟨rfl, rfl⟩ 1 (by decide) ⟨Nat.le_of_ble_eq_true rfl, Nat.le_of_ble_eq_true rfl⟩ [] [0, 1] rfl rfl (by decide) (by decide) (by decide) rfl rfl (Nat.le_of_ble_eq_true rfl) ⟨Nat.le_of_ble_eq_true rfl, Nat.le_of_ble_eq_true rfl⟩ (fun r1 _ w2 => ?_)
  refine r_ws [(h0, .inr (2, [.ref h2, .int 0, .int 0, .ref h1, .ref h3, .ref h4])), (h1, .inl (gI g, 6, .inl fn0))] rfl ?_
  have w2 : r1 = 2 := w2
  subst w2
  refine r_istore_n 4 C dX2_isTold_4 [(2, .int 2), (0, .ref h0), (1, .int 262)] (by decide) rfl ?_
  refine r_iload_n 5 0 C dX2_isTold_5 rfl ?_
  refine r_iconst 6 (-1) C dX2_isTold_6 (by decide) ?_
  refine r_icmp_eq_f 7 24 C dX2_isTold_7 (by decide) (by decide) ?_
  refine r_aload_n 10 1 C dX2_isTold_10 rfl ?_
  refine r_get 11 C dX2_isTold_11 (k := 3) 0 rfl rfl hiX2 (by decide) rfl (mg 1 rfl) (Or.inl rfl) rfl ?_
  refine r_iload_n 14 0 C dX2_isTold_14 rfl ?_
  obtain ⟨z3, ez3⟩ : ∃ z_9, fn0 (Int32.toNatClampNeg 2) = z_9 := ⟨_, rfl⟩
  refine r_iald 15 z3 C dX2_isTold_15 1 rfl (vin (by decide)) ez3 ?_
  refine r_iconst 16 (-1) C dX2_isTold_16 (by decide) ?_
  refine r_icmp_eq 17 24 C dX2_isTold_17 (by decide) (fun c4 => ?_) (fun c4 => ?_)
  · skip
    have k5 : (Int32.toInt z3) = (-1) := (fa_eq z3 (-1)).mp c4
    refine r_iconst 24 0 C dX2_isTold_24 (by decide) ?_
    exact r_zret 25 Rt dX2_isTold_25 (by decide) () (Or.inl rfl) [0, 1] (by decide) rfl (Nat.le_of_ble_eq_true rfl) (Nat.le_of_ble_eq_true rfl)
  · skip
    have k6 : ¬ ((Int32.toInt z3) = (-1)) := fun h_9 => c4 ((fa_eq z3 (-1)).mpr h_9)
    refine r_iconst 20 1 C dX2_isTold_20 (by decide) ?_
    refine r_goto 21 25 C dX2_isTold_21 (by decide) ?_
    exact r_zret 25 Rt dX2_isTold_25 (by decide) () (Or.inr rfl) [0, 1] (by decide) rfl (Nat.le_of_ble_eq_true rfl) (Nat.le_of_ble_eq_true rfl)
set_option maxHeartbeats 4000000 in
set_option maxRecDepth 100000 in
theorem c91_X2_first (l : Launch) (g : GD) (h0 : Nat) (h1 : Nat) (h2 : Nat) (fn0 : Nat → Int32) (h3 : Nat) (h4 : Nat) (fn1 : Nat → Int32) (sz : Nat) : Met l yX2_first wsX2_first ({ frames := 2, cells := 0, slots := 0, locals := 42 }) (va_Pc [.ref h0, .int 262] (PW g [(h1, .inl (gI g, 6, .inl fn0)), (h0, .inr (2, [.ref h3, .int 0, .int 0, .ref h2, .ref h1, .ref h4])), (h2, .inl (gI g, 6, .inl fn1))] sz)) (va_Qi (fun (r : Int32) (_ : Unit) => True) (BW g (va_A [(h1, .inl (gI g, 6, .inl fn0)), (h0, .inr (2, [.ref h3, .int 0, .int 0, .ref h2, .ref h1, .ref h4])), (h2, .inl (gI g, 6, .inl fn1))] sz) (fun _ : Unit => [(h1, .inl (gI g, 6, .inl fn0)), (h0, .inr (2, [.ref h3, .int 0, .int 0, .ref h2, .ref h1, .ref h4])), (h2, .inl (gI g, 6, .inl fn1))])) (va_A [(h1, .inl (gI g, 6, .inl fn0)), (h0, .inr (2, [.ref h3, .int 0, .int 0, .ref h2, .ref h1, .ref h4])), (h2, .inl (gI g, 6, .inl fn1))] sz)) 0 0 (va_A [(h1, .inl (gI g, 6, .inl fn0)), (h0, .inr (2, [.ref h3, .int 0, .int 0, .ref h2, .ref h1, .ref h4])), (h2, .inl (gI g, 6, .inl fn1))] sz) := by
  refine met_i RX2 (by decide) rfl rfl (Nat.le_of_ble_eq_true rfl) [(0, .ref h0), (1, .int 262)] rfl ?_
  intro p e s m args below meth c A Q C hnm Rt
  have hiX2 : ∀ w ∈ wsX20, w ∈ wsX2_first := fun w h => List.mem_cons_of_mem _ (List.mem_append_right _ (h))
  refine r_aload_n 0 0 C dX2_first_0 rfl ?_
  refine r_iload_n 1 1 C dX2_first_1 rfl ?_
  refine r_callVi 2 C dX2_first_2 [] [(h0, .inr (2, [.ref h3, .int 0, .int 0, .ref h2, .ref h1, .ref h4])), (h2, .inl (gI g, 6, .inl fn1))] [(h1, .inl (gI g, 6, .inl fn0))] (fun sz => c90_X2_isTold l g h0 h2 h3 h1 h4 fn1 sz) gX2_first_X2_isTold rfl ⟨rfl, rfl⟩ 1 (by decide) ⟨Nat.le_of_ble_eq_true rfl, Nat.le_of_ble_eq_true rfl⟩ 1 rfl rfl [1, 2] [0] rfl rfl (by decide) (by decide) (by decide) rfl rfl (Nat.le_of_ble_eq_true rfl) ⟨Nat.le_of_ble_eq_true rfl, Nat.le_of_ble_eq_true rfl⟩ (fun r1 _ w2 => ?_)
  refine r_ws [(h1, .inl (gI g, 6, .inl fn0)), (h0, .inr (2, [.ref h3, .int 0, .int 0, .ref h2, .ref h1, .ref h4])), (h2, .inl (gI g, 6, .inl fn1))] rfl ?_
  rcases w2 with rfl | w2
  · skip
    refine r_if_eq_t 5 20 C dX2_first_5 (by decide) (by decide) ?_
    refine r_iconst 20 0 C dX2_first_20 (by decide) ?_
    exact r_iret 21 Rt dX2_first_21 () trivial [0, 1, 2] (by decide) rfl (Nat.le_of_ble_eq_true rfl) (Nat.le_of_ble_eq_true rfl)
  obtain rfl := w2
  refine r_if_eq_f 5 20 C dX2_first_5 (by decide) (by decide) ?_
  refine r_aload_n 8 0 C dX2_first_8 rfl ?_
  refine r_get 9 C dX2_first_9 (k := 4) 1 rfl rfl hiX2 (by decide) rfl (mg 1 rfl) (Or.inl rfl) rfl ?_
  refine r_iload_n 12 1 C dX2_first_12 rfl ?_
  refine r_callSi 13 C dX2_first_13 [.ref h1] [] [(h1, .inl (gI g, 6, .inl fn0)), (h0, .inr (2, [.ref h3, .int 0, .int 0, .ref h2, .ref h1, .ref h4])), (h2, .inl (gI g, 6, .inl fn1))] (fun sz => c88_X2_slotOf l g  sz) gX2_first_X2_slotOf rfl ⟨rfl, rfl⟩ 1 (by decide) ⟨Nat.le_of_ble_eq_true rfl, Nat.le_of_ble_eq_true rfl⟩ [] [0, 1, 2] rfl rfl (by decide) (by decide) (by decide) rfl rfl (Nat.le_of_ble_eq_true rfl) ⟨Nat.le_of_ble_eq_true rfl, Nat.le_of_ble_eq_true rfl⟩ (fun r3 _ w4 => ?_)
  refine r_ws [(h1, .inl (gI g, 6, .inl fn0)), (h0, .inr (2, [.ref h3, .int 0, .int 0, .ref h2, .ref h1, .ref h4])), (h2, .inl (gI g, 6, .inl fn1))] rfl ?_
  have w4 : r3 = 2 := w4
  subst w4
  obtain ⟨z5, ez5⟩ : ∃ z_9, fn0 (Int32.toNatClampNeg 2) = z_9 := ⟨_, rfl⟩
  refine r_iald 16 z5 C dX2_first_16 0 rfl (vin (by decide)) ez5 ?_
  refine r_goto 17 21 C dX2_first_17 (by decide) ?_
  exact r_iret 21 Rt dX2_first_21 () trivial [0, 1, 2] (by decide) rfl (Nat.le_of_ble_eq_true rfl) (Nat.le_of_ble_eq_true rfl)
set_option maxHeartbeats 4000000 in
set_option maxRecDepth 100000 in
theorem c92_X2_fits (l : Launch) (g : GD) (h0 : Nat) (h1 : Nat) (h2 : Nat) (h3 : Nat) (h4 : Nat) (fn0 : Nat → Int32) (sz : Nat) : Met l yX2_fits wsX2_fits ({ frames := 1, cells := 0, slots := 0, locals := 20 }) (va_Pc [.ref h0, .int 17, .int 1] (PW g [(h0, .inr (2, [.ref h2, .int 0, .int 0, .ref h1, .ref h3, .ref h4])), (h1, .inl (gI g, 6, .inl fn0))] sz)) (va_Qi (fun (r : Int32) (_ : Unit) => (r = 1) ∨ (r = 0) ∨ (r = 1)) (BW g (va_A [(h0, .inr (2, [.ref h2, .int 0, .int 0, .ref h1, .ref h3, .ref h4])), (h1, .inl (gI g, 6, .inl fn0))] sz) (fun _ : Unit => [(h0, .inr (2, [.ref h2, .int 0, .int 0, .ref h1, .ref h3, .ref h4])), (h1, .inl (gI g, 6, .inl fn0))])) (va_A [(h0, .inr (2, [.ref h2, .int 0, .int 0, .ref h1, .ref h3, .ref h4])), (h1, .inl (gI g, 6, .inl fn0))] sz)) 0 0 (va_A [(h0, .inr (2, [.ref h2, .int 0, .int 0, .ref h1, .ref h3, .ref h4])), (h1, .inl (gI g, 6, .inl fn0))] sz) := by
  refine met_z RX2 (by decide) rfl rfl (Nat.le_of_ble_eq_true rfl) [(0, .ref h0), (1, .int 17), (2, .int 1)] rfl ?_
  intro p e s m args below meth c A Q C hnm Rt
  have hiX2 : ∀ w ∈ wsX20, w ∈ wsX2_fits := fun w h => List.mem_cons_of_mem _ (List.mem_append_right _ (h))
  refine r_iload_n 0 1 C dX2_fits_0 rfl ?_
  refine r_callSi 1 C dX2_fits_1 [] [] [(h0, .inr (2, [.ref h2, .int 0, .int 0, .ref h1, .ref h3, .ref h4])), (h1, .inl (gI g, 6, .inl fn0))] (fun sz => c84_X2_slotOf l g  sz) gX2_fits_X2_slotOf rfl ⟨rfl, rfl⟩ 1 (by decide) ⟨Nat.le_of_ble_eq_true rfl, Nat.le_of_ble_eq_true rfl⟩ [] [0, 1] rfl rfl (by decide) (by decide) (by decide) rfl rfl (Nat.le_of_ble_eq_true rfl) ⟨Nat.le_of_ble_eq_true rfl, Nat.le_of_ble_eq_true rfl⟩ (fun r1 _ w2 => ?_)
  refine r_ws [(h0, .inr (2, [.ref h2, .int 0, .int 0, .ref h1, .ref h3, .ref h4])), (h1, .inl (gI g, 6, .inl fn0))] rfl ?_
  have w2 : r1 = 0 := w2
  subst w2
  refine r_istore_n 4 C dX2_fits_4 [(3, .int 0), (0, .ref h0), (1, .int 17), (2, .int 1)] (by decide) rfl ?_
  refine r_iload_n 5 0 C dX2_fits_5 rfl ?_
  refine r_iconst 6 (-1) C dX2_fits_6 (by decide) ?_
  refine r_icmp_eq_f 7 30 C dX2_fits_7 (by decide) (by decide) ?_
  refine r_aload_n 10 1 C dX2_fits_10 rfl ?_
  refine r_get 11 C dX2_fits_11 (k := 3) 0 rfl rfl hiX2 (by decide) rfl (mg 1 rfl) (Or.inl rfl) rfl ?_
  refine r_iload_n 14 0 C dX2_fits_14 rfl ?_
  obtain ⟨z3, ez3⟩ : ∃ z_9, fn0 (Int32.toNatClampNeg 0) = z_9 := ⟨_, rfl⟩
  refine r_iald 15 z3 C dX2_fits_15 1 rfl (vin (by decide)) ez3 ?_
  refine r_iconst 16 (-1) C dX2_fits_16 (by decide) ?_
  refine r_icmp_eq 17 30 C dX2_fits_17 (by decide) (fun c4 => ?_) (fun c4 => ?_)
  · skip
    have k5 : (Int32.toInt z3) = (-1) := (fa_eq z3 (-1)).mp c4
    refine r_iconst 30 1 C dX2_fits_30 (by decide) ?_
    refine r_goto 31 35 C dX2_fits_31 (by decide) ?_
    exact r_zret 35 Rt dX2_fits_35 (by decide) () (Or.inl rfl) [0, 1] (by decide) rfl (Nat.le_of_ble_eq_true rfl) (Nat.le_of_ble_eq_true rfl)
  · skip
    have k6 : ¬ ((Int32.toInt z3) = (-1)) := fun h_9 => c4 ((fa_eq z3 (-1)).mpr h_9)
    refine r_aload_n 20 1 C dX2_fits_20 rfl ?_
    refine r_get 21 C dX2_fits_21 (k := 3) 0 rfl rfl hiX2 (by decide) rfl (mg 1 rfl) (Or.inl rfl) rfl ?_
    refine r_iload_n 24 0 C dX2_fits_24 rfl ?_
    obtain ⟨z7, ez7⟩ : ∃ z_9, fn0 (Int32.toNatClampNeg 0) = z_9 := ⟨_, rfl⟩
    refine r_iald 25 z7 C dX2_fits_25 1 rfl (vin (by decide)) ez7 ?_
    refine r_iload_n 26 3 C dX2_fits_26 rfl ?_
    refine r_icmp_ne 27 34 C dX2_fits_27 (by decide) (fun c8 => ?_) (fun c8 => ?_)
    · skip
      have k9 : ¬ ((Int32.toInt z7) = 1) := fun h_9 => c8 ((fa_eq z7 1).mpr h_9)
      refine r_iconst 34 0 C dX2_fits_34 (by decide) ?_
      exact r_zret 35 Rt dX2_fits_35 (by decide) () (Or.inr (Or.inl rfl)) [0, 1] (by decide) rfl (Nat.le_of_ble_eq_true rfl) (Nat.le_of_ble_eq_true rfl)
    · skip
      have k10 : (Int32.toInt z7) = 1 := (fa_eq z7 1).mp c8
      refine r_iconst 30 1 C dX2_fits_30 (by decide) ?_
      refine r_goto 31 35 C dX2_fits_31 (by decide) ?_
      exact r_zret 35 Rt dX2_fits_35 (by decide) () (Or.inr (Or.inr rfl)) [0, 1] (by decide) rfl (Nat.le_of_ble_eq_true rfl) (Nat.le_of_ble_eq_true rfl)
set_option maxHeartbeats 4000000 in
set_option maxRecDepth 100000 in
theorem c93_X1_takeTop (l : Launch) (g : GD) (h0 : Nat) (h1 : Nat) (h2 : Nat) (h3 : Nat) (h4 : Nat) (h5 : Nat) (fn0 : Nat → Int32) (h6 : Nat) (h7 : Nat) (sz : Nat) : Met l yX1_takeTop wsX1_takeTop ({ frames := 3, cells := 0, slots := 0, locals := 68 }) (va_Pc [.ref h0, .long 0, .long (-1)] (PW g [(h1, .inr (2, [.ref h4, .int 0, .int 0, .ref h2, .ref h3, .ref h5])), (h2, .inl (gI g, 6, .inl fn0)), (h3, .inl (gI g, 6, .inl fn0)), (h0, .inr (1, [.ref h1, .ref h6, .ref h7, .int 1, .long (-1), .long 9223372036854775807, .int 0, .int 0, .long 0, .long 0]))] sz)) (va_Qv (fun (_ : (Nat → Int32)) => True) (BW g (va_A [(h1, .inr (2, [.ref h4, .int 0, .int 0, .ref h2, .ref h3, .ref h5])), (h2, .inl (gI g, 6, .inl fn0)), (h3, .inl (gI g, 6, .inl fn0)), (h0, .inr (1, [.ref h1, .ref h6, .ref h7, .int 1, .long (-1), .long 9223372036854775807, .int 0, .int 0, .long 0, .long 0]))] sz) (fun u : (Nat → Int32) => [(h1, .inr (2, [.ref h4, .int 0, .int 0, .ref h2, .ref h3, .ref h5])), (h2, .inl (gI g, 6, .inl u)), (h3, .inl (gI g, 6, .inl fn0)), (h0, .inr (1, [.ref h1, .ref h6, .ref h7, .int 1, .long 0, .long 9223372036854775807, .int 0, .int 0, .long 0, .long 0]))])) (va_A [(h1, .inr (2, [.ref h4, .int 0, .int 0, .ref h2, .ref h3, .ref h5])), (h2, .inl (gI g, 6, .inl fn0)), (h3, .inl (gI g, 6, .inl fn0)), (h0, .inr (1, [.ref h1, .ref h6, .ref h7, .int 1, .long (-1), .long 9223372036854775807, .int 0, .int 0, .long 0, .long 0]))] sz)) 0 0 (va_A [(h1, .inr (2, [.ref h4, .int 0, .int 0, .ref h2, .ref h3, .ref h5])), (h2, .inl (gI g, 6, .inl fn0)), (h3, .inl (gI g, 6, .inl fn0)), (h0, .inr (1, [.ref h1, .ref h6, .ref h7, .int 1, .long (-1), .long 9223372036854775807, .int 0, .int 0, .long 0, .long 0]))] sz) := by
  refine met_v RX1 (by decide) rfl rfl (Nat.le_of_ble_eq_true rfl) [(0, .ref h0), (1, .long 0), (3, .long (-1))] rfl ?_
  intro p e s m args below meth c A Q C hnm Rt
  have hiX1 : ∀ w ∈ wsX10, w ∈ wsX1_takeTop := fun w h => List.mem_cons_of_mem _ (List.mem_append_left _ (List.mem_append_left _ (List.mem_append_right _ (h))))
  refine r_aload_n 0 0 C dX1_takeTop_0 rfl ?_
  refine r_lload_n 1 1 C dX1_takeTop_1 rfl ?_
  refine r_lload_n 2 2 C dX1_takeTop_2 rfl ?_
  refine r_callVv 3 C dX1_takeTop_3 [] [(h1, .inr (2, [.ref h4, .int 0, .int 0, .ref h2, .ref h3, .ref h5])), (h2, .inl (gI g, 6, .inl fn0)), (h0, .inr (1, [.ref h1, .ref h6, .ref h7, .int 1, .long (-1), .long 9223372036854775807, .int 0, .int 0, .long 0, .long 0]))] [(h3, .inl (gI g, 6, .inl fn0))] (fun sz => c83_X1_takeDict l g h0 h1 h2 h4 h3 h5 fn0 h6 h7 sz) gX1_takeTop_X1_takeDict rfl ⟨rfl, rfl⟩ 2 (by decide) ⟨Nat.le_of_ble_eq_true rfl, Nat.le_of_ble_eq_true rfl⟩ 3 rfl rfl [0, 1, 3] [2] rfl rfl (by decide) (by decide) (by decide) rfl rfl (Nat.le_of_ble_eq_true rfl) ⟨Nat.le_of_ble_eq_true rfl, Nat.le_of_ble_eq_true rfl⟩ (fun  f1 w2 => ?_)
  refine r_ws [(h3, .inl (gI g, 6, .inl fn0)), (h1, .inr (2, [.ref h4, .int 0, .int 0, .ref h2, .ref h3, .ref h5])), (h2, .inl (gI g, 6, .inl f1)), (h0, .inr (1, [.ref h1, .ref h6, .ref h7, .int 1, .long 0, .long 9223372036854775807, .int 0, .int 0, .long 0, .long 0]))] rfl ?_
  refine r_aload_n 6 0 C dX1_takeTop_6 rfl ?_
  refine r_aload_n 7 0 C dX1_takeTop_7 rfl ?_
  refine r_get 8 C dX1_takeTop_8 (k := 0) 3 rfl rfl hiX1 (by decide) rfl (mg 1 rfl) (Or.inl rfl) rfl ?_
  refine r_bipush 11 17 C dX1_takeTop_11 (by decide) ?_
  refine r_callVi 13 C dX1_takeTop_13 [.ref h0] [(h1, .inr (2, [.ref h4, .int 0, .int 0, .ref h2, .ref h3, .ref h5])), (h2, .inl (gI g, 6, .inl f1))] [(h3, .inl (gI g, 6, .inl fn0)), (h0, .inr (1, [.ref h1, .ref h6, .ref h7, .int 1, .long 0, .long 9223372036854775807, .int 0, .int 0, .long 0, .long 0]))] (fun sz => c85_X2_isTold l g h1 h2 h4 h3 h5 f1 sz) gX1_takeTop_X2_isTold rfl ⟨rfl, rfl⟩ 1 (by decide) ⟨Nat.le_of_ble_eq_true rfl, Nat.le_of_ble_eq_true rfl⟩ 1 rfl rfl [1, 2] [0, 3] rfl rfl (by decide) (by decide) (by decide) rfl rfl (Nat.le_of_ble_eq_true rfl) ⟨Nat.le_of_ble_eq_true rfl, Nat.le_of_ble_eq_true rfl⟩ (fun r3 _ w4 => ?_)
  refine r_ws [(h3, .inl (gI g, 6, .inl fn0)), (h0, .inr (1, [.ref h1, .ref h6, .ref h7, .int 1, .long 0, .long 9223372036854775807, .int 0, .int 0, .long 0, .long 0])), (h1, .inr (2, [.ref h4, .int 0, .int 0, .ref h2, .ref h3, .ref h5])), (h2, .inl (gI g, 6, .inl f1))] rfl ?_
  rcases w4 with rfl | w4
  · skip
    refine r_if_eq_t 16 36 C dX1_takeTop_16 (by decide) (by decide) ?_
    refine r_iconst 36 0 C dX1_takeTop_36 (by decide) ?_
    refine r_callVv 37 C dX1_takeTop_37 [] [(h0, .inr (1, [.ref h1, .ref h6, .ref h7, .int 1, .long 0, .long 9223372036854775807, .int 0, .int 0, .long 0, .long 0]))] [(h3, .inl (gI g, 6, .inl fn0)), (h1, .inr (2, [.ref h4, .int 0, .int 0, .ref h2, .ref h3, .ref h5])), (h2, .inl (gI g, 6, .inl f1))] (fun sz => c69_X1_want l g h0 h1 h6 h7 sz) gX1_takeTop_X1_want rfl ⟨rfl, rfl⟩ 1 (by decide) ⟨Nat.le_of_ble_eq_true rfl, Nat.le_of_ble_eq_true rfl⟩ 1 rfl rfl [1] [0, 2, 3] rfl rfl (by decide) (by decide) (by decide) rfl rfl (Nat.le_of_ble_eq_true rfl) ⟨Nat.le_of_ble_eq_true rfl, Nat.le_of_ble_eq_true rfl⟩ (fun  _ w5 => ?_)
    refine r_ws [(h3, .inl (gI g, 6, .inl fn0)), (h1, .inr (2, [.ref h4, .int 0, .int 0, .ref h2, .ref h3, .ref h5])), (h2, .inl (gI g, 6, .inl f1)), (h0, .inr (1, [.ref h1, .ref h6, .ref h7, .int 1, .long 0, .long 9223372036854775807, .int 0, .int 0, .long 0, .long 0]))] rfl ?_
    refine r_aload_n 40 0 C dX1_takeTop_40 rfl ?_
    refine r_aload_n 41 0 C dX1_takeTop_41 rfl ?_
    refine r_get 42 C dX1_takeTop_42 (k := 0) 3 rfl rfl hiX1 (by decide) rfl (mg 1 rfl) (Or.inl rfl) rfl ?_
    refine r_bipush 45 18 C dX1_takeTop_45 (by decide) ?_
    refine r_iconst 47 2 C dX1_takeTop_47 (by decide) ?_
    refine r_callVi 48 C dX1_takeTop_48 [.ref h0] [(h1, .inr (2, [.ref h4, .int 0, .int 0, .ref h2, .ref h3, .ref h5])), (h2, .inl (gI g, 6, .inl f1))] [(h3, .inl (gI g, 6, .inl fn0)), (h0, .inr (1, [.ref h1, .ref h6, .ref h7, .int 1, .long 0, .long 9223372036854775807, .int 0, .int 0, .long 0, .long 0]))] (fun sz => c87_X2_fits l g h1 h2 h4 h3 h5 f1 sz) gX1_takeTop_X2_fits rfl ⟨rfl, rfl⟩ 2 (by decide) ⟨Nat.le_of_ble_eq_true rfl, Nat.le_of_ble_eq_true rfl⟩ 1 rfl rfl [1, 2] [0, 3] rfl rfl (by decide) (by decide) (by decide) rfl rfl (Nat.le_of_ble_eq_true rfl) ⟨Nat.le_of_ble_eq_true rfl, Nat.le_of_ble_eq_true rfl⟩ (fun r6 _ w7 => ?_)
    refine r_ws [(h3, .inl (gI g, 6, .inl fn0)), (h0, .inr (1, [.ref h1, .ref h6, .ref h7, .int 1, .long 0, .long 9223372036854775807, .int 0, .int 0, .long 0, .long 0])), (h1, .inr (2, [.ref h4, .int 0, .int 0, .ref h2, .ref h3, .ref h5])), (h2, .inl (gI g, 6, .inl f1))] rfl ?_
    rcases w7 with rfl | w7
    · skip
      refine r_callVv 51 C dX1_takeTop_51 [] [] [(h3, .inl (gI g, 6, .inl fn0)), (h0, .inr (1, [.ref h1, .ref h6, .ref h7, .int 1, .long 0, .long 9223372036854775807, .int 0, .int 0, .long 0, .long 0])), (h1, .inr (2, [.ref h4, .int 0, .int 0, .ref h2, .ref h3, .ref h5])), (h2, .inl (gI g, 6, .inl f1))] (fun sz => c77_X1_want l g h0 sz) gX1_takeTop_X1_want rfl ⟨rfl, rfl⟩ 1 (by decide) ⟨Nat.le_of_ble_eq_true rfl, Nat.le_of_ble_eq_true rfl⟩ 1 rfl rfl [] [0, 1, 2, 3] rfl rfl (by decide) (by decide) (by decide) rfl rfl (Nat.le_of_ble_eq_true rfl) ⟨Nat.le_of_ble_eq_true rfl, Nat.le_of_ble_eq_true rfl⟩ (fun  _ w8 => ?_)
      refine r_ws [(h3, .inl (gI g, 6, .inl fn0)), (h0, .inr (1, [.ref h1, .ref h6, .ref h7, .int 1, .long 0, .long 9223372036854775807, .int 0, .int 0, .long 0, .long 0])), (h1, .inr (2, [.ref h4, .int 0, .int 0, .ref h2, .ref h3, .ref h5])), (h2, .inl (gI g, 6, .inl f1))] rfl ?_
      refine r_aload_n 54 0 C dX1_takeTop_54 rfl ?_
      refine r_aload_n 55 0 C dX1_takeTop_55 rfl ?_
      refine r_get 56 C dX1_takeTop_56 (k := 0) 1 rfl rfl hiX1 (by decide) rfl (mg 1 rfl) (Or.inl rfl) rfl ?_
      refine r_sipush 59 262 C dX1_takeTop_59 (by decide) ?_
      refine r_iconst 62 1 C dX1_takeTop_62 (by decide) ?_
      refine r_callVi 63 C dX1_takeTop_63 [.ref h0] [(h1, .inr (2, [.ref h4, .int 0, .int 0, .ref h2, .ref h3, .ref h5])), (h2, .inl (gI g, 6, .inl f1))] [(h3, .inl (gI g, 6, .inl fn0)), (h0, .inr (1, [.ref h1, .ref h6, .ref h7, .int 1, .long 0, .long 9223372036854775807, .int 0, .int 0, .long 0, .long 0]))] (fun sz => c89_X2_fits l g h1 h2 h4 h3 h5 f1 sz) gX1_takeTop_X2_fits rfl ⟨rfl, rfl⟩ 2 (by decide) ⟨Nat.le_of_ble_eq_true rfl, Nat.le_of_ble_eq_true rfl⟩ 2 rfl rfl [2, 3] [0, 1] rfl rfl (by decide) (by decide) (by decide) rfl rfl (Nat.le_of_ble_eq_true rfl) ⟨Nat.le_of_ble_eq_true rfl, Nat.le_of_ble_eq_true rfl⟩ (fun r9 _ w10 => ?_)
      refine r_ws [(h3, .inl (gI g, 6, .inl fn0)), (h0, .inr (1, [.ref h1, .ref h6, .ref h7, .int 1, .long 0, .long 9223372036854775807, .int 0, .int 0, .long 0, .long 0])), (h1, .inr (2, [.ref h4, .int 0, .int 0, .ref h2, .ref h3, .ref h5])), (h2, .inl (gI g, 6, .inl f1))] rfl ?_
      rcases w10 with rfl | w10
      · skip
        refine r_callVv 66 C dX1_takeTop_66 [] [] [(h3, .inl (gI g, 6, .inl fn0)), (h0, .inr (1, [.ref h1, .ref h6, .ref h7, .int 1, .long 0, .long 9223372036854775807, .int 0, .int 0, .long 0, .long 0])), (h1, .inr (2, [.ref h4, .int 0, .int 0, .ref h2, .ref h3, .ref h5])), (h2, .inl (gI g, 6, .inl f1))] (fun sz => c77_X1_want l g h0 sz) gX1_takeTop_X1_want rfl ⟨rfl, rfl⟩ 1 (by decide) ⟨Nat.le_of_ble_eq_true rfl, Nat.le_of_ble_eq_true rfl⟩ 1 rfl rfl [] [0, 1, 2, 3] rfl rfl (by decide) (by decide) (by decide) rfl rfl (Nat.le_of_ble_eq_true rfl) ⟨Nat.le_of_ble_eq_true rfl, Nat.le_of_ble_eq_true rfl⟩ (fun  _ w11 => ?_)
        refine r_ws [(h3, .inl (gI g, 6, .inl fn0)), (h0, .inr (1, [.ref h1, .ref h6, .ref h7, .int 1, .long 0, .long 9223372036854775807, .int 0, .int 0, .long 0, .long 0])), (h1, .inr (2, [.ref h4, .int 0, .int 0, .ref h2, .ref h3, .ref h5])), (h2, .inl (gI g, 6, .inl f1))] rfl ?_
        refine r_aload_n 69 0 C dX1_takeTop_69 rfl ?_
        refine r_aload_n 70 0 C dX1_takeTop_70 rfl ?_
        refine r_get 71 C dX1_takeTop_71 (k := 0) 1 rfl rfl hiX1 (by decide) rfl (mg 1 rfl) (Or.inl rfl) rfl ?_
        refine r_sipush 74 262 C dX1_takeTop_74 (by decide) ?_
        refine r_callVi 77 C dX1_takeTop_77 [.ref h0] [(h1, .inr (2, [.ref h4, .int 0, .int 0, .ref h2, .ref h3, .ref h5])), (h2, .inl (gI g, 6, .inl f1))] [(h3, .inl (gI g, 6, .inl fn0)), (h0, .inr (1, [.ref h1, .ref h6, .ref h7, .int 1, .long 0, .long 9223372036854775807, .int 0, .int 0, .long 0, .long 0]))] (fun sz => c90_X2_isTold l g h1 h2 h4 h3 h5 f1 sz) gX1_takeTop_X2_isTold rfl ⟨rfl, rfl⟩ 1 (by decide) ⟨Nat.le_of_ble_eq_true rfl, Nat.le_of_ble_eq_true rfl⟩ 2 rfl rfl [2, 3] [0, 1] rfl rfl (by decide) (by decide) (by decide) rfl rfl (Nat.le_of_ble_eq_true rfl) ⟨Nat.le_of_ble_eq_true rfl, Nat.le_of_ble_eq_true rfl⟩ (fun r12 _ w13 => ?_)
        refine r_ws [(h3, .inl (gI g, 6, .inl fn0)), (h0, .inr (1, [.ref h1, .ref h6, .ref h7, .int 1, .long 0, .long 9223372036854775807, .int 0, .int 0, .long 0, .long 0])), (h1, .inr (2, [.ref h4, .int 0, .int 0, .ref h2, .ref h3, .ref h5])), (h2, .inl (gI g, 6, .inl f1))] rfl ?_
        rcases w13 with rfl | w13
        · skip
          refine r_if_eq_t 80 97 C dX1_takeTop_80 (by decide) (by decide) ?_
          refine r_iconst 97 1 C dX1_takeTop_97 (by decide) ?_
          refine r_goto 98 102 C dX1_takeTop_98 (by decide) ?_
          refine r_callVv 102 C dX1_takeTop_102 [] [] [(h3, .inl (gI g, 6, .inl fn0)), (h0, .inr (1, [.ref h1, .ref h6, .ref h7, .int 1, .long 0, .long 9223372036854775807, .int 0, .int 0, .long 0, .long 0])), (h1, .inr (2, [.ref h4, .int 0, .int 0, .ref h2, .ref h3, .ref h5])), (h2, .inl (gI g, 6, .inl f1))] (fun sz => c77_X1_want l g h0 sz) gX1_takeTop_X1_want rfl ⟨rfl, rfl⟩ 1 (by decide) ⟨Nat.le_of_ble_eq_true rfl, Nat.le_of_ble_eq_true rfl⟩ 1 rfl rfl [] [0, 1, 2, 3] rfl rfl (by decide) (by decide) (by decide) rfl rfl (Nat.le_of_ble_eq_true rfl) ⟨Nat.le_of_ble_eq_true rfl, Nat.le_of_ble_eq_true rfl⟩ (fun  _ w14 => ?_)
          refine r_ws [(h3, .inl (gI g, 6, .inl fn0)), (h0, .inr (1, [.ref h1, .ref h6, .ref h7, .int 1, .long 0, .long 9223372036854775807, .int 0, .int 0, .long 0, .long 0])), (h1, .inr (2, [.ref h4, .int 0, .int 0, .ref h2, .ref h3, .ref h5])), (h2, .inl (gI g, 6, .inl f1))] rfl ?_
          exact r_vret 105 Rt dX1_takeTop_105 f1 trivial [2, 3, 0, 1] (by decide) rfl (Nat.le_of_ble_eq_true rfl) (Nat.le_of_ble_eq_true rfl)
        obtain rfl := w13
        refine r_if_eq_f 80 97 C dX1_takeTop_80 (by decide) (by decide) ?_
        refine r_aload_n 83 0 C dX1_takeTop_83 rfl ?_
        refine r_get 84 C dX1_takeTop_84 (k := 0) 1 rfl rfl hiX1 (by decide) rfl (mg 1 rfl) (Or.inl rfl) rfl ?_
        refine r_sipush 87 262 C dX1_takeTop_87 (by decide) ?_
        refine r_callVi 90 C dX1_takeTop_90 [.ref h0] [(h3, .inl (gI g, 6, .inl fn0)), (h1, .inr (2, [.ref h4, .int 0, .int 0, .ref h2, .ref h3, .ref h5])), (h2, .inl (gI g, 6, .inl f1))] [(h0, .inr (1, [.ref h1, .ref h6, .ref h7, .int 1, .long 0, .long 9223372036854775807, .int 0, .int 0, .long 0, .long 0]))] (fun sz => c91_X2_first l g h1 h3 h2 fn0 h4 h5 f1 sz) gX1_takeTop_X2_first rfl ⟨rfl, rfl⟩ 1 (by decide) ⟨Nat.le_of_ble_eq_true rfl, Nat.le_of_ble_eq_true rfl⟩ 2 rfl rfl [0, 2, 3] [1] rfl rfl (by decide) (by decide) (by decide) rfl rfl (Nat.le_of_ble_eq_true rfl) ⟨Nat.le_of_ble_eq_true rfl, Nat.le_of_ble_eq_true rfl⟩ (fun r15 _ w16 => ?_)
        refine r_ws [(h0, .inr (1, [.ref h1, .ref h6, .ref h7, .int 1, .long 0, .long 9223372036854775807, .int 0, .int 0, .long 0, .long 0])), (h3, .inl (gI g, 6, .inl fn0)), (h1, .inr (2, [.ref h4, .int 0, .int 0, .ref h2, .ref h3, .ref h5])), (h2, .inl (gI g, 6, .inl f1))] rfl ?_
        refine r_iconst 93 2 C dX1_takeTop_93 (by decide) ?_
        refine r_icmp_ne 94 101 C dX1_takeTop_94 (by decide) (fun c17 => ?_) (fun c17 => ?_)
        · skip
          have k18 : ¬ ((Int32.toInt r15) = 2) := fun h_9 => c17 ((fa_eq r15 2).mpr h_9)
          refine r_iconst 101 0 C dX1_takeTop_101 (by decide) ?_
          refine r_callVv 102 C dX1_takeTop_102 [] [(h0, .inr (1, [.ref h1, .ref h6, .ref h7, .int 1, .long 0, .long 9223372036854775807, .int 0, .int 0, .long 0, .long 0]))] [(h3, .inl (gI g, 6, .inl fn0)), (h1, .inr (2, [.ref h4, .int 0, .int 0, .ref h2, .ref h3, .ref h5])), (h2, .inl (gI g, 6, .inl f1))] (fun sz => c69_X1_want l g h0 h1 h6 h7 sz) gX1_takeTop_X1_want rfl ⟨rfl, rfl⟩ 1 (by decide) ⟨Nat.le_of_ble_eq_true rfl, Nat.le_of_ble_eq_true rfl⟩ 0 rfl rfl [0] [1, 2, 3] rfl rfl (by decide) (by decide) (by decide) rfl rfl (Nat.le_of_ble_eq_true rfl) ⟨Nat.le_of_ble_eq_true rfl, Nat.le_of_ble_eq_true rfl⟩ (fun  _ w19 => ?_)
          refine r_ws [(h3, .inl (gI g, 6, .inl fn0)), (h1, .inr (2, [.ref h4, .int 0, .int 0, .ref h2, .ref h3, .ref h5])), (h2, .inl (gI g, 6, .inl f1)), (h0, .inr (1, [.ref h1, .ref h6, .ref h7, .int 1, .long 0, .long 9223372036854775807, .int 0, .int 0, .long 0, .long 0]))] rfl ?_
          exact r_vret 105 Rt dX1_takeTop_105 f1 trivial [1, 2, 0, 3] (by decide) rfl (Nat.le_of_ble_eq_true rfl) (Nat.le_of_ble_eq_true rfl)
        · skip
          have k20 : (Int32.toInt r15) = 2 := (fa_eq r15 2).mp c17
          refine r_iconst 97 1 C dX1_takeTop_97 (by decide) ?_
          refine r_goto 98 102 C dX1_takeTop_98 (by decide) ?_
          refine r_callVv 102 C dX1_takeTop_102 [] [] [(h0, .inr (1, [.ref h1, .ref h6, .ref h7, .int 1, .long 0, .long 9223372036854775807, .int 0, .int 0, .long 0, .long 0])), (h3, .inl (gI g, 6, .inl fn0)), (h1, .inr (2, [.ref h4, .int 0, .int 0, .ref h2, .ref h3, .ref h5])), (h2, .inl (gI g, 6, .inl f1))] (fun sz => c77_X1_want l g h0 sz) gX1_takeTop_X1_want rfl ⟨rfl, rfl⟩ 1 (by decide) ⟨Nat.le_of_ble_eq_true rfl, Nat.le_of_ble_eq_true rfl⟩ 0 rfl rfl [] [0, 1, 2, 3] rfl rfl (by decide) (by decide) (by decide) rfl rfl (Nat.le_of_ble_eq_true rfl) ⟨Nat.le_of_ble_eq_true rfl, Nat.le_of_ble_eq_true rfl⟩ (fun  _ w21 => ?_)
          refine r_ws [(h0, .inr (1, [.ref h1, .ref h6, .ref h7, .int 1, .long 0, .long 9223372036854775807, .int 0, .int 0, .long 0, .long 0])), (h3, .inl (gI g, 6, .inl fn0)), (h1, .inr (2, [.ref h4, .int 0, .int 0, .ref h2, .ref h3, .ref h5])), (h2, .inl (gI g, 6, .inl f1))] rfl ?_
          exact r_vret 105 Rt dX1_takeTop_105 f1 trivial [2, 3, 1, 0] (by decide) rfl (Nat.le_of_ble_eq_true rfl) (Nat.le_of_ble_eq_true rfl)
      rcases w10 with rfl | w10
      · skip
        refine r_callVv 66 C dX1_takeTop_66 [] [(h0, .inr (1, [.ref h1, .ref h6, .ref h7, .int 1, .long 0, .long 9223372036854775807, .int 0, .int 0, .long 0, .long 0]))] [(h3, .inl (gI g, 6, .inl fn0)), (h1, .inr (2, [.ref h4, .int 0, .int 0, .ref h2, .ref h3, .ref h5])), (h2, .inl (gI g, 6, .inl f1))] (fun sz => c69_X1_want l g h0 h1 h6 h7 sz) gX1_takeTop_X1_want rfl ⟨rfl, rfl⟩ 1 (by decide) ⟨Nat.le_of_ble_eq_true rfl, Nat.le_of_ble_eq_true rfl⟩ 1 rfl rfl [1] [0, 2, 3] rfl rfl (by decide) (by decide) (by decide) rfl rfl (Nat.le_of_ble_eq_true rfl) ⟨Nat.le_of_ble_eq_true rfl, Nat.le_of_ble_eq_true rfl⟩ (fun  _ w22 => ?_)
        refine r_ws [(h3, .inl (gI g, 6, .inl fn0)), (h1, .inr (2, [.ref h4, .int 0, .int 0, .ref h2, .ref h3, .ref h5])), (h2, .inl (gI g, 6, .inl f1)), (h0, .inr (1, [.ref h1, .ref h6, .ref h7, .int 1, .long 0, .long 9223372036854775807, .int 0, .int 0, .long 0, .long 0]))] rfl ?_
        refine r_aload_n 69 0 C dX1_takeTop_69 rfl ?_
        refine r_aload_n 70 0 C dX1_takeTop_70 rfl ?_
        refine r_get 71 C dX1_takeTop_71 (k := 0) 3 rfl rfl hiX1 (by decide) rfl (mg 1 rfl) (Or.inl rfl) rfl ?_
        refine r_sipush 74 262 C dX1_takeTop_74 (by decide) ?_
        refine r_callVi 77 C dX1_takeTop_77 [.ref h0] [(h1, .inr (2, [.ref h4, .int 0, .int 0, .ref h2, .ref h3, .ref h5])), (h2, .inl (gI g, 6, .inl f1))] [(h3, .inl (gI g, 6, .inl fn0)), (h0, .inr (1, [.ref h1, .ref h6, .ref h7, .int 1, .long 0, .long 9223372036854775807, .int 0, .int 0, .long 0, .long 0]))] (fun sz => c90_X2_isTold l g h1 h2 h4 h3 h5 f1 sz) gX1_takeTop_X2_isTold rfl ⟨rfl, rfl⟩ 1 (by decide) ⟨Nat.le_of_ble_eq_true rfl, Nat.le_of_ble_eq_true rfl⟩ 1 rfl rfl [1, 2] [0, 3] rfl rfl (by decide) (by decide) (by decide) rfl rfl (Nat.le_of_ble_eq_true rfl) ⟨Nat.le_of_ble_eq_true rfl, Nat.le_of_ble_eq_true rfl⟩ (fun r23 _ w24 => ?_)
        refine r_ws [(h3, .inl (gI g, 6, .inl fn0)), (h0, .inr (1, [.ref h1, .ref h6, .ref h7, .int 1, .long 0, .long 9223372036854775807, .int 0, .int 0, .long 0, .long 0])), (h1, .inr (2, [.ref h4, .int 0, .int 0, .ref h2, .ref h3, .ref h5])), (h2, .inl (gI g, 6, .inl f1))] rfl ?_
        rcases w24 with rfl | w24
        · skip
          refine r_if_eq_t 80 97 C dX1_takeTop_80 (by decide) (by decide) ?_
          refine r_iconst 97 1 C dX1_takeTop_97 (by decide) ?_
          refine r_goto 98 102 C dX1_takeTop_98 (by decide) ?_
          refine r_callVv 102 C dX1_takeTop_102 [] [] [(h3, .inl (gI g, 6, .inl fn0)), (h0, .inr (1, [.ref h1, .ref h6, .ref h7, .int 1, .long 0, .long 9223372036854775807, .int 0, .int 0, .long 0, .long 0])), (h1, .inr (2, [.ref h4, .int 0, .int 0, .ref h2, .ref h3, .ref h5])), (h2, .inl (gI g, 6, .inl f1))] (fun sz => c77_X1_want l g h0 sz) gX1_takeTop_X1_want rfl ⟨rfl, rfl⟩ 1 (by decide) ⟨Nat.le_of_ble_eq_true rfl, Nat.le_of_ble_eq_true rfl⟩ 1 rfl rfl [] [0, 1, 2, 3] rfl rfl (by decide) (by decide) (by decide) rfl rfl (Nat.le_of_ble_eq_true rfl) ⟨Nat.le_of_ble_eq_true rfl, Nat.le_of_ble_eq_true rfl⟩ (fun  _ w25 => ?_)
          refine r_ws [(h3, .inl (gI g, 6, .inl fn0)), (h0, .inr (1, [.ref h1, .ref h6, .ref h7, .int 1, .long 0, .long 9223372036854775807, .int 0, .int 0, .long 0, .long 0])), (h1, .inr (2, [.ref h4, .int 0, .int 0, .ref h2, .ref h3, .ref h5])), (h2, .inl (gI g, 6, .inl f1))] rfl ?_
          exact r_vret 105 Rt dX1_takeTop_105 f1 trivial [2, 3, 0, 1] (by decide) rfl (Nat.le_of_ble_eq_true rfl) (Nat.le_of_ble_eq_true rfl)
        obtain rfl := w24
        refine r_if_eq_f 80 97 C dX1_takeTop_80 (by decide) (by decide) ?_
        refine r_aload_n 83 0 C dX1_takeTop_83 rfl ?_
        refine r_get 84 C dX1_takeTop_84 (k := 0) 1 rfl rfl hiX1 (by decide) rfl (mg 1 rfl) (Or.inl rfl) rfl ?_
        refine r_sipush 87 262 C dX1_takeTop_87 (by decide) ?_
        refine r_callVi 90 C dX1_takeTop_90 [.ref h0] [(h3, .inl (gI g, 6, .inl fn0)), (h1, .inr (2, [.ref h4, .int 0, .int 0, .ref h2, .ref h3, .ref h5])), (h2, .inl (gI g, 6, .inl f1))] [(h0, .inr (1, [.ref h1, .ref h6, .ref h7, .int 1, .long 0, .long 9223372036854775807, .int 0, .int 0, .long 0, .long 0]))] (fun sz => c91_X2_first l g h1 h3 h2 fn0 h4 h5 f1 sz) gX1_takeTop_X2_first rfl ⟨rfl, rfl⟩ 1 (by decide) ⟨Nat.le_of_ble_eq_true rfl, Nat.le_of_ble_eq_true rfl⟩ 2 rfl rfl [0, 2, 3] [1] rfl rfl (by decide) (by decide) (by decide) rfl rfl (Nat.le_of_ble_eq_true rfl) ⟨Nat.le_of_ble_eq_true rfl, Nat.le_of_ble_eq_true rfl⟩ (fun r26 _ w27 => ?_)
        refine r_ws [(h0, .inr (1, [.ref h1, .ref h6, .ref h7, .int 1, .long 0, .long 9223372036854775807, .int 0, .int 0, .long 0, .long 0])), (h3, .inl (gI g, 6, .inl fn0)), (h1, .inr (2, [.ref h4, .int 0, .int 0, .ref h2, .ref h3, .ref h5])), (h2, .inl (gI g, 6, .inl f1))] rfl ?_
        refine r_iconst 93 2 C dX1_takeTop_93 (by decide) ?_
        refine r_icmp_ne 94 101 C dX1_takeTop_94 (by decide) (fun c28 => ?_) (fun c28 => ?_)
        · skip
          have k29 : ¬ ((Int32.toInt r26) = 2) := fun h_9 => c28 ((fa_eq r26 2).mpr h_9)
          refine r_iconst 101 0 C dX1_takeTop_101 (by decide) ?_
          refine r_callVv 102 C dX1_takeTop_102 [] [(h0, .inr (1, [.ref h1, .ref h6, .ref h7, .int 1, .long 0, .long 9223372036854775807, .int 0, .int 0, .long 0, .long 0]))] [(h3, .inl (gI g, 6, .inl fn0)), (h1, .inr (2, [.ref h4, .int 0, .int 0, .ref h2, .ref h3, .ref h5])), (h2, .inl (gI g, 6, .inl f1))] (fun sz => c69_X1_want l g h0 h1 h6 h7 sz) gX1_takeTop_X1_want rfl ⟨rfl, rfl⟩ 1 (by decide) ⟨Nat.le_of_ble_eq_true rfl, Nat.le_of_ble_eq_true rfl⟩ 0 rfl rfl [0] [1, 2, 3] rfl rfl (by decide) (by decide) (by decide) rfl rfl (Nat.le_of_ble_eq_true rfl) ⟨Nat.le_of_ble_eq_true rfl, Nat.le_of_ble_eq_true rfl⟩ (fun  _ w30 => ?_)
          refine r_ws [(h3, .inl (gI g, 6, .inl fn0)), (h1, .inr (2, [.ref h4, .int 0, .int 0, .ref h2, .ref h3, .ref h5])), (h2, .inl (gI g, 6, .inl f1)), (h0, .inr (1, [.ref h1, .ref h6, .ref h7, .int 1, .long 0, .long 9223372036854775807, .int 0, .int 0, .long 0, .long 0]))] rfl ?_
          exact r_vret 105 Rt dX1_takeTop_105 f1 trivial [1, 2, 0, 3] (by decide) rfl (Nat.le_of_ble_eq_true rfl) (Nat.le_of_ble_eq_true rfl)
        · skip
          have k31 : (Int32.toInt r26) = 2 := (fa_eq r26 2).mp c28
          refine r_iconst 97 1 C dX1_takeTop_97 (by decide) ?_
          refine r_goto 98 102 C dX1_takeTop_98 (by decide) ?_
          refine r_callVv 102 C dX1_takeTop_102 [] [] [(h0, .inr (1, [.ref h1, .ref h6, .ref h7, .int 1, .long 0, .long 9223372036854775807, .int 0, .int 0, .long 0, .long 0])), (h3, .inl (gI g, 6, .inl fn0)), (h1, .inr (2, [.ref h4, .int 0, .int 0, .ref h2, .ref h3, .ref h5])), (h2, .inl (gI g, 6, .inl f1))] (fun sz => c77_X1_want l g h0 sz) gX1_takeTop_X1_want rfl ⟨rfl, rfl⟩ 1 (by decide) ⟨Nat.le_of_ble_eq_true rfl, Nat.le_of_ble_eq_true rfl⟩ 0 rfl rfl [] [0, 1, 2, 3] rfl rfl (by decide) (by decide) (by decide) rfl rfl (Nat.le_of_ble_eq_true rfl) ⟨Nat.le_of_ble_eq_true rfl, Nat.le_of_ble_eq_true rfl⟩ (fun  _ w32 => ?_)
          refine r_ws [(h0, .inr (1, [.ref h1, .ref h6, .ref h7, .int 1, .long 0, .long 9223372036854775807, .int 0, .int 0, .long 0, .long 0])), (h3, .inl (gI g, 6, .inl fn0)), (h1, .inr (2, [.ref h4, .int 0, .int 0, .ref h2, .ref h3, .ref h5])), (h2, .inl (gI g, 6, .inl f1))] rfl ?_
          exact r_vret 105 Rt dX1_takeTop_105 f1 trivial [2, 3, 1, 0] (by decide) rfl (Nat.le_of_ble_eq_true rfl) (Nat.le_of_ble_eq_true rfl)
      obtain rfl := w10
      refine r_callVv 66 C dX1_takeTop_66 [] [] [(h3, .inl (gI g, 6, .inl fn0)), (h0, .inr (1, [.ref h1, .ref h6, .ref h7, .int 1, .long 0, .long 9223372036854775807, .int 0, .int 0, .long 0, .long 0])), (h1, .inr (2, [.ref h4, .int 0, .int 0, .ref h2, .ref h3, .ref h5])), (h2, .inl (gI g, 6, .inl f1))] (fun sz => c77_X1_want l g h0 sz) gX1_takeTop_X1_want rfl ⟨rfl, rfl⟩ 1 (by decide) ⟨Nat.le_of_ble_eq_true rfl, Nat.le_of_ble_eq_true rfl⟩ 1 rfl rfl [] [0, 1, 2, 3] rfl rfl (by decide) (by decide) (by decide) rfl rfl (Nat.le_of_ble_eq_true rfl) ⟨Nat.le_of_ble_eq_true rfl, Nat.le_of_ble_eq_true rfl⟩ (fun  _ w33 => ?_)
      refine r_ws [(h3, .inl (gI g, 6, .inl fn0)), (h0, .inr (1, [.ref h1, .ref h6, .ref h7, .int 1, .long 0, .long 9223372036854775807, .int 0, .int 0, .long 0, .long 0])), (h1, .inr (2, [.ref h4, .int 0, .int 0, .ref h2, .ref h3, .ref h5])), (h2, .inl (gI g, 6, .inl f1))] rfl ?_
      refine r_aload_n 69 0 C dX1_takeTop_69 rfl ?_
      refine r_aload_n 70 0 C dX1_takeTop_70 rfl ?_
      refine r_get 71 C dX1_takeTop_71 (k := 0) 1 rfl rfl hiX1 (by decide) rfl (mg 1 rfl) (Or.inl rfl) rfl ?_
      refine r_sipush 74 262 C dX1_takeTop_74 (by decide) ?_
      refine r_callVi 77 C dX1_takeTop_77 [.ref h0] [(h1, .inr (2, [.ref h4, .int 0, .int 0, .ref h2, .ref h3, .ref h5])), (h2, .inl (gI g, 6, .inl f1))] [(h3, .inl (gI g, 6, .inl fn0)), (h0, .inr (1, [.ref h1, .ref h6, .ref h7, .int 1, .long 0, .long 9223372036854775807, .int 0, .int 0, .long 0, .long 0]))] (fun sz => c90_X2_isTold l g h1 h2 h4 h3 h5 f1 sz) gX1_takeTop_X2_isTold rfl ⟨rfl, rfl⟩ 1 (by decide) ⟨Nat.le_of_ble_eq_true rfl, Nat.le_of_ble_eq_true rfl⟩ 2 rfl rfl [2, 3] [0, 1] rfl rfl (by decide) (by decide) (by decide) rfl rfl (Nat.le_of_ble_eq_true rfl) ⟨Nat.le_of_ble_eq_true rfl, Nat.le_of_ble_eq_true rfl⟩ (fun r34 _ w35 => ?_)
      refine r_ws [(h3, .inl (gI g, 6, .inl fn0)), (h0, .inr (1, [.ref h1, .ref h6, .ref h7, .int 1, .long 0, .long 9223372036854775807, .int 0, .int 0, .long 0, .long 0])), (h1, .inr (2, [.ref h4, .int 0, .int 0, .ref h2, .ref h3, .ref h5])), (h2, .inl (gI g, 6, .inl f1))] rfl ?_
      rcases w35 with rfl | w35
      · skip
        refine r_if_eq_t 80 97 C dX1_takeTop_80 (by decide) (by decide) ?_
        refine r_iconst 97 1 C dX1_takeTop_97 (by decide) ?_
        refine r_goto 98 102 C dX1_takeTop_98 (by decide) ?_
        refine r_callVv 102 C dX1_takeTop_102 [] [] [(h3, .inl (gI g, 6, .inl fn0)), (h0, .inr (1, [.ref h1, .ref h6, .ref h7, .int 1, .long 0, .long 9223372036854775807, .int 0, .int 0, .long 0, .long 0])), (h1, .inr (2, [.ref h4, .int 0, .int 0, .ref h2, .ref h3, .ref h5])), (h2, .inl (gI g, 6, .inl f1))] (fun sz => c77_X1_want l g h0 sz) gX1_takeTop_X1_want rfl ⟨rfl, rfl⟩ 1 (by decide) ⟨Nat.le_of_ble_eq_true rfl, Nat.le_of_ble_eq_true rfl⟩ 1 rfl rfl [] [0, 1, 2, 3] rfl rfl (by decide) (by decide) (by decide) rfl rfl (Nat.le_of_ble_eq_true rfl) ⟨Nat.le_of_ble_eq_true rfl, Nat.le_of_ble_eq_true rfl⟩ (fun  _ w36 => ?_)
        refine r_ws [(h3, .inl (gI g, 6, .inl fn0)), (h0, .inr (1, [.ref h1, .ref h6, .ref h7, .int 1, .long 0, .long 9223372036854775807, .int 0, .int 0, .long 0, .long 0])), (h1, .inr (2, [.ref h4, .int 0, .int 0, .ref h2, .ref h3, .ref h5])), (h2, .inl (gI g, 6, .inl f1))] rfl ?_
        exact r_vret 105 Rt dX1_takeTop_105 f1 trivial [2, 3, 0, 1] (by decide) rfl (Nat.le_of_ble_eq_true rfl) (Nat.le_of_ble_eq_true rfl)
      obtain rfl := w35
      refine r_if_eq_f 80 97 C dX1_takeTop_80 (by decide) (by decide) ?_
      refine r_aload_n 83 0 C dX1_takeTop_83 rfl ?_
      refine r_get 84 C dX1_takeTop_84 (k := 0) 1 rfl rfl hiX1 (by decide) rfl (mg 1 rfl) (Or.inl rfl) rfl ?_
      refine r_sipush 87 262 C dX1_takeTop_87 (by decide) ?_
      refine r_callVi 90 C dX1_takeTop_90 [.ref h0] [(h3, .inl (gI g, 6, .inl fn0)), (h1, .inr (2, [.ref h4, .int 0, .int 0, .ref h2, .ref h3, .ref h5])), (h2, .inl (gI g, 6, .inl f1))] [(h0, .inr (1, [.ref h1, .ref h6, .ref h7, .int 1, .long 0, .long 9223372036854775807, .int 0, .int 0, .long 0, .long 0]))] (fun sz => c91_X2_first l g h1 h3 h2 fn0 h4 h5 f1 sz) gX1_takeTop_X2_first rfl ⟨rfl, rfl⟩ 1 (by decide) ⟨Nat.le_of_ble_eq_true rfl, Nat.le_of_ble_eq_true rfl⟩ 2 rfl rfl [0, 2, 3] [1] rfl rfl (by decide) (by decide) (by decide) rfl rfl (Nat.le_of_ble_eq_true rfl) ⟨Nat.le_of_ble_eq_true rfl, Nat.le_of_ble_eq_true rfl⟩ (fun r37 _ w38 => ?_)
      refine r_ws [(h0, .inr (1, [.ref h1, .ref h6, .ref h7, .int 1, .long 0, .long 9223372036854775807, .int 0, .int 0, .long 0, .long 0])), (h3, .inl (gI g, 6, .inl fn0)), (h1, .inr (2, [.ref h4, .int 0, .int 0, .ref h2, .ref h3, .ref h5])), (h2, .inl (gI g, 6, .inl f1))] rfl ?_
      refine r_iconst 93 2 C dX1_takeTop_93 (by decide) ?_
      refine r_icmp_ne 94 101 C dX1_takeTop_94 (by decide) (fun c39 => ?_) (fun c39 => ?_)
      · skip
        have k40 : ¬ ((Int32.toInt r37) = 2) := fun h_9 => c39 ((fa_eq r37 2).mpr h_9)
        refine r_iconst 101 0 C dX1_takeTop_101 (by decide) ?_
        refine r_callVv 102 C dX1_takeTop_102 [] [(h0, .inr (1, [.ref h1, .ref h6, .ref h7, .int 1, .long 0, .long 9223372036854775807, .int 0, .int 0, .long 0, .long 0]))] [(h3, .inl (gI g, 6, .inl fn0)), (h1, .inr (2, [.ref h4, .int 0, .int 0, .ref h2, .ref h3, .ref h5])), (h2, .inl (gI g, 6, .inl f1))] (fun sz => c69_X1_want l g h0 h1 h6 h7 sz) gX1_takeTop_X1_want rfl ⟨rfl, rfl⟩ 1 (by decide) ⟨Nat.le_of_ble_eq_true rfl, Nat.le_of_ble_eq_true rfl⟩ 0 rfl rfl [0] [1, 2, 3] rfl rfl (by decide) (by decide) (by decide) rfl rfl (Nat.le_of_ble_eq_true rfl) ⟨Nat.le_of_ble_eq_true rfl, Nat.le_of_ble_eq_true rfl⟩ (fun  _ w41 => ?_)
        refine r_ws [(h3, .inl (gI g, 6, .inl fn0)), (h1, .inr (2, [.ref h4, .int 0, .int 0, .ref h2, .ref h3, .ref h5])), (h2, .inl (gI g, 6, .inl f1)), (h0, .inr (1, [.ref h1, .ref h6, .ref h7, .int 1, .long 0, .long 9223372036854775807, .int 0, .int 0, .long 0, .long 0]))] rfl ?_
        exact r_vret 105 Rt dX1_takeTop_105 f1 trivial [1, 2, 0, 3] (by decide) rfl (Nat.le_of_ble_eq_true rfl) (Nat.le_of_ble_eq_true rfl)
      · skip
        have k42 : (Int32.toInt r37) = 2 := (fa_eq r37 2).mp c39
        refine r_iconst 97 1 C dX1_takeTop_97 (by decide) ?_
        refine r_goto 98 102 C dX1_takeTop_98 (by decide) ?_
        refine r_callVv 102 C dX1_takeTop_102 [] [] [(h0, .inr (1, [.ref h1, .ref h6, .ref h7, .int 1, .long 0, .long 9223372036854775807, .int 0, .int 0, .long 0, .long 0])), (h3, .inl (gI g, 6, .inl fn0)), (h1, .inr (2, [.ref h4, .int 0, .int 0, .ref h2, .ref h3, .ref h5])), (h2, .inl (gI g, 6, .inl f1))] (fun sz => c77_X1_want l g h0 sz) gX1_takeTop_X1_want rfl ⟨rfl, rfl⟩ 1 (by decide) ⟨Nat.le_of_ble_eq_true rfl, Nat.le_of_ble_eq_true rfl⟩ 0 rfl rfl [] [0, 1, 2, 3] rfl rfl (by decide) (by decide) (by decide) rfl rfl (Nat.le_of_ble_eq_true rfl) ⟨Nat.le_of_ble_eq_true rfl, Nat.le_of_ble_eq_true rfl⟩ (fun  _ w43 => ?_)
        refine r_ws [(h0, .inr (1, [.ref h1, .ref h6, .ref h7, .int 1, .long 0, .long 9223372036854775807, .int 0, .int 0, .long 0, .long 0])), (h3, .inl (gI g, 6, .inl fn0)), (h1, .inr (2, [.ref h4, .int 0, .int 0, .ref h2, .ref h3, .ref h5])), (h2, .inl (gI g, 6, .inl f1))] rfl ?_
        exact r_vret 105 Rt dX1_takeTop_105 f1 trivial [2, 3, 1, 0] (by decide) rfl (Nat.le_of_ble_eq_true rfl) (Nat.le_of_ble_eq_true rfl)
    rcases w7 with rfl | w7
    · skip
      refine r_callVv 51 C dX1_takeTop_51 [] [(h0, .inr (1, [.ref h1, .ref h6, .ref h7, .int 1, .long 0, .long 9223372036854775807, .int 0, .int 0, .long 0, .long 0]))] [(h3, .inl (gI g, 6, .inl fn0)), (h1, .inr (2, [.ref h4, .int 0, .int 0, .ref h2, .ref h3, .ref h5])), (h2, .inl (gI g, 6, .inl f1))] (fun sz => c69_X1_want l g h0 h1 h6 h7 sz) gX1_takeTop_X1_want rfl ⟨rfl, rfl⟩ 1 (by decide) ⟨Nat.le_of_ble_eq_true rfl, Nat.le_of_ble_eq_true rfl⟩ 1 rfl rfl [1] [0, 2, 3] rfl rfl (by decide) (by decide) (by decide) rfl rfl (Nat.le_of_ble_eq_true rfl) ⟨Nat.le_of_ble_eq_true rfl, Nat.le_of_ble_eq_true rfl⟩ (fun  _ w44 => ?_)
      refine r_ws [(h3, .inl (gI g, 6, .inl fn0)), (h1, .inr (2, [.ref h4, .int 0, .int 0, .ref h2, .ref h3, .ref h5])), (h2, .inl (gI g, 6, .inl f1)), (h0, .inr (1, [.ref h1, .ref h6, .ref h7, .int 1, .long 0, .long 9223372036854775807, .int 0, .int 0, .long 0, .long 0]))] rfl ?_
      refine r_aload_n 54 0 C dX1_takeTop_54 rfl ?_
      refine r_aload_n 55 0 C dX1_takeTop_55 rfl ?_
      refine r_get 56 C dX1_takeTop_56 (k := 0) 3 rfl rfl hiX1 (by decide) rfl (mg 1 rfl) (Or.inl rfl) rfl ?_
      refine r_sipush 59 262 C dX1_takeTop_59 (by decide) ?_
      refine r_iconst 62 1 C dX1_takeTop_62 (by decide) ?_
      refine r_callVi 63 C dX1_takeTop_63 [.ref h0] [(h1, .inr (2, [.ref h4, .int 0, .int 0, .ref h2, .ref h3, .ref h5])), (h2, .inl (gI g, 6, .inl f1))] [(h3, .inl (gI g, 6, .inl fn0)), (h0, .inr (1, [.ref h1, .ref h6, .ref h7, .int 1, .long 0, .long 9223372036854775807, .int 0, .int 0, .long 0, .long 0]))] (fun sz => c89_X2_fits l g h1 h2 h4 h3 h5 f1 sz) gX1_takeTop_X2_fits rfl ⟨rfl, rfl⟩ 2 (by decide) ⟨Nat.le_of_ble_eq_true rfl, Nat.le_of_ble_eq_true rfl⟩ 1 rfl rfl [1, 2] [0, 3] rfl rfl (by decide) (by decide) (by decide) rfl rfl (Nat.le_of_ble_eq_true rfl) ⟨Nat.le_of_ble_eq_true rfl, Nat.le_of_ble_eq_true rfl⟩ (fun r45 _ w46 => ?_)
      refine r_ws [(h3, .inl (gI g, 6, .inl fn0)), (h0, .inr (1, [.ref h1, .ref h6, .ref h7, .int 1, .long 0, .long 9223372036854775807, .int 0, .int 0, .long 0, .long 0])), (h1, .inr (2, [.ref h4, .int 0, .int 0, .ref h2, .ref h3, .ref h5])), (h2, .inl (gI g, 6, .inl f1))] rfl ?_
      rcases w46 with rfl | w46
      · skip
        refine r_callVv 66 C dX1_takeTop_66 [] [] [(h3, .inl (gI g, 6, .inl fn0)), (h0, .inr (1, [.ref h1, .ref h6, .ref h7, .int 1, .long 0, .long 9223372036854775807, .int 0, .int 0, .long 0, .long 0])), (h1, .inr (2, [.ref h4, .int 0, .int 0, .ref h2, .ref h3, .ref h5])), (h2, .inl (gI g, 6, .inl f1))] (fun sz => c77_X1_want l g h0 sz) gX1_takeTop_X1_want rfl ⟨rfl, rfl⟩ 1 (by decide) ⟨Nat.le_of_ble_eq_true rfl, Nat.le_of_ble_eq_true rfl⟩ 1 rfl rfl [] [0, 1, 2, 3] rfl rfl (by decide) (by decide) (by decide) rfl rfl (Nat.le_of_ble_eq_true rfl) ⟨Nat.le_of_ble_eq_true rfl, Nat.le_of_ble_eq_true rfl⟩ (fun  _ w47 => ?_)
        refine r_ws [(h3, .inl (gI g, 6, .inl fn0)), (h0, .inr (1, [.ref h1, .ref h6, .ref h7, .int 1, .long 0, .long 9223372036854775807, .int 0, .int 0, .long 0, .long 0])), (h1, .inr (2, [.ref h4, .int 0, .int 0, .ref h2, .ref h3, .ref h5])), (h2, .inl (gI g, 6, .inl f1))] rfl ?_
        refine r_aload_n 69 0 C dX1_takeTop_69 rfl ?_
        refine r_aload_n 70 0 C dX1_takeTop_70 rfl ?_
        refine r_get 71 C dX1_takeTop_71 (k := 0) 1 rfl rfl hiX1 (by decide) rfl (mg 1 rfl) (Or.inl rfl) rfl ?_
        refine r_sipush 74 262 C dX1_takeTop_74 (by decide) ?_
        refine r_callVi 77 C dX1_takeTop_77 [.ref h0] [(h1, .inr (2, [.ref h4, .int 0, .int 0, .ref h2, .ref h3, .ref h5])), (h2, .inl (gI g, 6, .inl f1))] [(h3, .inl (gI g, 6, .inl fn0)), (h0, .inr (1, [.ref h1, .ref h6, .ref h7, .int 1, .long 0, .long 9223372036854775807, .int 0, .int 0, .long 0, .long 0]))] (fun sz => c90_X2_isTold l g h1 h2 h4 h3 h5 f1 sz) gX1_takeTop_X2_isTold rfl ⟨rfl, rfl⟩ 1 (by decide) ⟨Nat.le_of_ble_eq_true rfl, Nat.le_of_ble_eq_true rfl⟩ 2 rfl rfl [2, 3] [0, 1] rfl rfl (by decide) (by decide) (by decide) rfl rfl (Nat.le_of_ble_eq_true rfl) ⟨Nat.le_of_ble_eq_true rfl, Nat.le_of_ble_eq_true rfl⟩ (fun r48 _ w49 => ?_)
        refine r_ws [(h3, .inl (gI g, 6, .inl fn0)), (h0, .inr (1, [.ref h1, .ref h6, .ref h7, .int 1, .long 0, .long 9223372036854775807, .int 0, .int 0, .long 0, .long 0])), (h1, .inr (2, [.ref h4, .int 0, .int 0, .ref h2, .ref h3, .ref h5])), (h2, .inl (gI g, 6, .inl f1))] rfl ?_
        rcases w49 with rfl | w49
        · skip
          refine r_if_eq_t 80 97 C dX1_takeTop_80 (by decide) (by decide) ?_
          refine r_iconst 97 1 C dX1_takeTop_97 (by decide) ?_
          refine r_goto 98 102 C dX1_takeTop_98 (by decide) ?_
          refine r_callVv 102 C dX1_takeTop_102 [] [] [(h3, .inl (gI g, 6, .inl fn0)), (h0, .inr (1, [.ref h1, .ref h6, .ref h7, .int 1, .long 0, .long 9223372036854775807, .int 0, .int 0, .long 0, .long 0])), (h1, .inr (2, [.ref h4, .int 0, .int 0, .ref h2, .ref h3, .ref h5])), (h2, .inl (gI g, 6, .inl f1))] (fun sz => c77_X1_want l g h0 sz) gX1_takeTop_X1_want rfl ⟨rfl, rfl⟩ 1 (by decide) ⟨Nat.le_of_ble_eq_true rfl, Nat.le_of_ble_eq_true rfl⟩ 1 rfl rfl [] [0, 1, 2, 3] rfl rfl (by decide) (by decide) (by decide) rfl rfl (Nat.le_of_ble_eq_true rfl) ⟨Nat.le_of_ble_eq_true rfl, Nat.le_of_ble_eq_true rfl⟩ (fun  _ w50 => ?_)
          refine r_ws [(h3, .inl (gI g, 6, .inl fn0)), (h0, .inr (1, [.ref h1, .ref h6, .ref h7, .int 1, .long 0, .long 9223372036854775807, .int 0, .int 0, .long 0, .long 0])), (h1, .inr (2, [.ref h4, .int 0, .int 0, .ref h2, .ref h3, .ref h5])), (h2, .inl (gI g, 6, .inl f1))] rfl ?_
          exact r_vret 105 Rt dX1_takeTop_105 f1 trivial [2, 3, 0, 1] (by decide) rfl (Nat.le_of_ble_eq_true rfl) (Nat.le_of_ble_eq_true rfl)
        obtain rfl := w49
        refine r_if_eq_f 80 97 C dX1_takeTop_80 (by decide) (by decide) ?_
        refine r_aload_n 83 0 C dX1_takeTop_83 rfl ?_
        refine r_get 84 C dX1_takeTop_84 (k := 0) 1 rfl rfl hiX1 (by decide) rfl (mg 1 rfl) (Or.inl rfl) rfl ?_
        refine r_sipush 87 262 C dX1_takeTop_87 (by decide) ?_
        refine r_callVi 90 C dX1_takeTop_90 [.ref h0] [(h3, .inl (gI g, 6, .inl fn0)), (h1, .inr (2, [.ref h4, .int 0, .int 0, .ref h2, .ref h3, .ref h5])), (h2, .inl (gI g, 6, .inl f1))] [(h0, .inr (1, [.ref h1, .ref h6, .ref h7, .int 1, .long 0, .long 9223372036854775807, .int 0, .int 0, .long 0, .long 0]))] (fun sz => c91_X2_first l g h1 h3 h2 fn0 h4 h5 f1 sz) gX1_takeTop_X2_first rfl ⟨rfl, rfl⟩ 1 (by decide) ⟨Nat.le_of_ble_eq_true rfl, Nat.le_of_ble_eq_true rfl⟩ 2 rfl rfl [0, 2, 3] [1] rfl rfl (by decide) (by decide) (by decide) rfl rfl (Nat.le_of_ble_eq_true rfl) ⟨Nat.le_of_ble_eq_true rfl, Nat.le_of_ble_eq_true rfl⟩ (fun r51 _ w52 => ?_)
        refine r_ws [(h0, .inr (1, [.ref h1, .ref h6, .ref h7, .int 1, .long 0, .long 9223372036854775807, .int 0, .int 0, .long 0, .long 0])), (h3, .inl (gI g, 6, .inl fn0)), (h1, .inr (2, [.ref h4, .int 0, .int 0, .ref h2, .ref h3, .ref h5])), (h2, .inl (gI g, 6, .inl f1))] rfl ?_
        refine r_iconst 93 2 C dX1_takeTop_93 (by decide) ?_
        refine r_icmp_ne 94 101 C dX1_takeTop_94 (by decide) (fun c53 => ?_) (fun c53 => ?_)
        · skip
          have k54 : ¬ ((Int32.toInt r51) = 2) := fun h_9 => c53 ((fa_eq r51 2).mpr h_9)
          refine r_iconst 101 0 C dX1_takeTop_101 (by decide) ?_
          refine r_callVv 102 C dX1_takeTop_102 [] [(h0, .inr (1, [.ref h1, .ref h6, .ref h7, .int 1, .long 0, .long 9223372036854775807, .int 0, .int 0, .long 0, .long 0]))] [(h3, .inl (gI g, 6, .inl fn0)), (h1, .inr (2, [.ref h4, .int 0, .int 0, .ref h2, .ref h3, .ref h5])), (h2, .inl (gI g, 6, .inl f1))] (fun sz => c69_X1_want l g h0 h1 h6 h7 sz) gX1_takeTop_X1_want rfl ⟨rfl, rfl⟩ 1 (by decide) ⟨Nat.le_of_ble_eq_true rfl, Nat.le_of_ble_eq_true rfl⟩ 0 rfl rfl [0] [1, 2, 3] rfl rfl (by decide) (by decide) (by decide) rfl rfl (Nat.le_of_ble_eq_true rfl) ⟨Nat.le_of_ble_eq_true rfl, Nat.le_of_ble_eq_true rfl⟩ (fun  _ w55 => ?_)
          refine r_ws [(h3, .inl (gI g, 6, .inl fn0)), (h1, .inr (2, [.ref h4, .int 0, .int 0, .ref h2, .ref h3, .ref h5])), (h2, .inl (gI g, 6, .inl f1)), (h0, .inr (1, [.ref h1, .ref h6, .ref h7, .int 1, .long 0, .long 9223372036854775807, .int 0, .int 0, .long 0, .long 0]))] rfl ?_
          exact r_vret 105 Rt dX1_takeTop_105 f1 trivial [1, 2, 0, 3] (by decide) rfl (Nat.le_of_ble_eq_true rfl) (Nat.le_of_ble_eq_true rfl)
        · skip
          have k56 : (Int32.toInt r51) = 2 := (fa_eq r51 2).mp c53
          refine r_iconst 97 1 C dX1_takeTop_97 (by decide) ?_
          refine r_goto 98 102 C dX1_takeTop_98 (by decide) ?_
          refine r_callVv 102 C dX1_takeTop_102 [] [] [(h0, .inr (1, [.ref h1, .ref h6, .ref h7, .int 1, .long 0, .long 9223372036854775807, .int 0, .int 0, .long 0, .long 0])), (h3, .inl (gI g, 6, .inl fn0)), (h1, .inr (2, [.ref h4, .int 0, .int 0, .ref h2, .ref h3, .ref h5])), (h2, .inl (gI g, 6, .inl f1))] (fun sz => c77_X1_want l g h0 sz) gX1_takeTop_X1_want rfl ⟨rfl, rfl⟩ 1 (by decide) ⟨Nat.le_of_ble_eq_true rfl, Nat.le_of_ble_eq_true rfl⟩ 0 rfl rfl [] [0, 1, 2, 3] rfl rfl (by decide) (by decide) (by decide) rfl rfl (Nat.le_of_ble_eq_true rfl) ⟨Nat.le_of_ble_eq_true rfl, Nat.le_of_ble_eq_true rfl⟩ (fun  _ w57 => ?_)
          refine r_ws [(h0, .inr (1, [.ref h1, .ref h6, .ref h7, .int 1, .long 0, .long 9223372036854775807, .int 0, .int 0, .long 0, .long 0])), (h3, .inl (gI g, 6, .inl fn0)), (h1, .inr (2, [.ref h4, .int 0, .int 0, .ref h2, .ref h3, .ref h5])), (h2, .inl (gI g, 6, .inl f1))] rfl ?_
          exact r_vret 105 Rt dX1_takeTop_105 f1 trivial [2, 3, 1, 0] (by decide) rfl (Nat.le_of_ble_eq_true rfl) (Nat.le_of_ble_eq_true rfl)
      rcases w46 with rfl | w46
      · skip
        refine r_callVv 66 C dX1_takeTop_66 [] [(h0, .inr (1, [.ref h1, .ref h6, .ref h7, .int 1, .long 0, .long 9223372036854775807, .int 0, .int 0, .long 0, .long 0]))] [(h3, .inl (gI g, 6, .inl fn0)), (h1, .inr (2, [.ref h4, .int 0, .int 0, .ref h2, .ref h3, .ref h5])), (h2, .inl (gI g, 6, .inl f1))] (fun sz => c69_X1_want l g h0 h1 h6 h7 sz) gX1_takeTop_X1_want rfl ⟨rfl, rfl⟩ 1 (by decide) ⟨Nat.le_of_ble_eq_true rfl, Nat.le_of_ble_eq_true rfl⟩ 1 rfl rfl [1] [0, 2, 3] rfl rfl (by decide) (by decide) (by decide) rfl rfl (Nat.le_of_ble_eq_true rfl) ⟨Nat.le_of_ble_eq_true rfl, Nat.le_of_ble_eq_true rfl⟩ (fun  _ w58 => ?_)
        refine r_ws [(h3, .inl (gI g, 6, .inl fn0)), (h1, .inr (2, [.ref h4, .int 0, .int 0, .ref h2, .ref h3, .ref h5])), (h2, .inl (gI g, 6, .inl f1)), (h0, .inr (1, [.ref h1, .ref h6, .ref h7, .int 1, .long 0, .long 9223372036854775807, .int 0, .int 0, .long 0, .long 0]))] rfl ?_
        refine r_aload_n 69 0 C dX1_takeTop_69 rfl ?_
        refine r_aload_n 70 0 C dX1_takeTop_70 rfl ?_
        refine r_get 71 C dX1_takeTop_71 (k := 0) 3 rfl rfl hiX1 (by decide) rfl (mg 1 rfl) (Or.inl rfl) rfl ?_
        refine r_sipush 74 262 C dX1_takeTop_74 (by decide) ?_
        refine r_callVi 77 C dX1_takeTop_77 [.ref h0] [(h1, .inr (2, [.ref h4, .int 0, .int 0, .ref h2, .ref h3, .ref h5])), (h2, .inl (gI g, 6, .inl f1))] [(h3, .inl (gI g, 6, .inl fn0)), (h0, .inr (1, [.ref h1, .ref h6, .ref h7, .int 1, .long 0, .long 9223372036854775807, .int 0, .int 0, .long 0, .long 0]))] (fun sz => c90_X2_isTold l g h1 h2 h4 h3 h5 f1 sz) gX1_takeTop_X2_isTold rfl ⟨rfl, rfl⟩ 1 (by decide) ⟨Nat.le_of_ble_eq_true rfl, Nat.le_of_ble_eq_true rfl⟩ 1 rfl rfl [1, 2] [0, 3] rfl rfl (by decide) (by decide) (by decide) rfl rfl (Nat.le_of_ble_eq_true rfl) ⟨Nat.le_of_ble_eq_true rfl, Nat.le_of_ble_eq_true rfl⟩ (fun r59 _ w60 => ?_)
        refine r_ws [(h3, .inl (gI g, 6, .inl fn0)), (h0, .inr (1, [.ref h1, .ref h6, .ref h7, .int 1, .long 0, .long 9223372036854775807, .int 0, .int 0, .long 0, .long 0])), (h1, .inr (2, [.ref h4, .int 0, .int 0, .ref h2, .ref h3, .ref h5])), (h2, .inl (gI g, 6, .inl f1))] rfl ?_
        rcases w60 with rfl | w60
        · skip
          refine r_if_eq_t 80 97 C dX1_takeTop_80 (by decide) (by decide) ?_
          refine r_iconst 97 1 C dX1_takeTop_97 (by decide) ?_
          refine r_goto 98 102 C dX1_takeTop_98 (by decide) ?_
          refine r_callVv 102 C dX1_takeTop_102 [] [] [(h3, .inl (gI g, 6, .inl fn0)), (h0, .inr (1, [.ref h1, .ref h6, .ref h7, .int 1, .long 0, .long 9223372036854775807, .int 0, .int 0, .long 0, .long 0])), (h1, .inr (2, [.ref h4, .int 0, .int 0, .ref h2, .ref h3, .ref h5])), (h2, .inl (gI g, 6, .inl f1))] (fun sz => c77_X1_want l g h0 sz) gX1_takeTop_X1_want rfl ⟨rfl, rfl⟩ 1 (by decide) ⟨Nat.le_of_ble_eq_true rfl, Nat.le_of_ble_eq_true rfl⟩ 1 rfl rfl [] [0, 1, 2, 3] rfl rfl (by decide) (by decide) (by decide) rfl rfl (Nat.le_of_ble_eq_true rfl) ⟨Nat.le_of_ble_eq_true rfl, Nat.le_of_ble_eq_true rfl⟩ (fun  _ w61 => ?_)
          refine r_ws [(h3, .inl (gI g, 6, .inl fn0)), (h0, .inr (1, [.ref h1, .ref h6, .ref h7, .int 1, .long 0, .long 9223372036854775807, .int 0, .int 0, .long 0, .long 0])), (h1, .inr (2, [.ref h4, .int 0, .int 0, .ref h2, .ref h3, .ref h5])), (h2, .inl (gI g, 6, .inl f1))] rfl ?_
          exact r_vret 105 Rt dX1_takeTop_105 f1 trivial [2, 3, 0, 1] (by decide) rfl (Nat.le_of_ble_eq_true rfl) (Nat.le_of_ble_eq_true rfl)
        obtain rfl := w60
        refine r_if_eq_f 80 97 C dX1_takeTop_80 (by decide) (by decide) ?_
        refine r_aload_n 83 0 C dX1_takeTop_83 rfl ?_
        refine r_get 84 C dX1_takeTop_84 (k := 0) 1 rfl rfl hiX1 (by decide) rfl (mg 1 rfl) (Or.inl rfl) rfl ?_
        refine r_sipush 87 262 C dX1_takeTop_87 (by decide) ?_
        refine r_callVi 90 C dX1_takeTop_90 [.ref h0] [(h3, .inl (gI g, 6, .inl fn0)), (h1, .inr (2, [.ref h4, .int 0, .int 0, .ref h2, .ref h3, .ref h5])), (h2, .inl (gI g, 6, .inl f1))] [(h0, .inr (1, [.ref h1, .ref h6, .ref h7, .int 1, .long 0, .long 9223372036854775807, .int 0, .int 0, .long 0, .long 0]))] (fun sz => c91_X2_first l g h1 h3 h2 fn0 h4 h5 f1 sz) gX1_takeTop_X2_first rfl ⟨rfl, rfl⟩ 1 (by decide) ⟨Nat.le_of_ble_eq_true rfl, Nat.le_of_ble_eq_true rfl⟩ 2 rfl rfl [0, 2, 3] [1] rfl rfl (by decide) (by decide) (by decide) rfl rfl (Nat.le_of_ble_eq_true rfl) ⟨Nat.le_of_ble_eq_true rfl, Nat.le_of_ble_eq_true rfl⟩ (fun r62 _ w63 => ?_)
        refine r_ws [(h0, .inr (1, [.ref h1, .ref h6, .ref h7, .int 1, .long 0, .long 9223372036854775807, .int 0, .int 0, .long 0, .long 0])), (h3, .inl (gI g, 6, .inl fn0)), (h1, .inr (2, [.ref h4, .int 0, .int 0, .ref h2, .ref h3, .ref h5])), (h2, .inl (gI g, 6, .inl f1))] rfl ?_
        refine r_iconst 93 2 C dX1_takeTop_93 (by decide) ?_
        refine r_icmp_ne 94 101 C dX1_takeTop_94 (by decide) (fun c64 => ?_) (fun c64 => ?_)
        · skip
          have k65 : ¬ ((Int32.toInt r62) = 2) := fun h_9 => c64 ((fa_eq r62 2).mpr h_9)
          refine r_iconst 101 0 C dX1_takeTop_101 (by decide) ?_
          refine r_callVv 102 C dX1_takeTop_102 [] [(h0, .inr (1, [.ref h1, .ref h6, .ref h7, .int 1, .long 0, .long 9223372036854775807, .int 0, .int 0, .long 0, .long 0]))] [(h3, .inl (gI g, 6, .inl fn0)), (h1, .inr (2, [.ref h4, .int 0, .int 0, .ref h2, .ref h3, .ref h5])), (h2, .inl (gI g, 6, .inl f1))] (fun sz => c69_X1_want l g h0 h1 h6 h7 sz) gX1_takeTop_X1_want rfl ⟨rfl, rfl⟩ 1 (by decide) ⟨Nat.le_of_ble_eq_true rfl, Nat.le_of_ble_eq_true rfl⟩ 0 rfl rfl [0] [1, 2, 3] rfl rfl (by decide) (by decide) (by decide) rfl rfl (Nat.le_of_ble_eq_true rfl) ⟨Nat.le_of_ble_eq_true rfl, Nat.le_of_ble_eq_true rfl⟩ (fun  _ w66 => ?_)
          refine r_ws [(h3, .inl (gI g, 6, .inl fn0)), (h1, .inr (2, [.ref h4, .int 0, .int 0, .ref h2, .ref h3, .ref h5])), (h2, .inl (gI g, 6, .inl f1)), (h0, .inr (1, [.ref h1, .ref h6, .ref h7, .int 1, .long 0, .long 9223372036854775807, .int 0, .int 0, .long 0, .long 0]))] rfl ?_
          exact r_vret 105 Rt dX1_takeTop_105 f1 trivial [1, 2, 0, 3] (by decide) rfl (Nat.le_of_ble_eq_true rfl) (Nat.le_of_ble_eq_true rfl)
        · skip
          have k67 : (Int32.toInt r62) = 2 := (fa_eq r62 2).mp c64
          refine r_iconst 97 1 C dX1_takeTop_97 (by decide) ?_
          refine r_goto 98 102 C dX1_takeTop_98 (by decide) ?_
          refine r_callVv 102 C dX1_takeTop_102 [] [] [(h0, .inr (1, [.ref h1, .ref h6, .ref h7, .int 1, .long 0, .long 9223372036854775807, .int 0, .int 0, .long 0, .long 0])), (h3, .inl (gI g, 6, .inl fn0)), (h1, .inr (2, [.ref h4, .int 0, .int 0, .ref h2, .ref h3, .ref h5])), (h2, .inl (gI g, 6, .inl f1))] (fun sz => c77_X1_want l g h0 sz) gX1_takeTop_X1_want rfl ⟨rfl, rfl⟩ 1 (by decide) ⟨Nat.le_of_ble_eq_true rfl, Nat.le_of_ble_eq_true rfl⟩ 0 rfl rfl [] [0, 1, 2, 3] rfl rfl (by decide) (by decide) (by decide) rfl rfl (Nat.le_of_ble_eq_true rfl) ⟨Nat.le_of_ble_eq_true rfl, Nat.le_of_ble_eq_true rfl⟩ (fun  _ w68 => ?_)
          refine r_ws [(h0, .inr (1, [.ref h1, .ref h6, .ref h7, .int 1, .long 0, .long 9223372036854775807, .int 0, .int 0, .long 0, .long 0])), (h3, .inl (gI g, 6, .inl fn0)), (h1, .inr (2, [.ref h4, .int 0, .int 0, .ref h2, .ref h3, .ref h5])), (h2, .inl (gI g, 6, .inl f1))] rfl ?_
          exact r_vret 105 Rt dX1_takeTop_105 f1 trivial [2, 3, 1, 0] (by decide) rfl (Nat.le_of_ble_eq_true rfl) (Nat.le_of_ble_eq_true rfl)
      obtain rfl := w46
      refine r_callVv 66 C dX1_takeTop_66 [] [] [(h3, .inl (gI g, 6, .inl fn0)), (h0, .inr (1, [.ref h1, .ref h6, .ref h7, .int 1, .long 0, .long 9223372036854775807, .int 0, .int 0, .long 0, .long 0])), (h1, .inr (2, [.ref h4, .int 0, .int 0, .ref h2, .ref h3, .ref h5])), (h2, .inl (gI g, 6, .inl f1))] (fun sz => c77_X1_want l g h0 sz) gX1_takeTop_X1_want rfl ⟨rfl, rfl⟩ 1 (by decide) ⟨Nat.le_of_ble_eq_true rfl, Nat.le_of_ble_eq_true rfl⟩ 1 rfl rfl [] [0, 1, 2, 3] rfl rfl (by decide) (by decide) (by decide) rfl rfl (Nat.le_of_ble_eq_true rfl) ⟨Nat.le_of_ble_eq_true rfl, Nat.le_of_ble_eq_true rfl⟩ (fun  _ w69 => ?_)
      refine r_ws [(h3, .inl (gI g, 6, .inl fn0)), (h0, .inr (1, [.ref h1, .ref h6, .ref h7, .int 1, .long 0, .long 9223372036854775807, .int 0, .int 0, .long 0, .long 0])), (h1, .inr (2, [.ref h4, .int 0, .int 0, .ref h2, .ref h3, .ref h5])), (h2, .inl (gI g, 6, .inl f1))] rfl ?_
      refine r_aload_n 69 0 C dX1_takeTop_69 rfl ?_
      refine r_aload_n 70 0 C dX1_takeTop_70 rfl ?_
      refine r_get 71 C dX1_takeTop_71 (k := 0) 1 rfl rfl hiX1 (by decide) rfl (mg 1 rfl) (Or.inl rfl) rfl ?_
      refine r_sipush 74 262 C dX1_takeTop_74 (by decide) ?_
      refine r_callVi 77 C dX1_takeTop_77 [.ref h0] [(h1, .inr (2, [.ref h4, .int 0, .int 0, .ref h2, .ref h3, .ref h5])), (h2, .inl (gI g, 6, .inl f1))] [(h3, .inl (gI g, 6, .inl fn0)), (h0, .inr (1, [.ref h1, .ref h6, .ref h7, .int 1, .long 0, .long 9223372036854775807, .int 0, .int 0, .long 0, .long 0]))] (fun sz => c90_X2_isTold l g h1 h2 h4 h3 h5 f1 sz) gX1_takeTop_X2_isTold rfl ⟨rfl, rfl⟩ 1 (by decide) ⟨Nat.le_of_ble_eq_true rfl, Nat.le_of_ble_eq_true rfl⟩ 2 rfl rfl [2, 3] [0, 1] rfl rfl (by decide) (by decide) (by decide) rfl rfl (Nat.le_of_ble_eq_true rfl) ⟨Nat.le_of_ble_eq_true rfl, Nat.le_of_ble_eq_true rfl⟩ (fun r70 _ w71 => ?_)
      refine r_ws [(h3, .inl (gI g, 6, .inl fn0)), (h0, .inr (1, [.ref h1, .ref h6, .ref h7, .int 1, .long 0, .long 9223372036854775807, .int 0, .int 0, .long 0, .long 0])), (h1, .inr (2, [.ref h4, .int 0, .int 0, .ref h2, .ref h3, .ref h5])), (h2, .inl (gI g, 6, .inl f1))] rfl ?_
      rcases w71 with rfl | w71
      · skip
        refine r_if_eq_t 80 97 C dX1_takeTop_80 (by decide) (by decide) ?_
        refine r_iconst 97 1 C dX1_takeTop_97 (by decide) ?_
        refine r_goto 98 102 C dX1_takeTop_98 (by decide) ?_
        refine r_callVv 102 C dX1_takeTop_102 [] [] [(h3, .inl (gI g, 6, .inl fn0)), (h0, .inr (1, [.ref h1, .ref h6, .ref h7, .int 1, .long 0, .long 9223372036854775807, .int 0, .int 0, .long 0, .long 0])), (h1, .inr (2, [.ref h4, .int 0, .int 0, .ref h2, .ref h3, .ref h5])), (h2, .inl (gI g, 6, .inl f1))] (fun sz => c77_X1_want l g h0 sz) gX1_takeTop_X1_want rfl ⟨rfl, rfl⟩ 1 (by decide) ⟨Nat.le_of_ble_eq_true rfl, Nat.le_of_ble_eq_true rfl⟩ 1 rfl rfl [] [0, 1, 2, 3] rfl rfl (by decide) (by decide) (by decide) rfl rfl (Nat.le_of_ble_eq_true rfl) ⟨Nat.le_of_ble_eq_true rfl, Nat.le_of_ble_eq_true rfl⟩ (fun  _ w72 => ?_)
        refine r_ws [(h3, .inl (gI g, 6, .inl fn0)), (h0, .inr (1, [.ref h1, .ref h6, .ref h7, .int 1, .long 0, .long 9223372036854775807, .int 0, .int 0, .long 0, .long 0])), (h1, .inr (2, [.ref h4, .int 0, .int 0, .ref h2, .ref h3, .ref h5])), (h2, .inl (gI g, 6, .inl f1))] rfl ?_
        exact r_vret 105 Rt dX1_takeTop_105 f1 trivial [2, 3, 0, 1] (by decide) rfl (Nat.le_of_ble_eq_true rfl) (Nat.le_of_ble_eq_true rfl)
      obtain rfl := w71
      refine r_if_eq_f 80 97 C dX1_takeTop_80 (by decide) (by decide) ?_
      refine r_aload_n 83 0 C dX1_takeTop_83 rfl ?_
      refine r_get 84 C dX1_takeTop_84 (k := 0) 1 rfl rfl hiX1 (by decide) rfl (mg 1 rfl) (Or.inl rfl) rfl ?_
      refine r_sipush 87 262 C dX1_takeTop_87 (by decide) ?_
      refine r_callVi 90 C dX1_takeTop_90 [.ref h0] [(h3, .inl (gI g, 6, .inl fn0)), (h1, .inr (2, [.ref h4, .int 0, .int 0, .ref h2, .ref h3, .ref h5])), (h2, .inl (gI g, 6, .inl f1))] [(h0, .inr (1, [.ref h1, .ref h6, .ref h7, .int 1, .long 0, .long 9223372036854775807, .int 0, .int 0, .long 0, .long 0]))] (fun sz => c91_X2_first l g h1 h3 h2 fn0 h4 h5 f1 sz) gX1_takeTop_X2_first rfl ⟨rfl, rfl⟩ 1 (by decide) ⟨Nat.le_of_ble_eq_true rfl, Nat.le_of_ble_eq_true rfl⟩ 2 rfl rfl [0, 2, 3] [1] rfl rfl (by decide) (by decide) (by decide) rfl rfl (Nat.le_of_ble_eq_true rfl) ⟨Nat.le_of_ble_eq_true rfl, Nat.le_of_ble_eq_true rfl⟩ (fun r73 _ w74 => ?_)
      refine r_ws [(h0, .inr (1, [.ref h1, .ref h6, .ref h7, .int 1, .long 0, .long 9223372036854775807, .int 0, .int 0, .long 0, .long 0])), (h3, .inl (gI g, 6, .inl fn0)), (h1, .inr (2, [.ref h4, .int 0, .int 0, .ref h2, .ref h3, .ref h5])), (h2, .inl (gI g, 6, .inl f1))] rfl ?_
      refine r_iconst 93 2 C dX1_takeTop_93 (by decide) ?_
      refine r_icmp_ne 94 101 C dX1_takeTop_94 (by decide) (fun c75 => ?_) (fun c75 => ?_)
      · skip
        have k76 : ¬ ((Int32.toInt r73) = 2) := fun h_9 => c75 ((fa_eq r73 2).mpr h_9)
        refine r_iconst 101 0 C dX1_takeTop_101 (by decide) ?_
        refine r_callVv 102 C dX1_takeTop_102 [] [(h0, .inr (1, [.ref h1, .ref h6, .ref h7, .int 1, .long 0, .long 9223372036854775807, .int 0, .int 0, .long 0, .long 0]))] [(h3, .inl (gI g, 6, .inl fn0)), (h1, .inr (2, [.ref h4, .int 0, .int 0, .ref h2, .ref h3, .ref h5])), (h2, .inl (gI g, 6, .inl f1))] (fun sz => c69_X1_want l g h0 h1 h6 h7 sz) gX1_takeTop_X1_want rfl ⟨rfl, rfl⟩ 1 (by decide) ⟨Nat.le_of_ble_eq_true rfl, Nat.le_of_ble_eq_true rfl⟩ 0 rfl rfl [0] [1, 2, 3] rfl rfl (by decide) (by decide) (by decide) rfl rfl (Nat.le_of_ble_eq_true rfl) ⟨Nat.le_of_ble_eq_true rfl, Nat.le_of_ble_eq_true rfl⟩ (fun  _ w77 => ?_)
        refine r_ws [(h3, .inl (gI g, 6, .inl fn0)), (h1, .inr (2, [.ref h4, .int 0, .int 0, .ref h2, .ref h3, .ref h5])), (h2, .inl (gI g, 6, .inl f1)), (h0, .inr (1, [.ref h1, .ref h6, .ref h7, .int 1, .long 0, .long 9223372036854775807, .int 0, .int 0, .long 0, .long 0]))] rfl ?_
        exact r_vret 105 Rt dX1_takeTop_105 f1 trivial [1, 2, 0, 3] (by decide) rfl (Nat.le_of_ble_eq_true rfl) (Nat.le_of_ble_eq_true rfl)
      · skip
        have k78 : (Int32.toInt r73) = 2 := (fa_eq r73 2).mp c75
        refine r_iconst 97 1 C dX1_takeTop_97 (by decide) ?_
        refine r_goto 98 102 C dX1_takeTop_98 (by decide) ?_
        refine r_callVv 102 C dX1_takeTop_102 [] [] [(h0, .inr (1, [.ref h1, .ref h6, .ref h7, .int 1, .long 0, .long 9223372036854775807, .int 0, .int 0, .long 0, .long 0])), (h3, .inl (gI g, 6, .inl fn0)), (h1, .inr (2, [.ref h4, .int 0, .int 0, .ref h2, .ref h3, .ref h5])), (h2, .inl (gI g, 6, .inl f1))] (fun sz => c77_X1_want l g h0 sz) gX1_takeTop_X1_want rfl ⟨rfl, rfl⟩ 1 (by decide) ⟨Nat.le_of_ble_eq_true rfl, Nat.le_of_ble_eq_true rfl⟩ 0 rfl rfl [] [0, 1, 2, 3] rfl rfl (by decide) (by decide) (by decide) rfl rfl (Nat.le_of_ble_eq_true rfl) ⟨Nat.le_of_ble_eq_true rfl, Nat.le_of_ble_eq_true rfl⟩ (fun  _ w79 => ?_)
        refine r_ws [(h0, .inr (1, [.ref h1, .ref h6, .ref h7, .int 1, .long 0, .long 9223372036854775807, .int 0, .int 0, .long 0, .long 0])), (h3, .inl (gI g, 6, .inl fn0)), (h1, .inr (2, [.ref h4, .int 0, .int 0, .ref h2, .ref h3, .ref h5])), (h2, .inl (gI g, 6, .inl f1))] rfl ?_
        exact r_vret 105 Rt dX1_takeTop_105 f1 trivial [2, 3, 1, 0] (by decide) rfl (Nat.le_of_ble_eq_true rfl) (Nat.le_of_ble_eq_true rfl)
    obtain rfl := w7
    refine r_callVv 51 C dX1_takeTop_51 [] [] [(h3, .inl (gI g, 6, .inl fn0)), (h0, .inr (1, [.ref h1, .ref h6, .ref h7, .int 1, .long 0, .long 9223372036854775807, .int 0, .int 0, .long 0, .long 0])), (h1, .inr (2, [.ref h4, .int 0, .int 0, .ref h2, .ref h3, .ref h5])), (h2, .inl (gI g, 6, .inl f1))] (fun sz => c77_X1_want l g h0 sz) gX1_takeTop_X1_want rfl ⟨rfl, rfl⟩ 1 (by decide) ⟨Nat.le_of_ble_eq_true rfl, Nat.le_of_ble_eq_true rfl⟩ 1 rfl rfl [] [0, 1, 2, 3] rfl rfl (by decide) (by decide) (by decide) rfl rfl (Nat.le_of_ble_eq_true rfl) ⟨Nat.le_of_ble_eq_true rfl, Nat.le_of_ble_eq_true rfl⟩ (fun  _ w80 => ?_)
    refine r_ws [(h3, .inl (gI g, 6, .inl fn0)), (h0, .inr (1, [.ref h1, .ref h6, .ref h7, .int 1, .long 0, .long 9223372036854775807, .int 0, .int 0, .long 0, .long 0])), (h1, .inr (2, [.ref h4, .int 0, .int 0, .ref h2, .ref h3, .ref h5])), (h2, .inl (gI g, 6, .inl f1))] rfl ?_
    refine r_aload_n 54 0 C dX1_takeTop_54 rfl ?_
    refine r_aload_n 55 0 C dX1_takeTop_55 rfl ?_
    refine r_get 56 C dX1_takeTop_56 (k := 0) 1 rfl rfl hiX1 (by decide) rfl (mg 1 rfl) (Or.inl rfl) rfl ?_
    refine r_sipush 59 262 C dX1_takeTop_59 (by decide) ?_
    refine r_iconst 62 1 C dX1_takeTop_62 (by decide) ?_
    refine r_callVi 63 C dX1_takeTop_63 [.ref h0] [(h1, .inr (2, [.ref h4, .int 0, .int 0, .ref h2, .ref h3, .ref h5])), (h2, .inl (gI g, 6, .inl f1))] [(h3, .inl (gI g, 6, .inl fn0)), (h0, .inr (1, [.ref h1, .ref h6, .ref h7, .int 1, .long 0, .long 9223372036854775807, .int 0, .int 0, .long 0, .long 0]))] (fun sz => c89_X2_fits l g h1 h2 h4 h3 h5 f1 sz) gX1_takeTop_X2_fits rfl ⟨rfl, rfl⟩ 2 (by decide) ⟨Nat.le_of_ble_eq_true rfl, Nat.le_of_ble_eq_true rfl⟩ 2 rfl rfl [2, 3] [0, 1] rfl rfl (by decide) (by decide) (by decide) rfl rfl (Nat.le_of_ble_eq_true rfl) ⟨Nat.le_of_ble_eq_true rfl, Nat.le_of_ble_eq_true rfl⟩ (fun r81 _ w82 => ?_)
    refine r_ws [(h3, .inl (gI g, 6, .inl fn0)), (h0, .inr (1, [.ref h1, .ref h6, .ref h7, .int 1, .long 0, .long 9223372036854775807, .int 0, .int 0, .long 0, .long 0])), (h1, .inr (2, [.ref h4, .int 0, .int 0, .ref h2, .ref h3, .ref h5])), (h2, .inl (gI g, 6, .inl f1))] rfl ?_
    rcases w82 with rfl | w82
    · skip
      refine r_callVv 66 C dX1_takeTop_66 [] [] [(h3, .inl (gI g, 6, .inl fn0)), (h0, .inr (1, [.ref h1, .ref h6, .ref h7, .int 1, .long 0, .long 9223372036854775807, .int 0, .int 0, .long 0, .long 0])), (h1, .inr (2, [.ref h4, .int 0, .int 0, .ref h2, .ref h3, .ref h5])), (h2, .inl (gI g, 6, .inl f1))] (fun sz => c77_X1_want l g h0 sz) gX1_takeTop_X1_want rfl ⟨rfl, rfl⟩ 1 (by decide) ⟨Nat.le_of_ble_eq_true rfl, Nat.le_of_ble_eq_true rfl⟩ 1 rfl rfl [] [0, 1, 2, 3] rfl rfl (by decide) (by decide) (by decide) rfl rfl (Nat.le_of_ble_eq_true rfl) ⟨Nat.le_of_ble_eq_true rfl, Nat.le_of_ble_eq_true rfl⟩ (fun  _ w83 => ?_)
      refine r_ws [(h3, .inl (gI g, 6, .inl fn0)), (h0, .inr (1, [.ref h1, .ref h6, .ref h7, .int 1, .long 0, .long 9223372036854775807, .int 0, .int 0, .long 0, .long 0])), (h1, .inr (2, [.ref h4, .int 0, .int 0, .ref h2, .ref h3, .ref h5])), (h2, .inl (gI g, 6, .inl f1))] rfl ?_
      refine r_aload_n 69 0 C dX1_takeTop_69 rfl ?_
      refine r_aload_n 70 0 C dX1_takeTop_70 rfl ?_
      refine r_get 71 C dX1_takeTop_71 (k := 0) 1 rfl rfl hiX1 (by decide) rfl (mg 1 rfl) (Or.inl rfl) rfl ?_
      refine r_sipush 74 262 C dX1_takeTop_74 (by decide) ?_
      refine r_callVi 77 C dX1_takeTop_77 [.ref h0] [(h1, .inr (2, [.ref h4, .int 0, .int 0, .ref h2, .ref h3, .ref h5])), (h2, .inl (gI g, 6, .inl f1))] [(h3, .inl (gI g, 6, .inl fn0)), (h0, .inr (1, [.ref h1, .ref h6, .ref h7, .int 1, .long 0, .long 9223372036854775807, .int 0, .int 0, .long 0, .long 0]))] (fun sz => c90_X2_isTold l g h1 h2 h4 h3 h5 f1 sz) gX1_takeTop_X2_isTold rfl ⟨rfl, rfl⟩ 1 (by decide) ⟨Nat.le_of_ble_eq_true rfl, Nat.le_of_ble_eq_true rfl⟩ 2 rfl rfl [2, 3] [0, 1] rfl rfl (by decide) (by decide) (by decide) rfl rfl (Nat.le_of_ble_eq_true rfl) ⟨Nat.le_of_ble_eq_true rfl, Nat.le_of_ble_eq_true rfl⟩ (fun r84 _ w85 => ?_)
      refine r_ws [(h3, .inl (gI g, 6, .inl fn0)), (h0, .inr (1, [.ref h1, .ref h6, .ref h7, .int 1, .long 0, .long 9223372036854775807, .int 0, .int 0, .long 0, .long 0])), (h1, .inr (2, [.ref h4, .int 0, .int 0, .ref h2, .ref h3, .ref h5])), (h2, .inl (gI g, 6, .inl f1))] rfl ?_
      rcases w85 with rfl | w85
      · skip
        refine r_if_eq_t 80 97 C dX1_takeTop_80 (by decide) (by decide) ?_
        refine r_iconst 97 1 C dX1_takeTop_97 (by decide) ?_
        refine r_goto 98 102 C dX1_takeTop_98 (by decide) ?_
        refine r_callVv 102 C dX1_takeTop_102 [] [] [(h3, .inl (gI g, 6, .inl fn0)), (h0, .inr (1, [.ref h1, .ref h6, .ref h7, .int 1, .long 0, .long 9223372036854775807, .int 0, .int 0, .long 0, .long 0])), (h1, .inr (2, [.ref h4, .int 0, .int 0, .ref h2, .ref h3, .ref h5])), (h2, .inl (gI g, 6, .inl f1))] (fun sz => c77_X1_want l g h0 sz) gX1_takeTop_X1_want rfl ⟨rfl, rfl⟩ 1 (by decide) ⟨Nat.le_of_ble_eq_true rfl, Nat.le_of_ble_eq_true rfl⟩ 1 rfl rfl [] [0, 1, 2, 3] rfl rfl (by decide) (by decide) (by decide) rfl rfl (Nat.le_of_ble_eq_true rfl) ⟨Nat.le_of_ble_eq_true rfl, Nat.le_of_ble_eq_true rfl⟩ (fun  _ w86 => ?_)
        refine r_ws [(h3, .inl (gI g, 6, .inl fn0)), (h0, .inr (1, [.ref h1, .ref h6, .ref h7, .int 1, .long 0, .long 9223372036854775807, .int 0, .int 0, .long 0, .long 0])), (h1, .inr (2, [.ref h4, .int 0, .int 0, .ref h2, .ref h3, .ref h5])), (h2, .inl (gI g, 6, .inl f1))] rfl ?_
        exact r_vret 105 Rt dX1_takeTop_105 f1 trivial [2, 3, 0, 1] (by decide) rfl (Nat.le_of_ble_eq_true rfl) (Nat.le_of_ble_eq_true rfl)
      obtain rfl := w85
      refine r_if_eq_f 80 97 C dX1_takeTop_80 (by decide) (by decide) ?_
      refine r_aload_n 83 0 C dX1_takeTop_83 rfl ?_
      refine r_get 84 C dX1_takeTop_84 (k := 0) 1 rfl rfl hiX1 (by decide) rfl (mg 1 rfl) (Or.inl rfl) rfl ?_
      refine r_sipush 87 262 C dX1_takeTop_87 (by decide) ?_
      refine r_callVi 90 C dX1_takeTop_90 [.ref h0] [(h3, .inl (gI g, 6, .inl fn0)), (h1, .inr (2, [.ref h4, .int 0, .int 0, .ref h2, .ref h3, .ref h5])), (h2, .inl (gI g, 6, .inl f1))] [(h0, .inr (1, [.ref h1, .ref h6, .ref h7, .int 1, .long 0, .long 9223372036854775807, .int 0, .int 0, .long 0, .long 0]))] (fun sz => c91_X2_first l g h1 h3 h2 fn0 h4 h5 f1 sz) gX1_takeTop_X2_first rfl ⟨rfl, rfl⟩ 1 (by decide) ⟨Nat.le_of_ble_eq_true rfl, Nat.le_of_ble_eq_true rfl⟩ 2 rfl rfl [0, 2, 3] [1] rfl rfl (by decide) (by decide) (by decide) rfl rfl (Nat.le_of_ble_eq_true rfl) ⟨Nat.le_of_ble_eq_true rfl, Nat.le_of_ble_eq_true rfl⟩ (fun r87 _ w88 => ?_)
      refine r_ws [(h0, .inr (1, [.ref h1, .ref h6, .ref h7, .int 1, .long 0, .long 9223372036854775807, .int 0, .int 0, .long 0, .long 0])), (h3, .inl (gI g, 6, .inl fn0)), (h1, .inr (2, [.ref h4, .int 0, .int 0, .ref h2, .ref h3, .ref h5])), (h2, .inl (gI g, 6, .inl f1))] rfl ?_
      refine r_iconst 93 2 C dX1_takeTop_93 (by decide) ?_
      refine r_icmp_ne 94 101 C dX1_takeTop_94 (by decide) (fun c89 => ?_) (fun c89 => ?_)
      · skip
        have k90 : ¬ ((Int32.toInt r87) = 2) := fun h_9 => c89 ((fa_eq r87 2).mpr h_9)
        refine r_iconst 101 0 C dX1_takeTop_101 (by decide) ?_
        refine r_callVv 102 C dX1_takeTop_102 [] [(h0, .inr (1, [.ref h1, .ref h6, .ref h7, .int 1, .long 0, .long 9223372036854775807, .int 0, .int 0, .long 0, .long 0]))] [(h3, .inl (gI g, 6, .inl fn0)), (h1, .inr (2, [.ref h4, .int 0, .int 0, .ref h2, .ref h3, .ref h5])), (h2, .inl (gI g, 6, .inl f1))] (fun sz => c69_X1_want l g h0 h1 h6 h7 sz) gX1_takeTop_X1_want rfl ⟨rfl, rfl⟩ 1 (by decide) ⟨Nat.le_of_ble_eq_true rfl, Nat.le_of_ble_eq_true rfl⟩ 0 rfl rfl [0] [1, 2, 3] rfl rfl (by decide) (by decide) (by decide) rfl rfl (Nat.le_of_ble_eq_true rfl) ⟨Nat.le_of_ble_eq_true rfl, Nat.le_of_ble_eq_true rfl⟩ (fun  _ w91 => ?_)
        refine r_ws [(h3, .inl (gI g, 6, .inl fn0)), (h1, .inr (2, [.ref h4, .int 0, .int 0, .ref h2, .ref h3, .ref h5])), (h2, .inl (gI g, 6, .inl f1)), (h0, .inr (1, [.ref h1, .ref h6, .ref h7, .int 1, .long 0, .long 9223372036854775807, .int 0, .int 0, .long 0, .long 0]))] rfl ?_
        exact r_vret 105 Rt dX1_takeTop_105 f1 trivial [1, 2, 0, 3] (by decide) rfl (Nat.le_of_ble_eq_true rfl) (Nat.le_of_ble_eq_true rfl)
      · skip
        have k92 : (Int32.toInt r87) = 2 := (fa_eq r87 2).mp c89
        refine r_iconst 97 1 C dX1_takeTop_97 (by decide) ?_
        refine r_goto 98 102 C dX1_takeTop_98 (by decide) ?_
        refine r_callVv 102 C dX1_takeTop_102 [] [] [(h0, .inr (1, [.ref h1, .ref h6, .ref h7, .int 1, .long 0, .long 9223372036854775807, .int 0, .int 0, .long 0, .long 0])), (h3, .inl (gI g, 6, .inl fn0)), (h1, .inr (2, [.ref h4, .int 0, .int 0, .ref h2, .ref h3, .ref h5])), (h2, .inl (gI g, 6, .inl f1))] (fun sz => c77_X1_want l g h0 sz) gX1_takeTop_X1_want rfl ⟨rfl, rfl⟩ 1 (by decide) ⟨Nat.le_of_ble_eq_true rfl, Nat.le_of_ble_eq_true rfl⟩ 0 rfl rfl [] [0, 1, 2, 3] rfl rfl (by decide) (by decide) (by decide) rfl rfl (Nat.le_of_ble_eq_true rfl) ⟨Nat.le_of_ble_eq_true rfl, Nat.le_of_ble_eq_true rfl⟩ (fun  _ w93 => ?_)
        refine r_ws [(h0, .inr (1, [.ref h1, .ref h6, .ref h7, .int 1, .long 0, .long 9223372036854775807, .int 0, .int 0, .long 0, .long 0])), (h3, .inl (gI g, 6, .inl fn0)), (h1, .inr (2, [.ref h4, .int 0, .int 0, .ref h2, .ref h3, .ref h5])), (h2, .inl (gI g, 6, .inl f1))] rfl ?_
        exact r_vret 105 Rt dX1_takeTop_105 f1 trivial [2, 3, 1, 0] (by decide) rfl (Nat.le_of_ble_eq_true rfl) (Nat.le_of_ble_eq_true rfl)
    rcases w82 with rfl | w82
    · skip
      refine r_callVv 66 C dX1_takeTop_66 [] [(h0, .inr (1, [.ref h1, .ref h6, .ref h7, .int 1, .long 0, .long 9223372036854775807, .int 0, .int 0, .long 0, .long 0]))] [(h3, .inl (gI g, 6, .inl fn0)), (h1, .inr (2, [.ref h4, .int 0, .int 0, .ref h2, .ref h3, .ref h5])), (h2, .inl (gI g, 6, .inl f1))] (fun sz => c69_X1_want l g h0 h1 h6 h7 sz) gX1_takeTop_X1_want rfl ⟨rfl, rfl⟩ 1 (by decide) ⟨Nat.le_of_ble_eq_true rfl, Nat.le_of_ble_eq_true rfl⟩ 1 rfl rfl [1] [0, 2, 3] rfl rfl (by decide) (by decide) (by decide) rfl rfl (Nat.le_of_ble_eq_true rfl) ⟨Nat.le_of_ble_eq_true rfl, Nat.le_of_ble_eq_true rfl⟩ (fun  _ w94 => ?_)
      refine r_ws [(h3, .inl (gI g, 6, .inl fn0)), (h1, .inr (2, [.ref h4, .int 0, .int 0, .ref h2, .ref h3, .ref h5])), (h2, .inl (gI g, 6, .inl f1)), (h0, .inr (1, [.ref h1, .ref h6, .ref h7, .int 1, .long 0, .long 9223372036854775807, .int 0, .int 0, .long 0, .long 0]))] rfl ?_
      refine r_aload_n 69 0 C dX1_takeTop_69 rfl ?_
      refine r_aload_n 70 0 C dX1_takeTop_70 rfl ?_
      refine r_get 71 C dX1_takeTop_71 (k := 0) 3 rfl rfl hiX1 (by decide) rfl (mg 1 rfl) (Or.inl rfl) rfl ?_
      refine r_sipush 74 262 C dX1_takeTop_74 (by decide) ?_
      refine r_callVi 77 C dX1_takeTop_77 [.ref h0] [(h1, .inr (2, [.ref h4, .int 0, .int 0, .ref h2, .ref h3, .ref h5])), (h2, .inl (gI g, 6, .inl f1))] [(h3, .inl (gI g, 6, .inl fn0)), (h0, .inr (1, [.ref h1, .ref h6, .ref h7, .int 1, .long 0, .long 9223372036854775807, .int 0, .int 0, .long 0, .long 0]))] (fun sz => c90_X2_isTold l g h1 h2 h4 h3 h5 f1 sz) gX1_takeTop_X2_isTold rfl ⟨rfl, rfl⟩ 1 (by decide) ⟨Nat.le_of_ble_eq_true rfl, Nat.le_of_ble_eq_true rfl⟩ 1 rfl rfl [1, 2] [0, 3] rfl rfl (by decide) (by decide) (by decide) rfl rfl (Nat.le_of_ble_eq_true rfl) ⟨Nat.le_of_ble_eq_true rfl, Nat.le_of_ble_eq_true rfl⟩ (fun r95 _ w96 => ?_)
      refine r_ws [(h3, .inl (gI g, 6, .inl fn0)), (h0, .inr (1, [.ref h1, .ref h6, .ref h7, .int 1, .long 0, .long 9223372036854775807, .int 0, .int 0, .long 0, .long 0])), (h1, .inr (2, [.ref h4, .int 0, .int 0, .ref h2, .ref h3, .ref h5])), (h2, .inl (gI g, 6, .inl f1))] rfl ?_
      rcases w96 with rfl | w96
      · skip
        refine r_if_eq_t 80 97 C dX1_takeTop_80 (by decide) (by decide) ?_
        refine r_iconst 97 1 C dX1_takeTop_97 (by decide) ?_
        refine r_goto 98 102 C dX1_takeTop_98 (by decide) ?_
        refine r_callVv 102 C dX1_takeTop_102 [] [] [(h3, .inl (gI g, 6, .inl fn0)), (h0, .inr (1, [.ref h1, .ref h6, .ref h7, .int 1, .long 0, .long 9223372036854775807, .int 0, .int 0, .long 0, .long 0])), (h1, .inr (2, [.ref h4, .int 0, .int 0, .ref h2, .ref h3, .ref h5])), (h2, .inl (gI g, 6, .inl f1))] (fun sz => c77_X1_want l g h0 sz) gX1_takeTop_X1_want rfl ⟨rfl, rfl⟩ 1 (by decide) ⟨Nat.le_of_ble_eq_true rfl, Nat.le_of_ble_eq_true rfl⟩ 1 rfl rfl [] [0, 1, 2, 3] rfl rfl (by decide) (by decide) (by decide) rfl rfl (Nat.le_of_ble_eq_true rfl) ⟨Nat.le_of_ble_eq_true rfl, Nat.le_of_ble_eq_true rfl⟩ (fun  _ w97 => ?_)
        refine r_ws [(h3, .inl (gI g, 6, .inl fn0)), (h0, .inr (1, [.ref h1, .ref h6, .ref h7, .int 1, .long 0, .long 9223372036854775807, .int 0, .int 0, .long 0, .long 0])), (h1, .inr (2, [.ref h4, .int 0, .int 0, .ref h2, .ref h3, .ref h5])), (h2, .inl (gI g, 6, .inl f1))] rfl ?_
        exact r_vret 105 Rt dX1_takeTop_105 f1 trivial [2, 3, 0, 1] (by decide) rfl (Nat.le_of_ble_eq_true rfl) (Nat.le_of_ble_eq_true rfl)
      obtain rfl := w96
      refine r_if_eq_f 80 97 C dX1_takeTop_80 (by decide) (by decide) ?_
      refine r_aload_n 83 0 C dX1_takeTop_83 rfl ?_
      refine r_get 84 C dX1_takeTop_84 (k := 0) 1 rfl rfl hiX1 (by decide) rfl (mg 1 rfl) (Or.inl rfl) rfl ?_
      refine r_sipush 87 262 C dX1_takeTop_87 (by decide) ?_
      refine r_callVi 90 C dX1_takeTop_90 [.ref h0] [(h3, .inl (gI g, 6, .inl fn0)), (h1, .inr (2, [.ref h4, .int 0, .int 0, .ref h2, .ref h3, .ref h5])), (h2, .inl (gI g, 6, .inl f1))] [(h0, .inr (1, [.ref h1, .ref h6, .ref h7, .int 1, .long 0, .long 9223372036854775807, .int 0, .int 0, .long 0, .long 0]))] (fun sz => c91_X2_first l g h1 h3 h2 fn0 h4 h5 f1 sz) gX1_takeTop_X2_first rfl ⟨rfl, rfl⟩ 1 (by decide) ⟨Nat.le_of_ble_eq_true rfl, Nat.le_of_ble_eq_true rfl⟩ 2 rfl rfl [0, 2, 3] [1] rfl rfl (by decide) (by decide) (by decide) rfl rfl (Nat.le_of_ble_eq_true rfl) ⟨Nat.le_of_ble_eq_true rfl, Nat.le_of_ble_eq_true rfl⟩ (fun r98 _ w99 => ?_)
      refine r_ws [(h0, .inr (1, [.ref h1, .ref h6, .ref h7, .int 1, .long 0, .long 9223372036854775807, .int 0, .int 0, .long 0, .long 0])), (h3, .inl (gI g, 6, .inl fn0)), (h1, .inr (2, [.ref h4, .int 0, .int 0, .ref h2, .ref h3, .ref h5])), (h2, .inl (gI g, 6, .inl f1))] rfl ?_
      refine r_iconst 93 2 C dX1_takeTop_93 (by decide) ?_
      refine r_icmp_ne 94 101 C dX1_takeTop_94 (by decide) (fun c100 => ?_) (fun c100 => ?_)
      · skip
        have k101 : ¬ ((Int32.toInt r98) = 2) := fun h_9 => c100 ((fa_eq r98 2).mpr h_9)
        refine r_iconst 101 0 C dX1_takeTop_101 (by decide) ?_
        refine r_callVv 102 C dX1_takeTop_102 [] [(h0, .inr (1, [.ref h1, .ref h6, .ref h7, .int 1, .long 0, .long 9223372036854775807, .int 0, .int 0, .long 0, .long 0]))] [(h3, .inl (gI g, 6, .inl fn0)), (h1, .inr (2, [.ref h4, .int 0, .int 0, .ref h2, .ref h3, .ref h5])), (h2, .inl (gI g, 6, .inl f1))] (fun sz => c69_X1_want l g h0 h1 h6 h7 sz) gX1_takeTop_X1_want rfl ⟨rfl, rfl⟩ 1 (by decide) ⟨Nat.le_of_ble_eq_true rfl, Nat.le_of_ble_eq_true rfl⟩ 0 rfl rfl [0] [1, 2, 3] rfl rfl (by decide) (by decide) (by decide) rfl rfl (Nat.le_of_ble_eq_true rfl) ⟨Nat.le_of_ble_eq_true rfl, Nat.le_of_ble_eq_true rfl⟩ (fun  _ w102 => ?_)
        refine r_ws [(h3, .inl (gI g, 6, .inl fn0)), (h1, .inr (2, [.ref h4, .int 0, .int 0, .ref h2, .ref h3, .ref h5])), (h2, .inl (gI g, 6, .inl f1)), (h0, .inr (1, [.ref h1, .ref h6, .ref h7, .int 1, .long 0, .long 9223372036854775807, .int 0, .int 0, .long 0, .long 0]))] rfl ?_
        exact r_vret 105 Rt dX1_takeTop_105 f1 trivial [1, 2, 0, 3] (by decide) rfl (Nat.le_of_ble_eq_true rfl) (Nat.le_of_ble_eq_true rfl)
      · skip
        have k103 : (Int32.toInt r98) = 2 := (fa_eq r98 2).mp c100
        refine r_iconst 97 1 C dX1_takeTop_97 (by decide) ?_
        refine r_goto 98 102 C dX1_takeTop_98 (by decide) ?_
        refine r_callVv 102 C dX1_takeTop_102 [] [] [(h0, .inr (1, [.ref h1, .ref h6, .ref h7, .int 1, .long 0, .long 9223372036854775807, .int 0, .int 0, .long 0, .long 0])), (h3, .inl (gI g, 6, .inl fn0)), (h1, .inr (2, [.ref h4, .int 0, .int 0, .ref h2, .ref h3, .ref h5])), (h2, .inl (gI g, 6, .inl f1))] (fun sz => c77_X1_want l g h0 sz) gX1_takeTop_X1_want rfl ⟨rfl, rfl⟩ 1 (by decide) ⟨Nat.le_of_ble_eq_true rfl, Nat.le_of_ble_eq_true rfl⟩ 0 rfl rfl [] [0, 1, 2, 3] rfl rfl (by decide) (by decide) (by decide) rfl rfl (Nat.le_of_ble_eq_true rfl) ⟨Nat.le_of_ble_eq_true rfl, Nat.le_of_ble_eq_true rfl⟩ (fun  _ w104 => ?_)
        refine r_ws [(h0, .inr (1, [.ref h1, .ref h6, .ref h7, .int 1, .long 0, .long 9223372036854775807, .int 0, .int 0, .long 0, .long 0])), (h3, .inl (gI g, 6, .inl fn0)), (h1, .inr (2, [.ref h4, .int 0, .int 0, .ref h2, .ref h3, .ref h5])), (h2, .inl (gI g, 6, .inl f1))] rfl ?_
        exact r_vret 105 Rt dX1_takeTop_105 f1 trivial [2, 3, 1, 0] (by decide) rfl (Nat.le_of_ble_eq_true rfl) (Nat.le_of_ble_eq_true rfl)
    obtain rfl := w82
    refine r_callVv 66 C dX1_takeTop_66 [] [] [(h3, .inl (gI g, 6, .inl fn0)), (h0, .inr (1, [.ref h1, .ref h6, .ref h7, .int 1, .long 0, .long 9223372036854775807, .int 0, .int 0, .long 0, .long 0])), (h1, .inr (2, [.ref h4, .int 0, .int 0, .ref h2, .ref h3, .ref h5])), (h2, .inl (gI g, 6, .inl f1))] (fun sz => c77_X1_want l g h0 sz) gX1_takeTop_X1_want rfl ⟨rfl, rfl⟩ 1 (by decide) ⟨Nat.le_of_ble_eq_true rfl, Nat.le_of_ble_eq_true rfl⟩ 1 rfl rfl [] [0, 1, 2, 3] rfl rfl (by decide) (by decide) (by decide) rfl rfl (Nat.le_of_ble_eq_true rfl) ⟨Nat.le_of_ble_eq_true rfl, Nat.le_of_ble_eq_true rfl⟩ (fun  _ w105 => ?_)
    refine r_ws [(h3, .inl (gI g, 6, .inl fn0)), (h0, .inr (1, [.ref h1, .ref h6, .ref h7, .int 1, .long 0, .long 9223372036854775807, .int 0, .int 0, .long 0, .long 0])), (h1, .inr (2, [.ref h4, .int 0, .int 0, .ref h2, .ref h3, .ref h5])), (h2, .inl (gI g, 6, .inl f1))] rfl ?_
    refine r_aload_n 69 0 C dX1_takeTop_69 rfl ?_
    refine r_aload_n 70 0 C dX1_takeTop_70 rfl ?_
    refine r_get 71 C dX1_takeTop_71 (k := 0) 1 rfl rfl hiX1 (by decide) rfl (mg 1 rfl) (Or.inl rfl) rfl ?_
    refine r_sipush 74 262 C dX1_takeTop_74 (by decide) ?_
    refine r_callVi 77 C dX1_takeTop_77 [.ref h0] [(h1, .inr (2, [.ref h4, .int 0, .int 0, .ref h2, .ref h3, .ref h5])), (h2, .inl (gI g, 6, .inl f1))] [(h3, .inl (gI g, 6, .inl fn0)), (h0, .inr (1, [.ref h1, .ref h6, .ref h7, .int 1, .long 0, .long 9223372036854775807, .int 0, .int 0, .long 0, .long 0]))] (fun sz => c90_X2_isTold l g h1 h2 h4 h3 h5 f1 sz) gX1_takeTop_X2_isTold rfl ⟨rfl, rfl⟩ 1 (by decide) ⟨Nat.le_of_ble_eq_true rfl, Nat.le_of_ble_eq_true rfl⟩ 2 rfl rfl [2, 3] [0, 1] rfl rfl (by decide) (by decide) (by decide) rfl rfl (Nat.le_of_ble_eq_true rfl) ⟨Nat.le_of_ble_eq_true rfl, Nat.le_of_ble_eq_true rfl⟩ (fun r106 _ w107 => ?_)
    refine r_ws [(h3, .inl (gI g, 6, .inl fn0)), (h0, .inr (1, [.ref h1, .ref h6, .ref h7, .int 1, .long 0, .long 9223372036854775807, .int 0, .int 0, .long 0, .long 0])), (h1, .inr (2, [.ref h4, .int 0, .int 0, .ref h2, .ref h3, .ref h5])), (h2, .inl (gI g, 6, .inl f1))] rfl ?_
    rcases w107 with rfl | w107
    · skip
      refine r_if_eq_t 80 97 C dX1_takeTop_80 (by decide) (by decide) ?_
      refine r_iconst 97 1 C dX1_takeTop_97 (by decide) ?_
      refine r_goto 98 102 C dX1_takeTop_98 (by decide) ?_
      refine r_callVv 102 C dX1_takeTop_102 [] [] [(h3, .inl (gI g, 6, .inl fn0)), (h0, .inr (1, [.ref h1, .ref h6, .ref h7, .int 1, .long 0, .long 9223372036854775807, .int 0, .int 0, .long 0, .long 0])), (h1, .inr (2, [.ref h4, .int 0, .int 0, .ref h2, .ref h3, .ref h5])), (h2, .inl (gI g, 6, .inl f1))] (fun sz => c77_X1_want l g h0 sz) gX1_takeTop_X1_want rfl ⟨rfl, rfl⟩ 1 (by decide) ⟨Nat.le_of_ble_eq_true rfl, Nat.le_of_ble_eq_true rfl⟩ 1 rfl rfl [] [0, 1, 2, 3] rfl rfl (by decide) (by decide) (by decide) rfl rfl (Nat.le_of_ble_eq_true rfl) ⟨Nat.le_of_ble_eq_true rfl, Nat.le_of_ble_eq_true rfl⟩ (fun  _ w108 => ?_)
      refine r_ws [(h3, .inl (gI g, 6, .inl fn0)), (h0, .inr (1, [.ref h1, .ref h6, .ref h7, .int 1, .long 0, .long 9223372036854775807, .int 0, .int 0, .long 0, .long 0])), (h1, .inr (2, [.ref h4, .int 0, .int 0, .ref h2, .ref h3, .ref h5])), (h2, .inl (gI g, 6, .inl f1))] rfl ?_
      exact r_vret 105 Rt dX1_takeTop_105 f1 trivial [2, 3, 0, 1] (by decide) rfl (Nat.le_of_ble_eq_true rfl) (Nat.le_of_ble_eq_true rfl)
    obtain rfl := w107
    refine r_if_eq_f 80 97 C dX1_takeTop_80 (by decide) (by decide) ?_
    refine r_aload_n 83 0 C dX1_takeTop_83 rfl ?_
    refine r_get 84 C dX1_takeTop_84 (k := 0) 1 rfl rfl hiX1 (by decide) rfl (mg 1 rfl) (Or.inl rfl) rfl ?_
    refine r_sipush 87 262 C dX1_takeTop_87 (by decide) ?_
    refine r_callVi 90 C dX1_takeTop_90 [.ref h0] [(h3, .inl (gI g, 6, .inl fn0)), (h1, .inr (2, [.ref h4, .int 0, .int 0, .ref h2, .ref h3, .ref h5])), (h2, .inl (gI g, 6, .inl f1))] [(h0, .inr (1, [.ref h1, .ref h6, .ref h7, .int 1, .long 0, .long 9223372036854775807, .int 0, .int 0, .long 0, .long 0]))] (fun sz => c91_X2_first l g h1 h3 h2 fn0 h4 h5 f1 sz) gX1_takeTop_X2_first rfl ⟨rfl, rfl⟩ 1 (by decide) ⟨Nat.le_of_ble_eq_true rfl, Nat.le_of_ble_eq_true rfl⟩ 2 rfl rfl [0, 2, 3] [1] rfl rfl (by decide) (by decide) (by decide) rfl rfl (Nat.le_of_ble_eq_true rfl) ⟨Nat.le_of_ble_eq_true rfl, Nat.le_of_ble_eq_true rfl⟩ (fun r109 _ w110 => ?_)
    refine r_ws [(h0, .inr (1, [.ref h1, .ref h6, .ref h7, .int 1, .long 0, .long 9223372036854775807, .int 0, .int 0, .long 0, .long 0])), (h3, .inl (gI g, 6, .inl fn0)), (h1, .inr (2, [.ref h4, .int 0, .int 0, .ref h2, .ref h3, .ref h5])), (h2, .inl (gI g, 6, .inl f1))] rfl ?_
    refine r_iconst 93 2 C dX1_takeTop_93 (by decide) ?_
    refine r_icmp_ne 94 101 C dX1_takeTop_94 (by decide) (fun c111 => ?_) (fun c111 => ?_)
    · skip
      have k112 : ¬ ((Int32.toInt r109) = 2) := fun h_9 => c111 ((fa_eq r109 2).mpr h_9)
      refine r_iconst 101 0 C dX1_takeTop_101 (by decide) ?_
      refine r_callVv 102 C dX1_takeTop_102 [] [(h0, .inr (1, [.ref h1, .ref h6, .ref h7, .int 1, .long 0, .long 9223372036854775807, .int 0, .int 0, .long 0, .long 0]))] [(h3, .inl (gI g, 6, .inl fn0)), (h1, .inr (2, [.ref h4, .int 0, .int 0, .ref h2, .ref h3, .ref h5])), (h2, .inl (gI g, 6, .inl f1))] (fun sz => c69_X1_want l g h0 h1 h6 h7 sz) gX1_takeTop_X1_want rfl ⟨rfl, rfl⟩ 1 (by decide) ⟨Nat.le_of_ble_eq_true rfl, Nat.le_of_ble_eq_true rfl⟩ 0 rfl rfl [0] [1, 2, 3] rfl rfl (by decide) (by decide) (by decide) rfl rfl (Nat.le_of_ble_eq_true rfl) ⟨Nat.le_of_ble_eq_true rfl, Nat.le_of_ble_eq_true rfl⟩ (fun  _ w113 => ?_)
      refine r_ws [(h3, .inl (gI g, 6, .inl fn0)), (h1, .inr (2, [.ref h4, .int 0, .int 0, .ref h2, .ref h3, .ref h5])), (h2, .inl (gI g, 6, .inl f1)), (h0, .inr (1, [.ref h1, .ref h6, .ref h7, .int 1, .long 0, .long 9223372036854775807, .int 0, .int 0, .long 0, .long 0]))] rfl ?_
      exact r_vret 105 Rt dX1_takeTop_105 f1 trivial [1, 2, 0, 3] (by decide) rfl (Nat.le_of_ble_eq_true rfl) (Nat.le_of_ble_eq_true rfl)
    · skip
      have k114 : (Int32.toInt r109) = 2 := (fa_eq r109 2).mp c111
      refine r_iconst 97 1 C dX1_takeTop_97 (by decide) ?_
      refine r_goto 98 102 C dX1_takeTop_98 (by decide) ?_
      refine r_callVv 102 C dX1_takeTop_102 [] [] [(h0, .inr (1, [.ref h1, .ref h6, .ref h7, .int 1, .long 0, .long 9223372036854775807, .int 0, .int 0, .long 0, .long 0])), (h3, .inl (gI g, 6, .inl fn0)), (h1, .inr (2, [.ref h4, .int 0, .int 0, .ref h2, .ref h3, .ref h5])), (h2, .inl (gI g, 6, .inl f1))] (fun sz => c77_X1_want l g h0 sz) gX1_takeTop_X1_want rfl ⟨rfl, rfl⟩ 1 (by decide) ⟨Nat.le_of_ble_eq_true rfl, Nat.le_of_ble_eq_true rfl⟩ 0 rfl rfl [] [0, 1, 2, 3] rfl rfl (by decide) (by decide) (by decide) rfl rfl (Nat.le_of_ble_eq_true rfl) ⟨Nat.le_of_ble_eq_true rfl, Nat.le_of_ble_eq_true rfl⟩ (fun  _ w115 => ?_)
      refine r_ws [(h0, .inr (1, [.ref h1, .ref h6, .ref h7, .int 1, .long 0, .long 9223372036854775807, .int 0, .int 0, .long 0, .long 0])), (h3, .inl (gI g, 6, .inl fn0)), (h1, .inr (2, [.ref h4, .int 0, .int 0, .ref h2, .ref h3, .ref h5])), (h2, .inl (gI g, 6, .inl f1))] rfl ?_
      exact r_vret 105 Rt dX1_takeTop_105 f1 trivial [2, 3, 1, 0] (by decide) rfl (Nat.le_of_ble_eq_true rfl) (Nat.le_of_ble_eq_true rfl)
  obtain rfl := w4
  refine r_if_eq_f 16 36 C dX1_takeTop_16 (by decide) (by decide) ?_
  refine r_aload_n 19 0 C dX1_takeTop_19 rfl ?_
  refine r_get 20 C dX1_takeTop_20 (k := 0) 1 rfl rfl hiX1 (by decide) rfl (mg 1 rfl) (Or.inl rfl) rfl ?_
  refine r_bipush 23 17 C dX1_takeTop_23 (by decide) ?_
  refine r_iconst 25 1 C dX1_takeTop_25 (by decide) ?_
  refine r_callVi 26 C dX1_takeTop_26 [.ref h0] [(h1, .inr (2, [.ref h4, .int 0, .int 0, .ref h2, .ref h3, .ref h5])), (h2, .inl (gI g, 6, .inl f1))] [(h3, .inl (gI g, 6, .inl fn0)), (h0, .inr (1, [.ref h1, .ref h6, .ref h7, .int 1, .long 0, .long 9223372036854775807, .int 0, .int 0, .long 0, .long 0]))] (fun sz => c92_X2_fits l g h1 h2 h4 h3 h5 f1 sz) gX1_takeTop_X2_fits rfl ⟨rfl, rfl⟩ 2 (by decide) ⟨Nat.le_of_ble_eq_true rfl, Nat.le_of_ble_eq_true rfl⟩ 2 rfl rfl [2, 3] [0, 1] rfl rfl (by decide) (by decide) (by decide) rfl rfl (Nat.le_of_ble_eq_true rfl) ⟨Nat.le_of_ble_eq_true rfl, Nat.le_of_ble_eq_true rfl⟩ (fun r116 _ w117 => ?_)
  refine r_ws [(h3, .inl (gI g, 6, .inl fn0)), (h0, .inr (1, [.ref h1, .ref h6, .ref h7, .int 1, .long 0, .long 9223372036854775807, .int 0, .int 0, .long 0, .long 0])), (h1, .inr (2, [.ref h4, .int 0, .int 0, .ref h2, .ref h3, .ref h5])), (h2, .inl (gI g, 6, .inl f1))] rfl ?_
  rcases w117 with rfl | w117
  · skip
    refine r_if_eq_f 29 36 C dX1_takeTop_29 (by decide) (by decide) ?_
    refine r_iconst 32 1 C dX1_takeTop_32 (by decide) ?_
    refine r_goto 33 37 C dX1_takeTop_33 (by decide) ?_
    refine r_callVv 37 C dX1_takeTop_37 [] [] [(h3, .inl (gI g, 6, .inl fn0)), (h0, .inr (1, [.ref h1, .ref h6, .ref h7, .int 1, .long 0, .long 9223372036854775807, .int 0, .int 0, .long 0, .long 0])), (h1, .inr (2, [.ref h4, .int 0, .int 0, .ref h2, .ref h3, .ref h5])), (h2, .inl (gI g, 6, .inl f1))] (fun sz => c77_X1_want l g h0 sz) gX1_takeTop_X1_want rfl ⟨rfl, rfl⟩ 1 (by decide) ⟨Nat.le_of_ble_eq_true rfl, Nat.le_of_ble_eq_true rfl⟩ 1 rfl rfl [] [0, 1, 2, 3] rfl rfl (by decide) (by decide) (by decide) rfl rfl (Nat.le_of_ble_eq_true rfl) ⟨Nat.le_of_ble_eq_true rfl, Nat.le_of_ble_eq_true rfl⟩ (fun  _ w118 => ?_)
    refine r_ws [(h3, .inl (gI g, 6, .inl fn0)), (h0, .inr (1, [.ref h1, .ref h6, .ref h7, .int 1, .long 0, .long 9223372036854775807, .int 0, .int 0, .long 0, .long 0])), (h1, .inr (2, [.ref h4, .int 0, .int 0, .ref h2, .ref h3, .ref h5])), (h2, .inl (gI g, 6, .inl f1))] rfl ?_
    refine r_aload_n 40 0 C dX1_takeTop_40 rfl ?_
    refine r_aload_n 41 0 C dX1_takeTop_41 rfl ?_
    refine r_get 42 C dX1_takeTop_42 (k := 0) 1 rfl rfl hiX1 (by decide) rfl (mg 1 rfl) (Or.inl rfl) rfl ?_
    refine r_bipush 45 18 C dX1_takeTop_45 (by decide) ?_
    refine r_iconst 47 2 C dX1_takeTop_47 (by decide) ?_
    refine r_callVi 48 C dX1_takeTop_48 [.ref h0] [(h1, .inr (2, [.ref h4, .int 0, .int 0, .ref h2, .ref h3, .ref h5])), (h2, .inl (gI g, 6, .inl f1))] [(h3, .inl (gI g, 6, .inl fn0)), (h0, .inr (1, [.ref h1, .ref h6, .ref h7, .int 1, .long 0, .long 9223372036854775807, .int 0, .int 0, .long 0, .long 0]))] (fun sz => c87_X2_fits l g h1 h2 h4 h3 h5 f1 sz) gX1_takeTop_X2_fits rfl ⟨rfl, rfl⟩ 2 (by decide) ⟨Nat.le_of_ble_eq_true rfl, Nat.le_of_ble_eq_true rfl⟩ 2 rfl rfl [2, 3] [0, 1] rfl rfl (by decide) (by decide) (by decide) rfl rfl (Nat.le_of_ble_eq_true rfl) ⟨Nat.le_of_ble_eq_true rfl, Nat.le_of_ble_eq_true rfl⟩ (fun r119 _ w120 => ?_)
    refine r_ws [(h3, .inl (gI g, 6, .inl fn0)), (h0, .inr (1, [.ref h1, .ref h6, .ref h7, .int 1, .long 0, .long 9223372036854775807, .int 0, .int 0, .long 0, .long 0])), (h1, .inr (2, [.ref h4, .int 0, .int 0, .ref h2, .ref h3, .ref h5])), (h2, .inl (gI g, 6, .inl f1))] rfl ?_
    rcases w120 with rfl | w120
    · skip
      refine r_callVv 51 C dX1_takeTop_51 [] [] [(h3, .inl (gI g, 6, .inl fn0)), (h0, .inr (1, [.ref h1, .ref h6, .ref h7, .int 1, .long 0, .long 9223372036854775807, .int 0, .int 0, .long 0, .long 0])), (h1, .inr (2, [.ref h4, .int 0, .int 0, .ref h2, .ref h3, .ref h5])), (h2, .inl (gI g, 6, .inl f1))] (fun sz => c77_X1_want l g h0 sz) gX1_takeTop_X1_want rfl ⟨rfl, rfl⟩ 1 (by decide) ⟨Nat.le_of_ble_eq_true rfl, Nat.le_of_ble_eq_true rfl⟩ 1 rfl rfl [] [0, 1, 2, 3] rfl rfl (by decide) (by decide) (by decide) rfl rfl (Nat.le_of_ble_eq_true rfl) ⟨Nat.le_of_ble_eq_true rfl, Nat.le_of_ble_eq_true rfl⟩ (fun  _ w121 => ?_)
      refine r_ws [(h3, .inl (gI g, 6, .inl fn0)), (h0, .inr (1, [.ref h1, .ref h6, .ref h7, .int 1, .long 0, .long 9223372036854775807, .int 0, .int 0, .long 0, .long 0])), (h1, .inr (2, [.ref h4, .int 0, .int 0, .ref h2, .ref h3, .ref h5])), (h2, .inl (gI g, 6, .inl f1))] rfl ?_
      refine r_aload_n 54 0 C dX1_takeTop_54 rfl ?_
      refine r_aload_n 55 0 C dX1_takeTop_55 rfl ?_
      refine r_get 56 C dX1_takeTop_56 (k := 0) 1 rfl rfl hiX1 (by decide) rfl (mg 1 rfl) (Or.inl rfl) rfl ?_
      refine r_sipush 59 262 C dX1_takeTop_59 (by decide) ?_
      refine r_iconst 62 1 C dX1_takeTop_62 (by decide) ?_
      refine r_callVi 63 C dX1_takeTop_63 [.ref h0] [(h1, .inr (2, [.ref h4, .int 0, .int 0, .ref h2, .ref h3, .ref h5])), (h2, .inl (gI g, 6, .inl f1))] [(h3, .inl (gI g, 6, .inl fn0)), (h0, .inr (1, [.ref h1, .ref h6, .ref h7, .int 1, .long 0, .long 9223372036854775807, .int 0, .int 0, .long 0, .long 0]))] (fun sz => c89_X2_fits l g h1 h2 h4 h3 h5 f1 sz) gX1_takeTop_X2_fits rfl ⟨rfl, rfl⟩ 2 (by decide) ⟨Nat.le_of_ble_eq_true rfl, Nat.le_of_ble_eq_true rfl⟩ 2 rfl rfl [2, 3] [0, 1] rfl rfl (by decide) (by decide) (by decide) rfl rfl (Nat.le_of_ble_eq_true rfl) ⟨Nat.le_of_ble_eq_true rfl, Nat.le_of_ble_eq_true rfl⟩ (fun r122 _ w123 => ?_)
      refine r_ws [(h3, .inl (gI g, 6, .inl fn0)), (h0, .inr (1, [.ref h1, .ref h6, .ref h7, .int 1, .long 0, .long 9223372036854775807, .int 0, .int 0, .long 0, .long 0])), (h1, .inr (2, [.ref h4, .int 0, .int 0, .ref h2, .ref h3, .ref h5])), (h2, .inl (gI g, 6, .inl f1))] rfl ?_
      rcases w123 with rfl | w123
      · skip
        refine r_callVv 66 C dX1_takeTop_66 [] [] [(h3, .inl (gI g, 6, .inl fn0)), (h0, .inr (1, [.ref h1, .ref h6, .ref h7, .int 1, .long 0, .long 9223372036854775807, .int 0, .int 0, .long 0, .long 0])), (h1, .inr (2, [.ref h4, .int 0, .int 0, .ref h2, .ref h3, .ref h5])), (h2, .inl (gI g, 6, .inl f1))] (fun sz => c77_X1_want l g h0 sz) gX1_takeTop_X1_want rfl ⟨rfl, rfl⟩ 1 (by decide) ⟨Nat.le_of_ble_eq_true rfl, Nat.le_of_ble_eq_true rfl⟩ 1 rfl rfl [] [0, 1, 2, 3] rfl rfl (by decide) (by decide) (by decide) rfl rfl (Nat.le_of_ble_eq_true rfl) ⟨Nat.le_of_ble_eq_true rfl, Nat.le_of_ble_eq_true rfl⟩ (fun  _ w124 => ?_)
        refine r_ws [(h3, .inl (gI g, 6, .inl fn0)), (h0, .inr (1, [.ref h1, .ref h6, .ref h7, .int 1, .long 0, .long 9223372036854775807, .int 0, .int 0, .long 0, .long 0])), (h1, .inr (2, [.ref h4, .int 0, .int 0, .ref h2, .ref h3, .ref h5])), (h2, .inl (gI g, 6, .inl f1))] rfl ?_
        refine r_aload_n 69 0 C dX1_takeTop_69 rfl ?_
        refine r_aload_n 70 0 C dX1_takeTop_70 rfl ?_
        refine r_get 71 C dX1_takeTop_71 (k := 0) 1 rfl rfl hiX1 (by decide) rfl (mg 1 rfl) (Or.inl rfl) rfl ?_
        refine r_sipush 74 262 C dX1_takeTop_74 (by decide) ?_
        refine r_callVi 77 C dX1_takeTop_77 [.ref h0] [(h1, .inr (2, [.ref h4, .int 0, .int 0, .ref h2, .ref h3, .ref h5])), (h2, .inl (gI g, 6, .inl f1))] [(h3, .inl (gI g, 6, .inl fn0)), (h0, .inr (1, [.ref h1, .ref h6, .ref h7, .int 1, .long 0, .long 9223372036854775807, .int 0, .int 0, .long 0, .long 0]))] (fun sz => c90_X2_isTold l g h1 h2 h4 h3 h5 f1 sz) gX1_takeTop_X2_isTold rfl ⟨rfl, rfl⟩ 1 (by decide) ⟨Nat.le_of_ble_eq_true rfl, Nat.le_of_ble_eq_true rfl⟩ 2 rfl rfl [2, 3] [0, 1] rfl rfl (by decide) (by decide) (by decide) rfl rfl (Nat.le_of_ble_eq_true rfl) ⟨Nat.le_of_ble_eq_true rfl, Nat.le_of_ble_eq_true rfl⟩ (fun r125 _ w126 => ?_)
        refine r_ws [(h3, .inl (gI g, 6, .inl fn0)), (h0, .inr (1, [.ref h1, .ref h6, .ref h7, .int 1, .long 0, .long 9223372036854775807, .int 0, .int 0, .long 0, .long 0])), (h1, .inr (2, [.ref h4, .int 0, .int 0, .ref h2, .ref h3, .ref h5])), (h2, .inl (gI g, 6, .inl f1))] rfl ?_
        rcases w126 with rfl | w126
        · skip
          refine r_if_eq_t 80 97 C dX1_takeTop_80 (by decide) (by decide) ?_
          refine r_iconst 97 1 C dX1_takeTop_97 (by decide) ?_
          refine r_goto 98 102 C dX1_takeTop_98 (by decide) ?_
          refine r_callVv 102 C dX1_takeTop_102 [] [] [(h3, .inl (gI g, 6, .inl fn0)), (h0, .inr (1, [.ref h1, .ref h6, .ref h7, .int 1, .long 0, .long 9223372036854775807, .int 0, .int 0, .long 0, .long 0])), (h1, .inr (2, [.ref h4, .int 0, .int 0, .ref h2, .ref h3, .ref h5])), (h2, .inl (gI g, 6, .inl f1))] (fun sz => c77_X1_want l g h0 sz) gX1_takeTop_X1_want rfl ⟨rfl, rfl⟩ 1 (by decide) ⟨Nat.le_of_ble_eq_true rfl, Nat.le_of_ble_eq_true rfl⟩ 1 rfl rfl [] [0, 1, 2, 3] rfl rfl (by decide) (by decide) (by decide) rfl rfl (Nat.le_of_ble_eq_true rfl) ⟨Nat.le_of_ble_eq_true rfl, Nat.le_of_ble_eq_true rfl⟩ (fun  _ w127 => ?_)
          refine r_ws [(h3, .inl (gI g, 6, .inl fn0)), (h0, .inr (1, [.ref h1, .ref h6, .ref h7, .int 1, .long 0, .long 9223372036854775807, .int 0, .int 0, .long 0, .long 0])), (h1, .inr (2, [.ref h4, .int 0, .int 0, .ref h2, .ref h3, .ref h5])), (h2, .inl (gI g, 6, .inl f1))] rfl ?_
          exact r_vret 105 Rt dX1_takeTop_105 f1 trivial [2, 3, 0, 1] (by decide) rfl (Nat.le_of_ble_eq_true rfl) (Nat.le_of_ble_eq_true rfl)
        obtain rfl := w126
        refine r_if_eq_f 80 97 C dX1_takeTop_80 (by decide) (by decide) ?_
        refine r_aload_n 83 0 C dX1_takeTop_83 rfl ?_
        refine r_get 84 C dX1_takeTop_84 (k := 0) 1 rfl rfl hiX1 (by decide) rfl (mg 1 rfl) (Or.inl rfl) rfl ?_
        refine r_sipush 87 262 C dX1_takeTop_87 (by decide) ?_
        refine r_callVi 90 C dX1_takeTop_90 [.ref h0] [(h3, .inl (gI g, 6, .inl fn0)), (h1, .inr (2, [.ref h4, .int 0, .int 0, .ref h2, .ref h3, .ref h5])), (h2, .inl (gI g, 6, .inl f1))] [(h0, .inr (1, [.ref h1, .ref h6, .ref h7, .int 1, .long 0, .long 9223372036854775807, .int 0, .int 0, .long 0, .long 0]))] (fun sz => c91_X2_first l g h1 h3 h2 fn0 h4 h5 f1 sz) gX1_takeTop_X2_first rfl ⟨rfl, rfl⟩ 1 (by decide) ⟨Nat.le_of_ble_eq_true rfl, Nat.le_of_ble_eq_true rfl⟩ 2 rfl rfl [0, 2, 3] [1] rfl rfl (by decide) (by decide) (by decide) rfl rfl (Nat.le_of_ble_eq_true rfl) ⟨Nat.le_of_ble_eq_true rfl, Nat.le_of_ble_eq_true rfl⟩ (fun r128 _ w129 => ?_)
        refine r_ws [(h0, .inr (1, [.ref h1, .ref h6, .ref h7, .int 1, .long 0, .long 9223372036854775807, .int 0, .int 0, .long 0, .long 0])), (h3, .inl (gI g, 6, .inl fn0)), (h1, .inr (2, [.ref h4, .int 0, .int 0, .ref h2, .ref h3, .ref h5])), (h2, .inl (gI g, 6, .inl f1))] rfl ?_
        refine r_iconst 93 2 C dX1_takeTop_93 (by decide) ?_
        refine r_icmp_ne 94 101 C dX1_takeTop_94 (by decide) (fun c130 => ?_) (fun c130 => ?_)
        · skip
          have k131 : ¬ ((Int32.toInt r128) = 2) := fun h_9 => c130 ((fa_eq r128 2).mpr h_9)
          refine r_iconst 101 0 C dX1_takeTop_101 (by decide) ?_
          refine r_callVv 102 C dX1_takeTop_102 [] [(h0, .inr (1, [.ref h1, .ref h6, .ref h7, .int 1, .long 0, .long 9223372036854775807, .int 0, .int 0, .long 0, .long 0]))] [(h3, .inl (gI g, 6, .inl fn0)), (h1, .inr (2, [.ref h4, .int 0, .int 0, .ref h2, .ref h3, .ref h5])), (h2, .inl (gI g, 6, .inl f1))] (fun sz => c69_X1_want l g h0 h1 h6 h7 sz) gX1_takeTop_X1_want rfl ⟨rfl, rfl⟩ 1 (by decide) ⟨Nat.le_of_ble_eq_true rfl, Nat.le_of_ble_eq_true rfl⟩ 0 rfl rfl [0] [1, 2, 3] rfl rfl (by decide) (by decide) (by decide) rfl rfl (Nat.le_of_ble_eq_true rfl) ⟨Nat.le_of_ble_eq_true rfl, Nat.le_of_ble_eq_true rfl⟩ (fun  _ w132 => ?_)
          refine r_ws [(h3, .inl (gI g, 6, .inl fn0)), (h1, .inr (2, [.ref h4, .int 0, .int 0, .ref h2, .ref h3, .ref h5])), (h2, .inl (gI g, 6, .inl f1)), (h0, .inr (1, [.ref h1, .ref h6, .ref h7, .int 1, .long 0, .long 9223372036854775807, .int 0, .int 0, .long 0, .long 0]))] rfl ?_
          exact r_vret 105 Rt dX1_takeTop_105 f1 trivial [1, 2, 0, 3] (by decide) rfl (Nat.le_of_ble_eq_true rfl) (Nat.le_of_ble_eq_true rfl)
        · skip
          have k133 : (Int32.toInt r128) = 2 := (fa_eq r128 2).mp c130
          refine r_iconst 97 1 C dX1_takeTop_97 (by decide) ?_
          refine r_goto 98 102 C dX1_takeTop_98 (by decide) ?_
          refine r_callVv 102 C dX1_takeTop_102 [] [] [(h0, .inr (1, [.ref h1, .ref h6, .ref h7, .int 1, .long 0, .long 9223372036854775807, .int 0, .int 0, .long 0, .long 0])), (h3, .inl (gI g, 6, .inl fn0)), (h1, .inr (2, [.ref h4, .int 0, .int 0, .ref h2, .ref h3, .ref h5])), (h2, .inl (gI g, 6, .inl f1))] (fun sz => c77_X1_want l g h0 sz) gX1_takeTop_X1_want rfl ⟨rfl, rfl⟩ 1 (by decide) ⟨Nat.le_of_ble_eq_true rfl, Nat.le_of_ble_eq_true rfl⟩ 0 rfl rfl [] [0, 1, 2, 3] rfl rfl (by decide) (by decide) (by decide) rfl rfl (Nat.le_of_ble_eq_true rfl) ⟨Nat.le_of_ble_eq_true rfl, Nat.le_of_ble_eq_true rfl⟩ (fun  _ w134 => ?_)
          refine r_ws [(h0, .inr (1, [.ref h1, .ref h6, .ref h7, .int 1, .long 0, .long 9223372036854775807, .int 0, .int 0, .long 0, .long 0])), (h3, .inl (gI g, 6, .inl fn0)), (h1, .inr (2, [.ref h4, .int 0, .int 0, .ref h2, .ref h3, .ref h5])), (h2, .inl (gI g, 6, .inl f1))] rfl ?_
          exact r_vret 105 Rt dX1_takeTop_105 f1 trivial [2, 3, 1, 0] (by decide) rfl (Nat.le_of_ble_eq_true rfl) (Nat.le_of_ble_eq_true rfl)
      rcases w123 with rfl | w123
      · skip
        refine r_callVv 66 C dX1_takeTop_66 [] [(h0, .inr (1, [.ref h1, .ref h6, .ref h7, .int 1, .long 0, .long 9223372036854775807, .int 0, .int 0, .long 0, .long 0]))] [(h3, .inl (gI g, 6, .inl fn0)), (h1, .inr (2, [.ref h4, .int 0, .int 0, .ref h2, .ref h3, .ref h5])), (h2, .inl (gI g, 6, .inl f1))] (fun sz => c69_X1_want l g h0 h1 h6 h7 sz) gX1_takeTop_X1_want rfl ⟨rfl, rfl⟩ 1 (by decide) ⟨Nat.le_of_ble_eq_true rfl, Nat.le_of_ble_eq_true rfl⟩ 1 rfl rfl [1] [0, 2, 3] rfl rfl (by decide) (by decide) (by decide) rfl rfl (Nat.le_of_ble_eq_true rfl) ⟨Nat.le_of_ble_eq_true rfl, Nat.le_of_ble_eq_true rfl⟩ (fun  _ w135 => ?_)
        refine r_ws [(h3, .inl (gI g, 6, .inl fn0)), (h1, .inr (2, [.ref h4, .int 0, .int 0, .ref h2, .ref h3, .ref h5])), (h2, .inl (gI g, 6, .inl f1)), (h0, .inr (1, [.ref h1, .ref h6, .ref h7, .int 1, .long 0, .long 9223372036854775807, .int 0, .int 0, .long 0, .long 0]))] rfl ?_
        refine r_aload_n 69 0 C dX1_takeTop_69 rfl ?_
        refine r_aload_n 70 0 C dX1_takeTop_70 rfl ?_
        refine r_get 71 C dX1_takeTop_71 (k := 0) 3 rfl rfl hiX1 (by decide) rfl (mg 1 rfl) (Or.inl rfl) rfl ?_
        refine r_sipush 74 262 C dX1_takeTop_74 (by decide) ?_
        refine r_callVi 77 C dX1_takeTop_77 [.ref h0] [(h1, .inr (2, [.ref h4, .int 0, .int 0, .ref h2, .ref h3, .ref h5])), (h2, .inl (gI g, 6, .inl f1))] [(h3, .inl (gI g, 6, .inl fn0)), (h0, .inr (1, [.ref h1, .ref h6, .ref h7, .int 1, .long 0, .long 9223372036854775807, .int 0, .int 0, .long 0, .long 0]))] (fun sz => c90_X2_isTold l g h1 h2 h4 h3 h5 f1 sz) gX1_takeTop_X2_isTold rfl ⟨rfl, rfl⟩ 1 (by decide) ⟨Nat.le_of_ble_eq_true rfl, Nat.le_of_ble_eq_true rfl⟩ 1 rfl rfl [1, 2] [0, 3] rfl rfl (by decide) (by decide) (by decide) rfl rfl (Nat.le_of_ble_eq_true rfl) ⟨Nat.le_of_ble_eq_true rfl, Nat.le_of_ble_eq_true rfl⟩ (fun r136 _ w137 => ?_)
        refine r_ws [(h3, .inl (gI g, 6, .inl fn0)), (h0, .inr (1, [.ref h1, .ref h6, .ref h7, .int 1, .long 0, .long 9223372036854775807, .int 0, .int 0, .long 0, .long 0])), (h1, .inr (2, [.ref h4, .int 0, .int 0, .ref h2, .ref h3, .ref h5])), (h2, .inl (gI g, 6, .inl f1))] rfl ?_
        rcases w137 with rfl | w137
        · skip
          refine r_if_eq_t 80 97 C dX1_takeTop_80 (by decide) (by decide) ?_
          refine r_iconst 97 1 C dX1_takeTop_97 (by decide) ?_
          refine r_goto 98 102 C dX1_takeTop_98 (by decide) ?_
          refine r_callVv 102 C dX1_takeTop_102 [] [] [(h3, .inl (gI g, 6, .inl fn0)), (h0, .inr (1, [.ref h1, .ref h6, .ref h7, .int 1, .long 0, .long 9223372036854775807, .int 0, .int 0, .long 0, .long 0])), (h1, .inr (2, [.ref h4, .int 0, .int 0, .ref h2, .ref h3, .ref h5])), (h2, .inl (gI g, 6, .inl f1))] (fun sz => c77_X1_want l g h0 sz) gX1_takeTop_X1_want rfl ⟨rfl, rfl⟩ 1 (by decide) ⟨Nat.le_of_ble_eq_true rfl, Nat.le_of_ble_eq_true rfl⟩ 1 rfl rfl [] [0, 1, 2, 3] rfl rfl (by decide) (by decide) (by decide) rfl rfl (Nat.le_of_ble_eq_true rfl) ⟨Nat.le_of_ble_eq_true rfl, Nat.le_of_ble_eq_true rfl⟩ (fun  _ w138 => ?_)
          refine r_ws [(h3, .inl (gI g, 6, .inl fn0)), (h0, .inr (1, [.ref h1, .ref h6, .ref h7, .int 1, .long 0, .long 9223372036854775807, .int 0, .int 0, .long 0, .long 0])), (h1, .inr (2, [.ref h4, .int 0, .int 0, .ref h2, .ref h3, .ref h5])), (h2, .inl (gI g, 6, .inl f1))] rfl ?_
          exact r_vret 105 Rt dX1_takeTop_105 f1 trivial [2, 3, 0, 1] (by decide) rfl (Nat.le_of_ble_eq_true rfl) (Nat.le_of_ble_eq_true rfl)
        obtain rfl := w137
        refine r_if_eq_f 80 97 C dX1_takeTop_80 (by decide) (by decide) ?_
        refine r_aload_n 83 0 C dX1_takeTop_83 rfl ?_
        refine r_get 84 C dX1_takeTop_84 (k := 0) 1 rfl rfl hiX1 (by decide) rfl (mg 1 rfl) (Or.inl rfl) rfl ?_
        refine r_sipush 87 262 C dX1_takeTop_87 (by decide) ?_
        refine r_callVi 90 C dX1_takeTop_90 [.ref h0] [(h3, .inl (gI g, 6, .inl fn0)), (h1, .inr (2, [.ref h4, .int 0, .int 0, .ref h2, .ref h3, .ref h5])), (h2, .inl (gI g, 6, .inl f1))] [(h0, .inr (1, [.ref h1, .ref h6, .ref h7, .int 1, .long 0, .long 9223372036854775807, .int 0, .int 0, .long 0, .long 0]))] (fun sz => c91_X2_first l g h1 h3 h2 fn0 h4 h5 f1 sz) gX1_takeTop_X2_first rfl ⟨rfl, rfl⟩ 1 (by decide) ⟨Nat.le_of_ble_eq_true rfl, Nat.le_of_ble_eq_true rfl⟩ 2 rfl rfl [0, 2, 3] [1] rfl rfl (by decide) (by decide) (by decide) rfl rfl (Nat.le_of_ble_eq_true rfl) ⟨Nat.le_of_ble_eq_true rfl, Nat.le_of_ble_eq_true rfl⟩ (fun r139 _ w140 => ?_)
        refine r_ws [(h0, .inr (1, [.ref h1, .ref h6, .ref h7, .int 1, .long 0, .long 9223372036854775807, .int 0, .int 0, .long 0, .long 0])), (h3, .inl (gI g, 6, .inl fn0)), (h1, .inr (2, [.ref h4, .int 0, .int 0, .ref h2, .ref h3, .ref h5])), (h2, .inl (gI g, 6, .inl f1))] rfl ?_
        refine r_iconst 93 2 C dX1_takeTop_93 (by decide) ?_
        refine r_icmp_ne 94 101 C dX1_takeTop_94 (by decide) (fun c141 => ?_) (fun c141 => ?_)
        · skip
          have k142 : ¬ ((Int32.toInt r139) = 2) := fun h_9 => c141 ((fa_eq r139 2).mpr h_9)
          refine r_iconst 101 0 C dX1_takeTop_101 (by decide) ?_
          refine r_callVv 102 C dX1_takeTop_102 [] [(h0, .inr (1, [.ref h1, .ref h6, .ref h7, .int 1, .long 0, .long 9223372036854775807, .int 0, .int 0, .long 0, .long 0]))] [(h3, .inl (gI g, 6, .inl fn0)), (h1, .inr (2, [.ref h4, .int 0, .int 0, .ref h2, .ref h3, .ref h5])), (h2, .inl (gI g, 6, .inl f1))] (fun sz => c69_X1_want l g h0 h1 h6 h7 sz) gX1_takeTop_X1_want rfl ⟨rfl, rfl⟩ 1 (by decide) ⟨Nat.le_of_ble_eq_true rfl, Nat.le_of_ble_eq_true rfl⟩ 0 rfl rfl [0] [1, 2, 3] rfl rfl (by decide) (by decide) (by decide) rfl rfl (Nat.le_of_ble_eq_true rfl) ⟨Nat.le_of_ble_eq_true rfl, Nat.le_of_ble_eq_true rfl⟩ (fun  _ w143 => ?_)
          refine r_ws [(h3, .inl (gI g, 6, .inl fn0)), (h1, .inr (2, [.ref h4, .int 0, .int 0, .ref h2, .ref h3, .ref h5])), (h2, .inl (gI g, 6, .inl f1)), (h0, .inr (1, [.ref h1, .ref h6, .ref h7, .int 1, .long 0, .long 9223372036854775807, .int 0, .int 0, .long 0, .long 0]))] rfl ?_
          exact r_vret 105 Rt dX1_takeTop_105 f1 trivial [1, 2, 0, 3] (by decide) rfl (Nat.le_of_ble_eq_true rfl) (Nat.le_of_ble_eq_true rfl)
        · skip
          have k144 : (Int32.toInt r139) = 2 := (fa_eq r139 2).mp c141
          refine r_iconst 97 1 C dX1_takeTop_97 (by decide) ?_
          refine r_goto 98 102 C dX1_takeTop_98 (by decide) ?_
          refine r_callVv 102 C dX1_takeTop_102 [] [] [(h0, .inr (1, [.ref h1, .ref h6, .ref h7, .int 1, .long 0, .long 9223372036854775807, .int 0, .int 0, .long 0, .long 0])), (h3, .inl (gI g, 6, .inl fn0)), (h1, .inr (2, [.ref h4, .int 0, .int 0, .ref h2, .ref h3, .ref h5])), (h2, .inl (gI g, 6, .inl f1))] (fun sz => c77_X1_want l g h0 sz) gX1_takeTop_X1_want rfl ⟨rfl, rfl⟩ 1 (by decide) ⟨Nat.le_of_ble_eq_true rfl, Nat.le_of_ble_eq_true rfl⟩ 0 rfl rfl [] [0, 1, 2, 3] rfl rfl (by decide) (by decide) (by decide) rfl rfl (Nat.le_of_ble_eq_true rfl) ⟨Nat.le_of_ble_eq_true rfl, Nat.le_of_ble_eq_true rfl⟩ (fun  _ w145 => ?_)
          refine r_ws [(h0, .inr (1, [.ref h1, .ref h6, .ref h7, .int 1, .long 0, .long 9223372036854775807, .int 0, .int 0, .long 0, .long 0])), (h3, .inl (gI g, 6, .inl fn0)), (h1, .inr (2, [.ref h4, .int 0, .int 0, .ref h2, .ref h3, .ref h5])), (h2, .inl (gI g, 6, .inl f1))] rfl ?_
          exact r_vret 105 Rt dX1_takeTop_105 f1 trivial [2, 3, 1, 0] (by decide) rfl (Nat.le_of_ble_eq_true rfl) (Nat.le_of_ble_eq_true rfl)
      obtain rfl := w123
      refine r_callVv 66 C dX1_takeTop_66 [] [] [(h3, .inl (gI g, 6, .inl fn0)), (h0, .inr (1, [.ref h1, .ref h6, .ref h7, .int 1, .long 0, .long 9223372036854775807, .int 0, .int 0, .long 0, .long 0])), (h1, .inr (2, [.ref h4, .int 0, .int 0, .ref h2, .ref h3, .ref h5])), (h2, .inl (gI g, 6, .inl f1))] (fun sz => c77_X1_want l g h0 sz) gX1_takeTop_X1_want rfl ⟨rfl, rfl⟩ 1 (by decide) ⟨Nat.le_of_ble_eq_true rfl, Nat.le_of_ble_eq_true rfl⟩ 1 rfl rfl [] [0, 1, 2, 3] rfl rfl (by decide) (by decide) (by decide) rfl rfl (Nat.le_of_ble_eq_true rfl) ⟨Nat.le_of_ble_eq_true rfl, Nat.le_of_ble_eq_true rfl⟩ (fun  _ w146 => ?_)
      refine r_ws [(h3, .inl (gI g, 6, .inl fn0)), (h0, .inr (1, [.ref h1, .ref h6, .ref h7, .int 1, .long 0, .long 9223372036854775807, .int 0, .int 0, .long 0, .long 0])), (h1, .inr (2, [.ref h4, .int 0, .int 0, .ref h2, .ref h3, .ref h5])), (h2, .inl (gI g, 6, .inl f1))] rfl ?_
      refine r_aload_n 69 0 C dX1_takeTop_69 rfl ?_
      refine r_aload_n 70 0 C dX1_takeTop_70 rfl ?_
      refine r_get 71 C dX1_takeTop_71 (k := 0) 1 rfl rfl hiX1 (by decide) rfl (mg 1 rfl) (Or.inl rfl) rfl ?_
      refine r_sipush 74 262 C dX1_takeTop_74 (by decide) ?_
      refine r_callVi 77 C dX1_takeTop_77 [.ref h0] [(h1, .inr (2, [.ref h4, .int 0, .int 0, .ref h2, .ref h3, .ref h5])), (h2, .inl (gI g, 6, .inl f1))] [(h3, .inl (gI g, 6, .inl fn0)), (h0, .inr (1, [.ref h1, .ref h6, .ref h7, .int 1, .long 0, .long 9223372036854775807, .int 0, .int 0, .long 0, .long 0]))] (fun sz => c90_X2_isTold l g h1 h2 h4 h3 h5 f1 sz) gX1_takeTop_X2_isTold rfl ⟨rfl, rfl⟩ 1 (by decide) ⟨Nat.le_of_ble_eq_true rfl, Nat.le_of_ble_eq_true rfl⟩ 2 rfl rfl [2, 3] [0, 1] rfl rfl (by decide) (by decide) (by decide) rfl rfl (Nat.le_of_ble_eq_true rfl) ⟨Nat.le_of_ble_eq_true rfl, Nat.le_of_ble_eq_true rfl⟩ (fun r147 _ w148 => ?_)
      refine r_ws [(h3, .inl (gI g, 6, .inl fn0)), (h0, .inr (1, [.ref h1, .ref h6, .ref h7, .int 1, .long 0, .long 9223372036854775807, .int 0, .int 0, .long 0, .long 0])), (h1, .inr (2, [.ref h4, .int 0, .int 0, .ref h2, .ref h3, .ref h5])), (h2, .inl (gI g, 6, .inl f1))] rfl ?_
      rcases w148 with rfl | w148
      · skip
        refine r_if_eq_t 80 97 C dX1_takeTop_80 (by decide) (by decide) ?_
        refine r_iconst 97 1 C dX1_takeTop_97 (by decide) ?_
        refine r_goto 98 102 C dX1_takeTop_98 (by decide) ?_
        refine r_callVv 102 C dX1_takeTop_102 [] [] [(h3, .inl (gI g, 6, .inl fn0)), (h0, .inr (1, [.ref h1, .ref h6, .ref h7, .int 1, .long 0, .long 9223372036854775807, .int 0, .int 0, .long 0, .long 0])), (h1, .inr (2, [.ref h4, .int 0, .int 0, .ref h2, .ref h3, .ref h5])), (h2, .inl (gI g, 6, .inl f1))] (fun sz => c77_X1_want l g h0 sz) gX1_takeTop_X1_want rfl ⟨rfl, rfl⟩ 1 (by decide) ⟨Nat.le_of_ble_eq_true rfl, Nat.le_of_ble_eq_true rfl⟩ 1 rfl rfl [] [0, 1, 2, 3] rfl rfl (by decide) (by decide) (by decide) rfl rfl (Nat.le_of_ble_eq_true rfl) ⟨Nat.le_of_ble_eq_true rfl, Nat.le_of_ble_eq_true rfl⟩ (fun  _ w149 => ?_)
        refine r_ws [(h3, .inl (gI g, 6, .inl fn0)), (h0, .inr (1, [.ref h1, .ref h6, .ref h7, .int 1, .long 0, .long 9223372036854775807, .int 0, .int 0, .long 0, .long 0])), (h1, .inr (2, [.ref h4, .int 0, .int 0, .ref h2, .ref h3, .ref h5])), (h2, .inl (gI g, 6, .inl f1))] rfl ?_
        exact r_vret 105 Rt dX1_takeTop_105 f1 trivial [2, 3, 0, 1] (by decide) rfl (Nat.le_of_ble_eq_true rfl) (Nat.le_of_ble_eq_true rfl)
      obtain rfl := w148
      refine r_if_eq_f 80 97 C dX1_takeTop_80 (by decide) (by decide) ?_
      refine r_aload_n 83 0 C dX1_takeTop_83 rfl ?_
      refine r_get 84 C dX1_takeTop_84 (k := 0) 1 rfl rfl hiX1 (by decide) rfl (mg 1 rfl) (Or.inl rfl) rfl ?_
      refine r_sipush 87 262 C dX1_takeTop_87 (by decide) ?_
      refine r_callVi 90 C dX1_takeTop_90 [.ref h0] [(h3, .inl (gI g, 6, .inl fn0)), (h1, .inr (2, [.ref h4, .int 0, .int 0, .ref h2, .ref h3, .ref h5])), (h2, .inl (gI g, 6, .inl f1))] [(h0, .inr (1, [.ref h1, .ref h6, .ref h7, .int 1, .long 0, .long 9223372036854775807, .int 0, .int 0, .long 0, .long 0]))] (fun sz => c91_X2_first l g h1 h3 h2 fn0 h4 h5 f1 sz) gX1_takeTop_X2_first rfl ⟨rfl, rfl⟩ 1 (by decide) ⟨Nat.le_of_ble_eq_true rfl, Nat.le_of_ble_eq_true rfl⟩ 2 rfl rfl [0, 2, 3] [1] rfl rfl (by decide) (by decide) (by decide) rfl rfl (Nat.le_of_ble_eq_true rfl) ⟨Nat.le_of_ble_eq_true rfl, Nat.le_of_ble_eq_true rfl⟩ (fun r150 _ w151 => ?_)
      refine r_ws [(h0, .inr (1, [.ref h1, .ref h6, .ref h7, .int 1, .long 0, .long 9223372036854775807, .int 0, .int 0, .long 0, .long 0])), (h3, .inl (gI g, 6, .inl fn0)), (h1, .inr (2, [.ref h4, .int 0, .int 0, .ref h2, .ref h3, .ref h5])), (h2, .inl (gI g, 6, .inl f1))] rfl ?_
      refine r_iconst 93 2 C dX1_takeTop_93 (by decide) ?_
      refine r_icmp_ne 94 101 C dX1_takeTop_94 (by decide) (fun c152 => ?_) (fun c152 => ?_)
      · skip
        have k153 : ¬ ((Int32.toInt r150) = 2) := fun h_9 => c152 ((fa_eq r150 2).mpr h_9)
        refine r_iconst 101 0 C dX1_takeTop_101 (by decide) ?_
        refine r_callVv 102 C dX1_takeTop_102 [] [(h0, .inr (1, [.ref h1, .ref h6, .ref h7, .int 1, .long 0, .long 9223372036854775807, .int 0, .int 0, .long 0, .long 0]))] [(h3, .inl (gI g, 6, .inl fn0)), (h1, .inr (2, [.ref h4, .int 0, .int 0, .ref h2, .ref h3, .ref h5])), (h2, .inl (gI g, 6, .inl f1))] (fun sz => c69_X1_want l g h0 h1 h6 h7 sz) gX1_takeTop_X1_want rfl ⟨rfl, rfl⟩ 1 (by decide) ⟨Nat.le_of_ble_eq_true rfl, Nat.le_of_ble_eq_true rfl⟩ 0 rfl rfl [0] [1, 2, 3] rfl rfl (by decide) (by decide) (by decide) rfl rfl (Nat.le_of_ble_eq_true rfl) ⟨Nat.le_of_ble_eq_true rfl, Nat.le_of_ble_eq_true rfl⟩ (fun  _ w154 => ?_)
        refine r_ws [(h3, .inl (gI g, 6, .inl fn0)), (h1, .inr (2, [.ref h4, .int 0, .int 0, .ref h2, .ref h3, .ref h5])), (h2, .inl (gI g, 6, .inl f1)), (h0, .inr (1, [.ref h1, .ref h6, .ref h7, .int 1, .long 0, .long 9223372036854775807, .int 0, .int 0, .long 0, .long 0]))] rfl ?_
        exact r_vret 105 Rt dX1_takeTop_105 f1 trivial [1, 2, 0, 3] (by decide) rfl (Nat.le_of_ble_eq_true rfl) (Nat.le_of_ble_eq_true rfl)
      · skip
        have k155 : (Int32.toInt r150) = 2 := (fa_eq r150 2).mp c152
        refine r_iconst 97 1 C dX1_takeTop_97 (by decide) ?_
        refine r_goto 98 102 C dX1_takeTop_98 (by decide) ?_
        refine r_callVv 102 C dX1_takeTop_102 [] [] [(h0, .inr (1, [.ref h1, .ref h6, .ref h7, .int 1, .long 0, .long 9223372036854775807, .int 0, .int 0, .long 0, .long 0])), (h3, .inl (gI g, 6, .inl fn0)), (h1, .inr (2, [.ref h4, .int 0, .int 0, .ref h2, .ref h3, .ref h5])), (h2, .inl (gI g, 6, .inl f1))] (fun sz => c77_X1_want l g h0 sz) gX1_takeTop_X1_want rfl ⟨rfl, rfl⟩ 1 (by decide) ⟨Nat.le_of_ble_eq_true rfl, Nat.le_of_ble_eq_true rfl⟩ 0 rfl rfl [] [0, 1, 2, 3] rfl rfl (by decide) (by decide) (by decide) rfl rfl (Nat.le_of_ble_eq_true rfl) ⟨Nat.le_of_ble_eq_true rfl, Nat.le_of_ble_eq_true rfl⟩ (fun  _ w156 => ?_)
        refine r_ws [(h0, .inr (1, [.ref h1, .ref h6, .ref h7, .int 1, .long 0, .long 9223372036854775807, .int 0, .int 0, .long 0, .long 0])), (h3, .inl (gI g, 6, .inl fn0)), (h1, .inr (2, [.ref h4, .int 0, .int 0, .ref h2, .ref h3, .ref h5])), (h2, .inl (gI g, 6, .inl f1))] rfl ?_
        exact r_vret 105 Rt dX1_takeTop_105 f1 trivial [2, 3, 1, 0] (by decide) rfl (Nat.le_of_ble_eq_true rfl) (Nat.le_of_ble_eq_true rfl)
    rcases w120 with rfl | w120
    · skip
      refine r_callVv 51 C dX1_takeTop_51 [] [(h0, .inr (1, [.ref h1, .ref h6, .ref h7, .int 1, .long 0, .long 9223372036854775807, .int 0, .int 0, .long 0, .long 0]))] [(h3, .inl (gI g, 6, .inl fn0)), (h1, .inr (2, [.ref h4, .int 0, .int 0, .ref h2, .ref h3, .ref h5])), (h2, .inl (gI g, 6, .inl f1))] (fun sz => c69_X1_want l g h0 h1 h6 h7 sz) gX1_takeTop_X1_want rfl ⟨rfl, rfl⟩ 1 (by decide) ⟨Nat.le_of_ble_eq_true rfl, Nat.le_of_ble_eq_true rfl⟩ 1 rfl rfl [1] [0, 2, 3] rfl rfl (by decide) (by decide) (by decide) rfl rfl (Nat.le_of_ble_eq_true rfl) ⟨Nat.le_of_ble_eq_true rfl, Nat.le_of_ble_eq_true rfl⟩ (fun  _ w157 => ?_)
      refine r_ws [(h3, .inl (gI g, 6, .inl fn0)), (h1, .inr (2, [.ref h4, .int 0, .int 0, .ref h2, .ref h3, .ref h5])), (h2, .inl (gI g, 6, .inl f1)), (h0, .inr (1, [.ref h1, .ref h6, .ref h7, .int 1, .long 0, .long 9223372036854775807, .int 0, .int 0, .long 0, .long 0]))] rfl ?_
      refine r_aload_n 54 0 C dX1_takeTop_54 rfl ?_
      refine r_aload_n 55 0 C dX1_takeTop_55 rfl ?_
      refine r_get 56 C dX1_takeTop_56 (k := 0) 3 rfl rfl hiX1 (by decide) rfl (mg 1 rfl) (Or.inl rfl) rfl ?_
      refine r_sipush 59 262 C dX1_takeTop_59 (by decide) ?_
      refine r_iconst 62 1 C dX1_takeTop_62 (by decide) ?_
      refine r_callVi 63 C dX1_takeTop_63 [.ref h0] [(h1, .inr (2, [.ref h4, .int 0, .int 0, .ref h2, .ref h3, .ref h5])), (h2, .inl (gI g, 6, .inl f1))] [(h3, .inl (gI g, 6, .inl fn0)), (h0, .inr (1, [.ref h1, .ref h6, .ref h7, .int 1, .long 0, .long 9223372036854775807, .int 0, .int 0, .long 0, .long 0]))] (fun sz => c89_X2_fits l g h1 h2 h4 h3 h5 f1 sz) gX1_takeTop_X2_fits rfl ⟨rfl, rfl⟩ 2 (by decide) ⟨Nat.le_of_ble_eq_true rfl, Nat.le_of_ble_eq_true rfl⟩ 1 rfl rfl [1, 2] [0, 3] rfl rfl (by decide) (by decide) (by decide) rfl rfl (Nat.le_of_ble_eq_true rfl) ⟨Nat.le_of_ble_eq_true rfl, Nat.le_of_ble_eq_true rfl⟩ (fun r158 _ w159 => ?_)
      refine r_ws [(h3, .inl (gI g, 6, .inl fn0)), (h0, .inr (1, [.ref h1, .ref h6, .ref h7, .int 1, .long 0, .long 9223372036854775807, .int 0, .int 0, .long 0, .long 0])), (h1, .inr (2, [.ref h4, .int 0, .int 0, .ref h2, .ref h3, .ref h5])), (h2, .inl (gI g, 6, .inl f1))] rfl ?_
      rcases w159 with rfl | w159
      · skip
        refine r_callVv 66 C dX1_takeTop_66 [] [] [(h3, .inl (gI g, 6, .inl fn0)), (h0, .inr (1, [.ref h1, .ref h6, .ref h7, .int 1, .long 0, .long 9223372036854775807, .int 0, .int 0, .long 0, .long 0])), (h1, .inr (2, [.ref h4, .int 0, .int 0, .ref h2, .ref h3, .ref h5])), (h2, .inl (gI g, 6, .inl f1))] (fun sz => c77_X1_want l g h0 sz) gX1_takeTop_X1_want rfl ⟨rfl, rfl⟩ 1 (by decide) ⟨Nat.le_of_ble_eq_true rfl, Nat.le_of_ble_eq_true rfl⟩ 1 rfl rfl [] [0, 1, 2, 3] rfl rfl (by decide) (by decide) (by decide) rfl rfl (Nat.le_of_ble_eq_true rfl) ⟨Nat.le_of_ble_eq_true rfl, Nat.le_of_ble_eq_true rfl⟩ (fun  _ w160 => ?_)
        refine r_ws [(h3, .inl (gI g, 6, .inl fn0)), (h0, .inr (1, [.ref h1, .ref h6, .ref h7, .int 1, .long 0, .long 9223372036854775807, .int 0, .int 0, .long 0, .long 0])), (h1, .inr (2, [.ref h4, .int 0, .int 0, .ref h2, .ref h3, .ref h5])), (h2, .inl (gI g, 6, .inl f1))] rfl ?_
        refine r_aload_n 69 0 C dX1_takeTop_69 rfl ?_
        refine r_aload_n 70 0 C dX1_takeTop_70 rfl ?_
        refine r_get 71 C dX1_takeTop_71 (k := 0) 1 rfl rfl hiX1 (by decide) rfl (mg 1 rfl) (Or.inl rfl) rfl ?_
        refine r_sipush 74 262 C dX1_takeTop_74 (by decide) ?_
        refine r_callVi 77 C dX1_takeTop_77 [.ref h0] [(h1, .inr (2, [.ref h4, .int 0, .int 0, .ref h2, .ref h3, .ref h5])), (h2, .inl (gI g, 6, .inl f1))] [(h3, .inl (gI g, 6, .inl fn0)), (h0, .inr (1, [.ref h1, .ref h6, .ref h7, .int 1, .long 0, .long 9223372036854775807, .int 0, .int 0, .long 0, .long 0]))] (fun sz => c90_X2_isTold l g h1 h2 h4 h3 h5 f1 sz) gX1_takeTop_X2_isTold rfl ⟨rfl, rfl⟩ 1 (by decide) ⟨Nat.le_of_ble_eq_true rfl, Nat.le_of_ble_eq_true rfl⟩ 2 rfl rfl [2, 3] [0, 1] rfl rfl (by decide) (by decide) (by decide) rfl rfl (Nat.le_of_ble_eq_true rfl) ⟨Nat.le_of_ble_eq_true rfl, Nat.le_of_ble_eq_true rfl⟩ (fun r161 _ w162 => ?_)
        refine r_ws [(h3, .inl (gI g, 6, .inl fn0)), (h0, .inr (1, [.ref h1, .ref h6, .ref h7, .int 1, .long 0, .long 9223372036854775807, .int 0, .int 0, .long 0, .long 0])), (h1, .inr (2, [.ref h4, .int 0, .int 0, .ref h2, .ref h3, .ref h5])), (h2, .inl (gI g, 6, .inl f1))] rfl ?_
        rcases w162 with rfl | w162
        · skip
          refine r_if_eq_t 80 97 C dX1_takeTop_80 (by decide) (by decide) ?_
          refine r_iconst 97 1 C dX1_takeTop_97 (by decide) ?_
          refine r_goto 98 102 C dX1_takeTop_98 (by decide) ?_
          refine r_callVv 102 C dX1_takeTop_102 [] [] [(h3, .inl (gI g, 6, .inl fn0)), (h0, .inr (1, [.ref h1, .ref h6, .ref h7, .int 1, .long 0, .long 9223372036854775807, .int 0, .int 0, .long 0, .long 0])), (h1, .inr (2, [.ref h4, .int 0, .int 0, .ref h2, .ref h3, .ref h5])), (h2, .inl (gI g, 6, .inl f1))] (fun sz => c77_X1_want l g h0 sz) gX1_takeTop_X1_want rfl ⟨rfl, rfl⟩ 1 (by decide) ⟨Nat.le_of_ble_eq_true rfl, Nat.le_of_ble_eq_true rfl⟩ 1 rfl rfl [] [0, 1, 2, 3] rfl rfl (by decide) (by decide) (by decide) rfl rfl (Nat.le_of_ble_eq_true rfl) ⟨Nat.le_of_ble_eq_true rfl, Nat.le_of_ble_eq_true rfl⟩ (fun  _ w163 => ?_)
          refine r_ws [(h3, .inl (gI g, 6, .inl fn0)), (h0, .inr (1, [.ref h1, .ref h6, .ref h7, .int 1, .long 0, .long 9223372036854775807, .int 0, .int 0, .long 0, .long 0])), (h1, .inr (2, [.ref h4, .int 0, .int 0, .ref h2, .ref h3, .ref h5])), (h2, .inl (gI g, 6, .inl f1))] rfl ?_
          exact r_vret 105 Rt dX1_takeTop_105 f1 trivial [2, 3, 0, 1] (by decide) rfl (Nat.le_of_ble_eq_true rfl) (Nat.le_of_ble_eq_true rfl)
        obtain rfl := w162
        refine r_if_eq_f 80 97 C dX1_takeTop_80 (by decide) (by decide) ?_
        refine r_aload_n 83 0 C dX1_takeTop_83 rfl ?_
        refine r_get 84 C dX1_takeTop_84 (k := 0) 1 rfl rfl hiX1 (by decide) rfl (mg 1 rfl) (Or.inl rfl) rfl ?_
        refine r_sipush 87 262 C dX1_takeTop_87 (by decide) ?_
        refine r_callVi 90 C dX1_takeTop_90 [.ref h0] [(h3, .inl (gI g, 6, .inl fn0)), (h1, .inr (2, [.ref h4, .int 0, .int 0, .ref h2, .ref h3, .ref h5])), (h2, .inl (gI g, 6, .inl f1))] [(h0, .inr (1, [.ref h1, .ref h6, .ref h7, .int 1, .long 0, .long 9223372036854775807, .int 0, .int 0, .long 0, .long 0]))] (fun sz => c91_X2_first l g h1 h3 h2 fn0 h4 h5 f1 sz) gX1_takeTop_X2_first rfl ⟨rfl, rfl⟩ 1 (by decide) ⟨Nat.le_of_ble_eq_true rfl, Nat.le_of_ble_eq_true rfl⟩ 2 rfl rfl [0, 2, 3] [1] rfl rfl (by decide) (by decide) (by decide) rfl rfl (Nat.le_of_ble_eq_true rfl) ⟨Nat.le_of_ble_eq_true rfl, Nat.le_of_ble_eq_true rfl⟩ (fun r164 _ w165 => ?_)
        refine r_ws [(h0, .inr (1, [.ref h1, .ref h6, .ref h7, .int 1, .long 0, .long 9223372036854775807, .int 0, .int 0, .long 0, .long 0])), (h3, .inl (gI g, 6, .inl fn0)), (h1, .inr (2, [.ref h4, .int 0, .int 0, .ref h2, .ref h3, .ref h5])), (h2, .inl (gI g, 6, .inl f1))] rfl ?_
        refine r_iconst 93 2 C dX1_takeTop_93 (by decide) ?_
        refine r_icmp_ne 94 101 C dX1_takeTop_94 (by decide) (fun c166 => ?_) (fun c166 => ?_)
        · skip
          have k167 : ¬ ((Int32.toInt r164) = 2) := fun h_9 => c166 ((fa_eq r164 2).mpr h_9)
          refine r_iconst 101 0 C dX1_takeTop_101 (by decide) ?_
          refine r_callVv 102 C dX1_takeTop_102 [] [(h0, .inr (1, [.ref h1, .ref h6, .ref h7, .int 1, .long 0, .long 9223372036854775807, .int 0, .int 0, .long 0, .long 0]))] [(h3, .inl (gI g, 6, .inl fn0)), (h1, .inr (2, [.ref h4, .int 0, .int 0, .ref h2, .ref h3, .ref h5])), (h2, .inl (gI g, 6, .inl f1))] (fun sz => c69_X1_want l g h0 h1 h6 h7 sz) gX1_takeTop_X1_want rfl ⟨rfl, rfl⟩ 1 (by decide) ⟨Nat.le_of_ble_eq_true rfl, Nat.le_of_ble_eq_true rfl⟩ 0 rfl rfl [0] [1, 2, 3] rfl rfl (by decide) (by decide) (by decide) rfl rfl (Nat.le_of_ble_eq_true rfl) ⟨Nat.le_of_ble_eq_true rfl, Nat.le_of_ble_eq_true rfl⟩ (fun  _ w168 => ?_)
          refine r_ws [(h3, .inl (gI g, 6, .inl fn0)), (h1, .inr (2, [.ref h4, .int 0, .int 0, .ref h2, .ref h3, .ref h5])), (h2, .inl (gI g, 6, .inl f1)), (h0, .inr (1, [.ref h1, .ref h6, .ref h7, .int 1, .long 0, .long 9223372036854775807, .int 0, .int 0, .long 0, .long 0]))] rfl ?_
          exact r_vret 105 Rt dX1_takeTop_105 f1 trivial [1, 2, 0, 3] (by decide) rfl (Nat.le_of_ble_eq_true rfl) (Nat.le_of_ble_eq_true rfl)
        · skip
          have k169 : (Int32.toInt r164) = 2 := (fa_eq r164 2).mp c166
          refine r_iconst 97 1 C dX1_takeTop_97 (by decide) ?_
          refine r_goto 98 102 C dX1_takeTop_98 (by decide) ?_
          refine r_callVv 102 C dX1_takeTop_102 [] [] [(h0, .inr (1, [.ref h1, .ref h6, .ref h7, .int 1, .long 0, .long 9223372036854775807, .int 0, .int 0, .long 0, .long 0])), (h3, .inl (gI g, 6, .inl fn0)), (h1, .inr (2, [.ref h4, .int 0, .int 0, .ref h2, .ref h3, .ref h5])), (h2, .inl (gI g, 6, .inl f1))] (fun sz => c77_X1_want l g h0 sz) gX1_takeTop_X1_want rfl ⟨rfl, rfl⟩ 1 (by decide) ⟨Nat.le_of_ble_eq_true rfl, Nat.le_of_ble_eq_true rfl⟩ 0 rfl rfl [] [0, 1, 2, 3] rfl rfl (by decide) (by decide) (by decide) rfl rfl (Nat.le_of_ble_eq_true rfl) ⟨Nat.le_of_ble_eq_true rfl, Nat.le_of_ble_eq_true rfl⟩ (fun  _ w170 => ?_)
          refine r_ws [(h0, .inr (1, [.ref h1, .ref h6, .ref h7, .int 1, .long 0, .long 9223372036854775807, .int 0, .int 0, .long 0, .long 0])), (h3, .inl (gI g, 6, .inl fn0)), (h1, .inr (2, [.ref h4, .int 0, .int 0, .ref h2, .ref h3, .ref h5])), (h2, .inl (gI g, 6, .inl f1))] rfl ?_
          exact r_vret 105 Rt dX1_takeTop_105 f1 trivial [2, 3, 1, 0] (by decide) rfl (Nat.le_of_ble_eq_true rfl) (Nat.le_of_ble_eq_true rfl)
      rcases w159 with rfl | w159
      · skip
        refine r_callVv 66 C dX1_takeTop_66 [] [(h0, .inr (1, [.ref h1, .ref h6, .ref h7, .int 1, .long 0, .long 9223372036854775807, .int 0, .int 0, .long 0, .long 0]))] [(h3, .inl (gI g, 6, .inl fn0)), (h1, .inr (2, [.ref h4, .int 0, .int 0, .ref h2, .ref h3, .ref h5])), (h2, .inl (gI g, 6, .inl f1))] (fun sz => c69_X1_want l g h0 h1 h6 h7 sz) gX1_takeTop_X1_want rfl ⟨rfl, rfl⟩ 1 (by decide) ⟨Nat.le_of_ble_eq_true rfl, Nat.le_of_ble_eq_true rfl⟩ 1 rfl rfl [1] [0, 2, 3] rfl rfl (by decide) (by decide) (by decide) rfl rfl (Nat.le_of_ble_eq_true rfl) ⟨Nat.le_of_ble_eq_true rfl, Nat.le_of_ble_eq_true rfl⟩ (fun  _ w171 => ?_)
        refine r_ws [(h3, .inl (gI g, 6, .inl fn0)), (h1, .inr (2, [.ref h4, .int 0, .int 0, .ref h2, .ref h3, .ref h5])), (h2, .inl (gI g, 6, .inl f1)), (h0, .inr (1, [.ref h1, .ref h6, .ref h7, .int 1, .long 0, .long 9223372036854775807, .int 0, .int 0, .long 0, .long 0]))] rfl ?_
        refine r_aload_n 69 0 C dX1_takeTop_69 rfl ?_
        refine r_aload_n 70 0 C dX1_takeTop_70 rfl ?_
        refine r_get 71 C dX1_takeTop_71 (k := 0) 3 rfl rfl hiX1 (by decide) rfl (mg 1 rfl) (Or.inl rfl) rfl ?_
        refine r_sipush 74 262 C dX1_takeTop_74 (by decide) ?_
        refine r_callVi 77 C dX1_takeTop_77 [.ref h0] [(h1, .inr (2, [.ref h4, .int 0, .int 0, .ref h2, .ref h3, .ref h5])), (h2, .inl (gI g, 6, .inl f1))] [(h3, .inl (gI g, 6, .inl fn0)), (h0, .inr (1, [.ref h1, .ref h6, .ref h7, .int 1, .long 0, .long 9223372036854775807, .int 0, .int 0, .long 0, .long 0]))] (fun sz => c90_X2_isTold l g h1 h2 h4 h3 h5 f1 sz) gX1_takeTop_X2_isTold rfl ⟨rfl, rfl⟩ 1 (by decide) ⟨Nat.le_of_ble_eq_true rfl, Nat.le_of_ble_eq_true rfl⟩ 1 rfl rfl [1, 2] [0, 3] rfl rfl (by decide) (by decide) (by decide) rfl rfl (Nat.le_of_ble_eq_true rfl) ⟨Nat.le_of_ble_eq_true rfl, Nat.le_of_ble_eq_true rfl⟩ (fun r172 _ w173 => ?_)
        refine r_ws [(h3, .inl (gI g, 6, .inl fn0)), (h0, .inr (1, [.ref h1, .ref h6, .ref h7, .int 1, .long 0, .long 9223372036854775807, .int 0, .int 0, .long 0, .long 0])), (h1, .inr (2, [.ref h4, .int 0, .int 0, .ref h2, .ref h3, .ref h5])), (h2, .inl (gI g, 6, .inl f1))] rfl ?_
        rcases w173 with rfl | w173
        · skip
          refine r_if_eq_t 80 97 C dX1_takeTop_80 (by decide) (by decide) ?_
          refine r_iconst 97 1 C dX1_takeTop_97 (by decide) ?_
          refine r_goto 98 102 C dX1_takeTop_98 (by decide) ?_
          refine r_callVv 102 C dX1_takeTop_102 [] [] [(h3, .inl (gI g, 6, .inl fn0)), (h0, .inr (1, [.ref h1, .ref h6, .ref h7, .int 1, .long 0, .long 9223372036854775807, .int 0, .int 0, .long 0, .long 0])), (h1, .inr (2, [.ref h4, .int 0, .int 0, .ref h2, .ref h3, .ref h5])), (h2, .inl (gI g, 6, .inl f1))] (fun sz => c77_X1_want l g h0 sz) gX1_takeTop_X1_want rfl ⟨rfl, rfl⟩ 1 (by decide) ⟨Nat.le_of_ble_eq_true rfl, Nat.le_of_ble_eq_true rfl⟩ 1 rfl rfl [] [0, 1, 2, 3] rfl rfl (by decide) (by decide) (by decide) rfl rfl (Nat.le_of_ble_eq_true rfl) ⟨Nat.le_of_ble_eq_true rfl, Nat.le_of_ble_eq_true rfl⟩ (fun  _ w174 => ?_)
          refine r_ws [(h3, .inl (gI g, 6, .inl fn0)), (h0, .inr (1, [.ref h1, .ref h6, .ref h7, .int 1, .long 0, .long 9223372036854775807, .int 0, .int 0, .long 0, .long 0])), (h1, .inr (2, [.ref h4, .int 0, .int 0, .ref h2, .ref h3, .ref h5])), (h2, .inl (gI g, 6, .inl f1))] rfl ?_
          exact r_vret 105 Rt dX1_takeTop_105 f1 trivial [2, 3, 0, 1] (by decide) rfl (Nat.le_of_ble_eq_true rfl) (Nat.le_of_ble_eq_true rfl)
        obtain rfl := w173
        refine r_if_eq_f 80 97 C dX1_takeTop_80 (by decide) (by decide) ?_
        refine r_aload_n 83 0 C dX1_takeTop_83 rfl ?_
        refine r_get 84 C dX1_takeTop_84 (k := 0) 1 rfl rfl hiX1 (by decide) rfl (mg 1 rfl) (Or.inl rfl) rfl ?_
        refine r_sipush 87 262 C dX1_takeTop_87 (by decide) ?_
        refine r_callVi 90 C dX1_takeTop_90 [.ref h0] [(h3, .inl (gI g, 6, .inl fn0)), (h1, .inr (2, [.ref h4, .int 0, .int 0, .ref h2, .ref h3, .ref h5])), (h2, .inl (gI g, 6, .inl f1))] [(h0, .inr (1, [.ref h1, .ref h6, .ref h7, .int 1, .long 0, .long 9223372036854775807, .int 0, .int 0, .long 0, .long 0]))] (fun sz => c91_X2_first l g h1 h3 h2 fn0 h4 h5 f1 sz) gX1_takeTop_X2_first rfl ⟨rfl, rfl⟩ 1 (by decide) ⟨Nat.le_of_ble_eq_true rfl, Nat.le_of_ble_eq_true rfl⟩ 2 rfl rfl [0, 2, 3] [1] rfl rfl (by decide) (by decide) (by decide) rfl rfl (Nat.le_of_ble_eq_true rfl) ⟨Nat.le_of_ble_eq_true rfl, Nat.le_of_ble_eq_true rfl⟩ (fun r175 _ w176 => ?_)
        refine r_ws [(h0, .inr (1, [.ref h1, .ref h6, .ref h7, .int 1, .long 0, .long 9223372036854775807, .int 0, .int 0, .long 0, .long 0])), (h3, .inl (gI g, 6, .inl fn0)), (h1, .inr (2, [.ref h4, .int 0, .int 0, .ref h2, .ref h3, .ref h5])), (h2, .inl (gI g, 6, .inl f1))] rfl ?_
        refine r_iconst 93 2 C dX1_takeTop_93 (by decide) ?_
        refine r_icmp_ne 94 101 C dX1_takeTop_94 (by decide) (fun c177 => ?_) (fun c177 => ?_)
        · skip
          have k178 : ¬ ((Int32.toInt r175) = 2) := fun h_9 => c177 ((fa_eq r175 2).mpr h_9)
          refine r_iconst 101 0 C dX1_takeTop_101 (by decide) ?_
          refine r_callVv 102 C dX1_takeTop_102 [] [(h0, .inr (1, [.ref h1, .ref h6, .ref h7, .int 1, .long 0, .long 9223372036854775807, .int 0, .int 0, .long 0, .long 0]))] [(h3, .inl (gI g, 6, .inl fn0)), (h1, .inr (2, [.ref h4, .int 0, .int 0, .ref h2, .ref h3, .ref h5])), (h2, .inl (gI g, 6, .inl f1))] (fun sz => c69_X1_want l g h0 h1 h6 h7 sz) gX1_takeTop_X1_want rfl ⟨rfl, rfl⟩ 1 (by decide) ⟨Nat.le_of_ble_eq_true rfl, Nat.le_of_ble_eq_true rfl⟩ 0 rfl rfl [0] [1, 2, 3] rfl rfl (by decide) (by decide) (by decide) rfl rfl (Nat.le_of_ble_eq_true rfl) ⟨Nat.le_of_ble_eq_true rfl, Nat.le_of_ble_eq_true rfl⟩ (fun  _ w179 => ?_)
          refine r_ws [(h3, .inl (gI g, 6, .inl fn0)), (h1, .inr (2, [.ref h4, .int 0, .int 0, .ref h2, .ref h3, .ref h5])), (h2, .inl (gI g, 6, .inl f1)), (h0, .inr (1, [.ref h1, .ref h6, .ref h7, .int 1, .long 0, .long 9223372036854775807, .int 0, .int 0, .long 0, .long 0]))] rfl ?_
          exact r_vret 105 Rt dX1_takeTop_105 f1 trivial [1, 2, 0, 3] (by decide) rfl (Nat.le_of_ble_eq_true rfl) (Nat.le_of_ble_eq_true rfl)
        · skip
          have k180 : (Int32.toInt r175) = 2 := (fa_eq r175 2).mp c177
          refine r_iconst 97 1 C dX1_takeTop_97 (by decide) ?_
          refine r_goto 98 102 C dX1_takeTop_98 (by decide) ?_
          refine r_callVv 102 C dX1_takeTop_102 [] [] [(h0, .inr (1, [.ref h1, .ref h6, .ref h7, .int 1, .long 0, .long 9223372036854775807, .int 0, .int 0, .long 0, .long 0])), (h3, .inl (gI g, 6, .inl fn0)), (h1, .inr (2, [.ref h4, .int 0, .int 0, .ref h2, .ref h3, .ref h5])), (h2, .inl (gI g, 6, .inl f1))] (fun sz => c77_X1_want l g h0 sz) gX1_takeTop_X1_want rfl ⟨rfl, rfl⟩ 1 (by decide) ⟨Nat.le_of_ble_eq_true rfl, Nat.le_of_ble_eq_true rfl⟩ 0 rfl rfl [] [0, 1, 2, 3] rfl rfl (by decide) (by decide) (by decide) rfl rfl (Nat.le_of_ble_eq_true rfl) ⟨Nat.le_of_ble_eq_true rfl, Nat.le_of_ble_eq_true rfl⟩ (fun  _ w181 => ?_)
          refine r_ws [(h0, .inr (1, [.ref h1, .ref h6, .ref h7, .int 1, .long 0, .long 9223372036854775807, .int 0, .int 0, .long 0, .long 0])), (h3, .inl (gI g, 6, .inl fn0)), (h1, .inr (2, [.ref h4, .int 0, .int 0, .ref h2, .ref h3, .ref h5])), (h2, .inl (gI g, 6, .inl f1))] rfl ?_
          exact r_vret 105 Rt dX1_takeTop_105 f1 trivial [2, 3, 1, 0] (by decide) rfl (Nat.le_of_ble_eq_true rfl) (Nat.le_of_ble_eq_true rfl)
      obtain rfl := w159
      refine r_callVv 66 C dX1_takeTop_66 [] [] [(h3, .inl (gI g, 6, .inl fn0)), (h0, .inr (1, [.ref h1, .ref h6, .ref h7, .int 1, .long 0, .long 9223372036854775807, .int 0, .int 0, .long 0, .long 0])), (h1, .inr (2, [.ref h4, .int 0, .int 0, .ref h2, .ref h3, .ref h5])), (h2, .inl (gI g, 6, .inl f1))] (fun sz => c77_X1_want l g h0 sz) gX1_takeTop_X1_want rfl ⟨rfl, rfl⟩ 1 (by decide) ⟨Nat.le_of_ble_eq_true rfl, Nat.le_of_ble_eq_true rfl⟩ 1 rfl rfl [] [0, 1, 2, 3] rfl rfl (by decide) (by decide) (by decide) rfl rfl (Nat.le_of_ble_eq_true rfl) ⟨Nat.le_of_ble_eq_true rfl, Nat.le_of_ble_eq_true rfl⟩ (fun  _ w182 => ?_)
      refine r_ws [(h3, .inl (gI g, 6, .inl fn0)), (h0, .inr (1, [.ref h1, .ref h6, .ref h7, .int 1, .long 0, .long 9223372036854775807, .int 0, .int 0, .long 0, .long 0])), (h1, .inr (2, [.ref h4, .int 0, .int 0, .ref h2, .ref h3, .ref h5])), (h2, .inl (gI g, 6, .inl f1))] rfl ?_
      refine r_aload_n 69 0 C dX1_takeTop_69 rfl ?_
      refine r_aload_n 70 0 C dX1_takeTop_70 rfl ?_
      refine r_get 71 C dX1_takeTop_71 (k := 0) 1 rfl rfl hiX1 (by decide) rfl (mg 1 rfl) (Or.inl rfl) rfl ?_
      refine r_sipush 74 262 C dX1_takeTop_74 (by decide) ?_
      refine r_callVi 77 C dX1_takeTop_77 [.ref h0] [(h1, .inr (2, [.ref h4, .int 0, .int 0, .ref h2, .ref h3, .ref h5])), (h2, .inl (gI g, 6, .inl f1))] [(h3, .inl (gI g, 6, .inl fn0)), (h0, .inr (1, [.ref h1, .ref h6, .ref h7, .int 1, .long 0, .long 9223372036854775807, .int 0, .int 0, .long 0, .long 0]))] (fun sz => c90_X2_isTold l g h1 h2 h4 h3 h5 f1 sz) gX1_takeTop_X2_isTold rfl ⟨rfl, rfl⟩ 1 (by decide) ⟨Nat.le_of_ble_eq_true rfl, Nat.le_of_ble_eq_true rfl⟩ 2 rfl rfl [2, 3] [0, 1] rfl rfl (by decide) (by decide) (by decide) rfl rfl (Nat.le_of_ble_eq_true rfl) ⟨Nat.le_of_ble_eq_true rfl, Nat.le_of_ble_eq_true rfl⟩ (fun r183 _ w184 => ?_)
      refine r_ws [(h3, .inl (gI g, 6, .inl fn0)), (h0, .inr (1, [.ref h1, .ref h6, .ref h7, .int 1, .long 0, .long 9223372036854775807, .int 0, .int 0, .long 0, .long 0])), (h1, .inr (2, [.ref h4, .int 0, .int 0, .ref h2, .ref h3, .ref h5])), (h2, .inl (gI g, 6, .inl f1))] rfl ?_
      rcases w184 with rfl | w184
      · skip
        refine r_if_eq_t 80 97 C dX1_takeTop_80 (by decide) (by decide) ?_
        refine r_iconst 97 1 C dX1_takeTop_97 (by decide) ?_
        refine r_goto 98 102 C dX1_takeTop_98 (by decide) ?_
        refine r_callVv 102 C dX1_takeTop_102 [] [] [(h3, .inl (gI g, 6, .inl fn0)), (h0, .inr (1, [.ref h1, .ref h6, .ref h7, .int 1, .long 0, .long 9223372036854775807, .int 0, .int 0, .long 0, .long 0])), (h1, .inr (2, [.ref h4, .int 0, .int 0, .ref h2, .ref h3, .ref h5])), (h2, .inl (gI g, 6, .inl f1))] (fun sz => c77_X1_want l g h0 sz) gX1_takeTop_X1_want rfl ⟨rfl, rfl⟩ 1 (by decide) ⟨Nat.le_of_ble_eq_true rfl, Nat.le_of_ble_eq_true rfl⟩ 1 rfl rfl [] [0, 1, 2, 3] rfl rfl (by decide) (by decide) (by decide) rfl rfl (Nat.le_of_ble_eq_true rfl) ⟨Nat.le_of_ble_eq_true rfl, Nat.le_of_ble_eq_true rfl⟩ (fun  _ w185 => ?_)
        refine r_ws [(h3, .inl (gI g, 6, .inl fn0)), (h0, .inr (1, [.ref h1, .ref h6, .ref h7, .int 1, .long 0, .long 9223372036854775807, .int 0, .int 0, .long 0, .long 0])), (h1, .inr (2, [.ref h4, .int 0, .int 0, .ref h2, .ref h3, .ref h5])), (h2, .inl (gI g, 6, .inl f1))] rfl ?_
        exact r_vret 105 Rt dX1_takeTop_105 f1 trivial [2, 3, 0, 1] (by decide) rfl (Nat.le_of_ble_eq_true rfl) (Nat.le_of_ble_eq_true rfl)
      obtain rfl := w184
      refine r_if_eq_f 80 97 C dX1_takeTop_80 (by decide) (by decide) ?_
      refine r_aload_n 83 0 C dX1_takeTop_83 rfl ?_
      refine r_get 84 C dX1_takeTop_84 (k := 0) 1 rfl rfl hiX1 (by decide) rfl (mg 1 rfl) (Or.inl rfl) rfl ?_
      refine r_sipush 87 262 C dX1_takeTop_87 (by decide) ?_
      refine r_callVi 90 C dX1_takeTop_90 [.ref h0] [(h3, .inl (gI g, 6, .inl fn0)), (h1, .inr (2, [.ref h4, .int 0, .int 0, .ref h2, .ref h3, .ref h5])), (h2, .inl (gI g, 6, .inl f1))] [(h0, .inr (1, [.ref h1, .ref h6, .ref h7, .int 1, .long 0, .long 9223372036854775807, .int 0, .int 0, .long 0, .long 0]))] (fun sz => c91_X2_first l g h1 h3 h2 fn0 h4 h5 f1 sz) gX1_takeTop_X2_first rfl ⟨rfl, rfl⟩ 1 (by decide) ⟨Nat.le_of_ble_eq_true rfl, Nat.le_of_ble_eq_true rfl⟩ 2 rfl rfl [0, 2, 3] [1] rfl rfl (by decide) (by decide) (by decide) rfl rfl (Nat.le_of_ble_eq_true rfl) ⟨Nat.le_of_ble_eq_true rfl, Nat.le_of_ble_eq_true rfl⟩ (fun r186 _ w187 => ?_)
      refine r_ws [(h0, .inr (1, [.ref h1, .ref h6, .ref h7, .int 1, .long 0, .long 9223372036854775807, .int 0, .int 0, .long 0, .long 0])), (h3, .inl (gI g, 6, .inl fn0)), (h1, .inr (2, [.ref h4, .int 0, .int 0, .ref h2, .ref h3, .ref h5])), (h2, .inl (gI g, 6, .inl f1))] rfl ?_
      refine r_iconst 93 2 C dX1_takeTop_93 (by decide) ?_
      refine r_icmp_ne 94 101 C dX1_takeTop_94 (by decide) (fun c188 => ?_) (fun c188 => ?_)
      · skip
        have k189 : ¬ ((Int32.toInt r186) = 2) := fun h_9 => c188 ((fa_eq r186 2).mpr h_9)
        refine r_iconst 101 0 C dX1_takeTop_101 (by decide) ?_
        refine r_callVv 102 C dX1_takeTop_102 [] [(h0, .inr (1, [.ref h1, .ref h6, .ref h7, .int 1, .long 0, .long 9223372036854775807, .int 0, .int 0, .long 0, .long 0]))] [(h3, .inl (gI g, 6, .inl fn0)), (h1, .inr (2, [.ref h4, .int 0, .int 0, .ref h2, .ref h3, .ref h5])), (h2, .inl (gI g, 6, .inl f1))] (fun sz => c69_X1_want l g h0 h1 h6 h7 sz) gX1_takeTop_X1_want rfl ⟨rfl, rfl⟩ 1 (by decide) ⟨Nat.le_of_ble_eq_true rfl, Nat.le_of_ble_eq_true rfl⟩ 0 rfl rfl [0] [1, 2, 3] rfl rfl (by decide) (by decide) (by decide) rfl rfl (Nat.le_of_ble_eq_true rfl) ⟨Nat.le_of_ble_eq_true rfl, Nat.le_of_ble_eq_true rfl⟩ (fun  _ w190 => ?_)
        refine r_ws [(h3, .inl (gI g, 6, .inl fn0)), (h1, .inr (2, [.ref h4, .int 0, .int 0, .ref h2, .ref h3, .ref h5])), (h2, .inl (gI g, 6, .inl f1)), (h0, .inr (1, [.ref h1, .ref h6, .ref h7, .int 1, .long 0, .long 9223372036854775807, .int 0, .int 0, .long 0, .long 0]))] rfl ?_
        exact r_vret 105 Rt dX1_takeTop_105 f1 trivial [1, 2, 0, 3] (by decide) rfl (Nat.le_of_ble_eq_true rfl) (Nat.le_of_ble_eq_true rfl)
      · skip
        have k191 : (Int32.toInt r186) = 2 := (fa_eq r186 2).mp c188
        refine r_iconst 97 1 C dX1_takeTop_97 (by decide) ?_
        refine r_goto 98 102 C dX1_takeTop_98 (by decide) ?_
        refine r_callVv 102 C dX1_takeTop_102 [] [] [(h0, .inr (1, [.ref h1, .ref h6, .ref h7, .int 1, .long 0, .long 9223372036854775807, .int 0, .int 0, .long 0, .long 0])), (h3, .inl (gI g, 6, .inl fn0)), (h1, .inr (2, [.ref h4, .int 0, .int 0, .ref h2, .ref h3, .ref h5])), (h2, .inl (gI g, 6, .inl f1))] (fun sz => c77_X1_want l g h0 sz) gX1_takeTop_X1_want rfl ⟨rfl, rfl⟩ 1 (by decide) ⟨Nat.le_of_ble_eq_true rfl, Nat.le_of_ble_eq_true rfl⟩ 0 rfl rfl [] [0, 1, 2, 3] rfl rfl (by decide) (by decide) (by decide) rfl rfl (Nat.le_of_ble_eq_true rfl) ⟨Nat.le_of_ble_eq_true rfl, Nat.le_of_ble_eq_true rfl⟩ (fun  _ w192 => ?_)
        refine r_ws [(h0, .inr (1, [.ref h1, .ref h6, .ref h7, .int 1, .long 0, .long 9223372036854775807, .int 0, .int 0, .long 0, .long 0])), (h3, .inl (gI g, 6, .inl fn0)), (h1, .inr (2, [.ref h4, .int 0, .int 0, .ref h2, .ref h3, .ref h5])), (h2, .inl (gI g, 6, .inl f1))] rfl ?_
        exact r_vret 105 Rt dX1_takeTop_105 f1 trivial [2, 3, 1, 0] (by decide) rfl (Nat.le_of_ble_eq_true rfl) (Nat.le_of_ble_eq_true rfl)
    obtain rfl := w120
    refine r_callVv 51 C dX1_takeTop_51 [] [] [(h3, .inl (gI g, 6, .inl fn0)), (h0, .inr (1, [.ref h1, .ref h6, .ref h7, .int 1, .long 0, .long 9223372036854775807, .int 0, .int 0, .long 0, .long 0])), (h1, .inr (2, [.ref h4, .int 0, .int 0, .ref h2, .ref h3, .ref h5])), (h2, .inl (gI g, 6, .inl f1))] (fun sz => c77_X1_want l g h0 sz) gX1_takeTop_X1_want rfl ⟨rfl, rfl⟩ 1 (by decide) ⟨Nat.le_of_ble_eq_true rfl, Nat.le_of_ble_eq_true rfl⟩ 1 rfl rfl [] [0, 1, 2, 3] rfl rfl (by decide) (by decide) (by decide) rfl rfl (Nat.le_of_ble_eq_true rfl) ⟨Nat.le_of_ble_eq_true rfl, Nat.le_of_ble_eq_true rfl⟩ (fun  _ w193 => ?_)
    refine r_ws [(h3, .inl (gI g, 6, .inl fn0)), (h0, .inr (1, [.ref h1, .ref h6, .ref h7, .int 1, .long 0, .long 9223372036854775807, .int 0, .int 0, .long 0, .long 0])), (h1, .inr (2, [.ref h4, .int 0, .int 0, .ref h2, .ref h3, .ref h5])), (h2, .inl (gI g, 6, .inl f1))] rfl ?_
    refine r_aload_n 54 0 C dX1_takeTop_54 rfl ?_
    refine r_aload_n 55 0 C dX1_takeTop_55 rfl ?_
    refine r_get 56 C dX1_takeTop_56 (k := 0) 1 rfl rfl hiX1 (by decide) rfl (mg 1 rfl) (Or.inl rfl) rfl ?_
    refine r_sipush 59 262 C dX1_takeTop_59 (by decide) ?_
    refine r_iconst 62 1 C dX1_takeTop_62 (by decide) ?_
    refine r_callVi 63 C dX1_takeTop_63 [.ref h0] [(h1, .inr (2, [.ref h4, .int 0, .int 0, .ref h2, .ref h3, .ref h5])), (h2, .inl (gI g, 6, .inl f1))] [(h3, .inl (gI g, 6, .inl fn0)), (h0, .inr (1, [.ref h1, .ref h6, .ref h7, .int 1, .long 0, .long 9223372036854775807, .int 0, .int 0, .long 0, .long 0]))] (fun sz => c89_X2_fits l g h1 h2 h4 h3 h5 f1 sz) gX1_takeTop_X2_fits rfl ⟨rfl, rfl⟩ 2 (by decide) ⟨Nat.le_of_ble_eq_true rfl, Nat.le_of_ble_eq_true rfl⟩ 2 rfl rfl [2, 3] [0, 1] rfl rfl (by decide) (by decide) (by decide) rfl rfl (Nat.le_of_ble_eq_true rfl) ⟨Nat.le_of_ble_eq_true rfl, Nat.le_of_ble_eq_true rfl⟩ (fun r194 _ w195 => ?_)
    refine r_ws [(h3, .inl (gI g, 6, .inl fn0)), (h0, .inr (1, [.ref h1, .ref h6, .ref h7, .int 1, .long 0, .long 9223372036854775807, .int 0, .int 0, .long 0, .long 0])), (h1, .inr (2, [.ref h4, .int 0, .int 0, .ref h2, .ref h3, .ref h5])), (h2, .inl (gI g, 6, .inl f1))] rfl ?_
    rcases w195 with rfl | w195
    · skip
      refine r_callVv 66 C dX1_takeTop_66 [] [] [(h3, .inl (gI g, 6, .inl fn0)), (h0, .inr (1, [.ref h1, .ref h6, .ref h7, .int 1, .long 0, .long 9223372036854775807, .int 0, .int 0, .long 0, .long 0])), (h1, .inr (2, [.ref h4, .int 0, .int 0, .ref h2, .ref h3, .ref h5])), (h2, .inl (gI g, 6, .inl f1))] (fun sz => c77_X1_want l g h0 sz) gX1_takeTop_X1_want rfl ⟨rfl, rfl⟩ 1 (by decide) ⟨Nat.le_of_ble_eq_true rfl, Nat.le_of_ble_eq_true rfl⟩ 1 rfl rfl [] [0, 1, 2, 3] rfl rfl (by decide) (by decide) (by decide) rfl rfl (Nat.le_of_ble_eq_true rfl) ⟨Nat.le_of_ble_eq_true rfl, Nat.le_of_ble_eq_true rfl⟩ (fun  _ w196 => ?_)
      refine r_ws [(h3, .inl (gI g, 6, .inl fn0)), (h0, .inr (1, [.ref h1, .ref h6, .ref h7, .int 1, .long 0, .long 9223372036854775807, .int 0, .int 0, .long 0, .long 0])), (h1, .inr (2, [.ref h4, .int 0, .int 0, .ref h2, .ref h3, .ref h5])), (h2, .inl (gI g, 6, .inl f1))] rfl ?_
      refine r_aload_n 69 0 C dX1_takeTop_69 rfl ?_
      refine r_aload_n 70 0 C dX1_takeTop_70 rfl ?_
      refine r_get 71 C dX1_takeTop_71 (k := 0) 1 rfl rfl hiX1 (by decide) rfl (mg 1 rfl) (Or.inl rfl) rfl ?_
      refine r_sipush 74 262 C dX1_takeTop_74 (by decide) ?_
      refine r_callVi 77 C dX1_takeTop_77 [.ref h0] [(h1, .inr (2, [.ref h4, .int 0, .int 0, .ref h2, .ref h3, .ref h5])), (h2, .inl (gI g, 6, .inl f1))] [(h3, .inl (gI g, 6, .inl fn0)), (h0, .inr (1, [.ref h1, .ref h6, .ref h7, .int 1, .long 0, .long 9223372036854775807, .int 0, .int 0, .long 0, .long 0]))] (fun sz => c90_X2_isTold l g h1 h2 h4 h3 h5 f1 sz) gX1_takeTop_X2_isTold rfl ⟨rfl, rfl⟩ 1 (by decide) ⟨Nat.le_of_ble_eq_true rfl, Nat.le_of_ble_eq_true rfl⟩ 2 rfl rfl [2, 3] [0, 1] rfl rfl (by decide) (by decide) (by decide) rfl rfl (Nat.le_of_ble_eq_true rfl) ⟨Nat.le_of_ble_eq_true rfl, Nat.le_of_ble_eq_true rfl⟩ (fun r197 _ w198 => ?_)
      refine r_ws [(h3, .inl (gI g, 6, .inl fn0)), (h0, .inr (1, [.ref h1, .ref h6, .ref h7, .int 1, .long 0, .long 9223372036854775807, .int 0, .int 0, .long 0, .long 0])), (h1, .inr (2, [.ref h4, .int 0, .int 0, .ref h2, .ref h3, .ref h5])), (h2, .inl (gI g, 6, .inl f1))] rfl ?_
      rcases w198 with rfl | w198
      · skip
        refine r_if_eq_t 80 97 C dX1_takeTop_80 (by decide) (by decide) ?_
        refine r_iconst 97 1 C dX1_takeTop_97 (by decide) ?_
        refine r_goto 98 102 C dX1_takeTop_98 (by decide) ?_
        refine r_callVv 102 C dX1_takeTop_102 [] [] [(h3, .inl (gI g, 6, .inl fn0)), (h0, .inr (1, [.ref h1, .ref h6, .ref h7, .int 1, .long 0, .long 9223372036854775807, .int 0, .int 0, .long 0, .long 0])), (h1, .inr (2, [.ref h4, .int 0, .int 0, .ref h2, .ref h3, .ref h5])), (h2, .inl (gI g, 6, .inl f1))] (fun sz => c77_X1_want l g h0 sz) gX1_takeTop_X1_want rfl ⟨rfl, rfl⟩ 1 (by decide) ⟨Nat.le_of_ble_eq_true rfl, Nat.le_of_ble_eq_true rfl⟩ 1 rfl rfl [] [0, 1, 2, 3] rfl rfl (by decide) (by decide) (by decide) rfl rfl (Nat.le_of_ble_eq_true rfl) ⟨Nat.le_of_ble_eq_true rfl, Nat.le_of_ble_eq_true rfl⟩ (fun  _ w199 => ?_)
        refine r_ws [(h3, .inl (gI g, 6, .inl fn0)), (h0, .inr (1, [.ref h1, .ref h6, .ref h7, .int 1, .long 0, .long 9223372036854775807, .int 0, .int 0, .long 0, .long 0])), (h1, .inr (2, [.ref h4, .int 0, .int 0, .ref h2, .ref h3, .ref h5])), (h2, .inl (gI g, 6, .inl f1))] rfl ?_
        exact r_vret 105 Rt dX1_takeTop_105 f1 trivial [2, 3, 0, 1] (by decide) rfl (Nat.le_of_ble_eq_true rfl) (Nat.le_of_ble_eq_true rfl)
      obtain rfl := w198
      refine r_if_eq_f 80 97 C dX1_takeTop_80 (by decide) (by decide) ?_
      refine r_aload_n 83 0 C dX1_takeTop_83 rfl ?_
      refine r_get 84 C dX1_takeTop_84 (k := 0) 1 rfl rfl hiX1 (by decide) rfl (mg 1 rfl) (Or.inl rfl) rfl ?_
      refine r_sipush 87 262 C dX1_takeTop_87 (by decide) ?_
      refine r_callVi 90 C dX1_takeTop_90 [.ref h0] [(h3, .inl (gI g, 6, .inl fn0)), (h1, .inr (2, [.ref h4, .int 0, .int 0, .ref h2, .ref h3, .ref h5])), (h2, .inl (gI g, 6, .inl f1))] [(h0, .inr (1, [.ref h1, .ref h6, .ref h7, .int 1, .long 0, .long 9223372036854775807, .int 0, .int 0, .long 0, .long 0]))] (fun sz => c91_X2_first l g h1 h3 h2 fn0 h4 h5 f1 sz) gX1_takeTop_X2_first rfl ⟨rfl, rfl⟩ 1 (by decide) ⟨Nat.le_of_ble_eq_true rfl, Nat.le_of_ble_eq_true rfl⟩ 2 rfl rfl [0, 2, 3] [1] rfl rfl (by decide) (by decide) (by decide) rfl rfl (Nat.le_of_ble_eq_true rfl) ⟨Nat.le_of_ble_eq_true rfl, Nat.le_of_ble_eq_true rfl⟩ (fun r200 _ w201 => ?_)
      refine r_ws [(h0, .inr (1, [.ref h1, .ref h6, .ref h7, .int 1, .long 0, .long 9223372036854775807, .int 0, .int 0, .long 0, .long 0])), (h3, .inl (gI g, 6, .inl fn0)), (h1, .inr (2, [.ref h4, .int 0, .int 0, .ref h2, .ref h3, .ref h5])), (h2, .inl (gI g, 6, .inl f1))] rfl ?_
      refine r_iconst 93 2 C dX1_takeTop_93 (by decide) ?_
      refine r_icmp_ne 94 101 C dX1_takeTop_94 (by decide) (fun c202 => ?_) (fun c202 => ?_)
      · skip
        have k203 : ¬ ((Int32.toInt r200) = 2) := fun h_9 => c202 ((fa_eq r200 2).mpr h_9)
        refine r_iconst 101 0 C dX1_takeTop_101 (by decide) ?_
        refine r_callVv 102 C dX1_takeTop_102 [] [(h0, .inr (1, [.ref h1, .ref h6, .ref h7, .int 1, .long 0, .long 9223372036854775807, .int 0, .int 0, .long 0, .long 0]))] [(h3, .inl (gI g, 6, .inl fn0)), (h1, .inr (2, [.ref h4, .int 0, .int 0, .ref h2, .ref h3, .ref h5])), (h2, .inl (gI g, 6, .inl f1))] (fun sz => c69_X1_want l g h0 h1 h6 h7 sz) gX1_takeTop_X1_want rfl ⟨rfl, rfl⟩ 1 (by decide) ⟨Nat.le_of_ble_eq_true rfl, Nat.le_of_ble_eq_true rfl⟩ 0 rfl rfl [0] [1, 2, 3] rfl rfl (by decide) (by decide) (by decide) rfl rfl (Nat.le_of_ble_eq_true rfl) ⟨Nat.le_of_ble_eq_true rfl, Nat.le_of_ble_eq_true rfl⟩ (fun  _ w204 => ?_)
        refine r_ws [(h3, .inl (gI g, 6, .inl fn0)), (h1, .inr (2, [.ref h4, .int 0, .int 0, .ref h2, .ref h3, .ref h5])), (h2, .inl (gI g, 6, .inl f1)), (h0, .inr (1, [.ref h1, .ref h6, .ref h7, .int 1, .long 0, .long 9223372036854775807, .int 0, .int 0, .long 0, .long 0]))] rfl ?_
        exact r_vret 105 Rt dX1_takeTop_105 f1 trivial [1, 2, 0, 3] (by decide) rfl (Nat.le_of_ble_eq_true rfl) (Nat.le_of_ble_eq_true rfl)
      · skip
        have k205 : (Int32.toInt r200) = 2 := (fa_eq r200 2).mp c202
        refine r_iconst 97 1 C dX1_takeTop_97 (by decide) ?_
        refine r_goto 98 102 C dX1_takeTop_98 (by decide) ?_
        refine r_callVv 102 C dX1_takeTop_102 [] [] [(h0, .inr (1, [.ref h1, .ref h6, .ref h7, .int 1, .long 0, .long 9223372036854775807, .int 0, .int 0, .long 0, .long 0])), (h3, .inl (gI g, 6, .inl fn0)), (h1, .inr (2, [.ref h4, .int 0, .int 0, .ref h2, .ref h3, .ref h5])), (h2, .inl (gI g, 6, .inl f1))] (fun sz => c77_X1_want l g h0 sz) gX1_takeTop_X1_want rfl ⟨rfl, rfl⟩ 1 (by decide) ⟨Nat.le_of_ble_eq_true rfl, Nat.le_of_ble_eq_true rfl⟩ 0 rfl rfl [] [0, 1, 2, 3] rfl rfl (by decide) (by decide) (by decide) rfl rfl (Nat.le_of_ble_eq_true rfl) ⟨Nat.le_of_ble_eq_true rfl, Nat.le_of_ble_eq_true rfl⟩ (fun  _ w206 => ?_)
        refine r_ws [(h0, .inr (1, [.ref h1, .ref h6, .ref h7, .int 1, .long 0, .long 9223372036854775807, .int 0, .int 0, .long 0, .long 0])), (h3, .inl (gI g, 6, .inl fn0)), (h1, .inr (2, [.ref h4, .int 0, .int 0, .ref h2, .ref h3, .ref h5])), (h2, .inl (gI g, 6, .inl f1))] rfl ?_
        exact r_vret 105 Rt dX1_takeTop_105 f1 trivial [2, 3, 1, 0] (by decide) rfl (Nat.le_of_ble_eq_true rfl) (Nat.le_of_ble_eq_true rfl)
    rcases w195 with rfl | w195
    · skip
      refine r_callVv 66 C dX1_takeTop_66 [] [(h0, .inr (1, [.ref h1, .ref h6, .ref h7, .int 1, .long 0, .long 9223372036854775807, .int 0, .int 0, .long 0, .long 0]))] [(h3, .inl (gI g, 6, .inl fn0)), (h1, .inr (2, [.ref h4, .int 0, .int 0, .ref h2, .ref h3, .ref h5])), (h2, .inl (gI g, 6, .inl f1))] (fun sz => c69_X1_want l g h0 h1 h6 h7 sz) gX1_takeTop_X1_want rfl ⟨rfl, rfl⟩ 1 (by decide) ⟨Nat.le_of_ble_eq_true rfl, Nat.le_of_ble_eq_true rfl⟩ 1 rfl rfl [1] [0, 2, 3] rfl rfl (by decide) (by decide) (by decide) rfl rfl (Nat.le_of_ble_eq_true rfl) ⟨Nat.le_of_ble_eq_true rfl, Nat.le_of_ble_eq_true rfl⟩ (fun  _ w207 => ?_)
      refine r_ws [(h3, .inl (gI g, 6, .inl fn0)), (h1, .inr (2, [.ref h4, .int 0, .int 0, .ref h2, .ref h3, .ref h5])), (h2, .inl (gI g, 6, .inl f1)), (h0, .inr (1, [.ref h1, .ref h6, .ref h7, .int 1, .long 0, .long 9223372036854775807, .int 0, .int 0, .long 0, .long 0]))] rfl ?_
      refine r_aload_n 69 0 C dX1_takeTop_69 rfl ?_
      refine r_aload_n 70 0 C dX1_takeTop_70 rfl ?_
      refine r_get 71 C dX1_takeTop_71 (k := 0) 3 rfl rfl hiX1 (by decide) rfl (mg 1 rfl) (Or.inl rfl) rfl ?_
      refine r_sipush 74 262 C dX1_takeTop_74 (by decide) ?_
      refine r_callVi 77 C dX1_takeTop_77 [.ref h0] [(h1, .inr (2, [.ref h4, .int 0, .int 0, .ref h2, .ref h3, .ref h5])), (h2, .inl (gI g, 6, .inl f1))] [(h3, .inl (gI g, 6, .inl fn0)), (h0, .inr (1, [.ref h1, .ref h6, .ref h7, .int 1, .long 0, .long 9223372036854775807, .int 0, .int 0, .long 0, .long 0]))] (fun sz => c90_X2_isTold l g h1 h2 h4 h3 h5 f1 sz) gX1_takeTop_X2_isTold rfl ⟨rfl, rfl⟩ 1 (by decide) ⟨Nat.le_of_ble_eq_true rfl, Nat.le_of_ble_eq_true rfl⟩ 1 rfl rfl [1, 2] [0, 3] rfl rfl (by decide) (by decide) (by decide) rfl rfl (Nat.le_of_ble_eq_true rfl) ⟨Nat.le_of_ble_eq_true rfl, Nat.le_of_ble_eq_true rfl⟩ (fun r208 _ w209 => ?_)
      refine r_ws [(h3, .inl (gI g, 6, .inl fn0)), (h0, .inr (1, [.ref h1, .ref h6, .ref h7, .int 1, .long 0, .long 9223372036854775807, .int 0, .int 0, .long 0, .long 0])), (h1, .inr (2, [.ref h4, .int 0, .int 0, .ref h2, .ref h3, .ref h5])), (h2, .inl (gI g, 6, .inl f1))] rfl ?_
      rcases w209 with rfl | w209
      · skip
        refine r_if_eq_t 80 97 C dX1_takeTop_80 (by decide) (by decide) ?_
        refine r_iconst 97 1 C dX1_takeTop_97 (by decide) ?_
        refine r_goto 98 102 C dX1_takeTop_98 (by decide) ?_
        refine r_callVv 102 C dX1_takeTop_102 [] [] [(h3, .inl (gI g, 6, .inl fn0)), (h0, .inr (1, [.ref h1, .ref h6, .ref h7, .int 1, .long 0, .long 9223372036854775807, .int 0, .int 0, .long 0, .long 0])), (h1, .inr (2, [.ref h4, .int 0, .int 0, .ref h2, .ref h3, .ref h5])), (h2, .inl (gI g, 6, .inl f1))] (fun sz => c77_X1_want l g h0 sz) gX1_takeTop_X1_want rfl ⟨rfl, rfl⟩ 1 (by decide) ⟨Nat.le_of_ble_eq_true rfl, Nat.le_of_ble_eq_true rfl⟩ 1 rfl rfl [] [0, 1, 2, 3] rfl rfl (by decide) (by decide) (by decide) rfl rfl (Nat.le_of_ble_eq_true rfl) ⟨Nat.le_of_ble_eq_true rfl, Nat.le_of_ble_eq_true rfl⟩ (fun  _ w210 => ?_)
        refine r_ws [(h3, .inl (gI g, 6, .inl fn0)), (h0, .inr (1, [.ref h1, .ref h6, .ref h7, .int 1, .long 0, .long 9223372036854775807, .int 0, .int 0, .long 0, .long 0])), (h1, .inr (2, [.ref h4, .int 0, .int 0, .ref h2, .ref h3, .ref h5])), (h2, .inl (gI g, 6, .inl f1))] rfl ?_
        exact r_vret 105 Rt dX1_takeTop_105 f1 trivial [2, 3, 0, 1] (by decide) rfl (Nat.le_of_ble_eq_true rfl) (Nat.le_of_ble_eq_true rfl)
      obtain rfl := w209
      refine r_if_eq_f 80 97 C dX1_takeTop_80 (by decide) (by decide) ?_
      refine r_aload_n 83 0 C dX1_takeTop_83 rfl ?_
      refine r_get 84 C dX1_takeTop_84 (k := 0) 1 rfl rfl hiX1 (by decide) rfl (mg 1 rfl) (Or.inl rfl) rfl ?_
      refine r_sipush 87 262 C dX1_takeTop_87 (by decide) ?_
      refine r_callVi 90 C dX1_takeTop_90 [.ref h0] [(h3, .inl (gI g, 6, .inl fn0)), (h1, .inr (2, [.ref h4, .int 0, .int 0, .ref h2, .ref h3, .ref h5])), (h2, .inl (gI g, 6, .inl f1))] [(h0, .inr (1, [.ref h1, .ref h6, .ref h7, .int 1, .long 0, .long 9223372036854775807, .int 0, .int 0, .long 0, .long 0]))] (fun sz => c91_X2_first l g h1 h3 h2 fn0 h4 h5 f1 sz) gX1_takeTop_X2_first rfl ⟨rfl, rfl⟩ 1 (by decide) ⟨Nat.le_of_ble_eq_true rfl, Nat.le_of_ble_eq_true rfl⟩ 2 rfl rfl [0, 2, 3] [1] rfl rfl (by decide) (by decide) (by decide) rfl rfl (Nat.le_of_ble_eq_true rfl) ⟨Nat.le_of_ble_eq_true rfl, Nat.le_of_ble_eq_true rfl⟩ (fun r211 _ w212 => ?_)
      refine r_ws [(h0, .inr (1, [.ref h1, .ref h6, .ref h7, .int 1, .long 0, .long 9223372036854775807, .int 0, .int 0, .long 0, .long 0])), (h3, .inl (gI g, 6, .inl fn0)), (h1, .inr (2, [.ref h4, .int 0, .int 0, .ref h2, .ref h3, .ref h5])), (h2, .inl (gI g, 6, .inl f1))] rfl ?_
      refine r_iconst 93 2 C dX1_takeTop_93 (by decide) ?_
      refine r_icmp_ne 94 101 C dX1_takeTop_94 (by decide) (fun c213 => ?_) (fun c213 => ?_)
      · skip
        have k214 : ¬ ((Int32.toInt r211) = 2) := fun h_9 => c213 ((fa_eq r211 2).mpr h_9)
        refine r_iconst 101 0 C dX1_takeTop_101 (by decide) ?_
        refine r_callVv 102 C dX1_takeTop_102 [] [(h0, .inr (1, [.ref h1, .ref h6, .ref h7, .int 1, .long 0, .long 9223372036854775807, .int 0, .int 0, .long 0, .long 0]))] [(h3, .inl (gI g, 6, .inl fn0)), (h1, .inr (2, [.ref h4, .int 0, .int 0, .ref h2, .ref h3, .ref h5])), (h2, .inl (gI g, 6, .inl f1))] (fun sz => c69_X1_want l g h0 h1 h6 h7 sz) gX1_takeTop_X1_want rfl ⟨rfl, rfl⟩ 1 (by decide) ⟨Nat.le_of_ble_eq_true rfl, Nat.le_of_ble_eq_true rfl⟩ 0 rfl rfl [0] [1, 2, 3] rfl rfl (by decide) (by decide) (by decide) rfl rfl (Nat.le_of_ble_eq_true rfl) ⟨Nat.le_of_ble_eq_true rfl, Nat.le_of_ble_eq_true rfl⟩ (fun  _ w215 => ?_)
        refine r_ws [(h3, .inl (gI g, 6, .inl fn0)), (h1, .inr (2, [.ref h4, .int 0, .int 0, .ref h2, .ref h3, .ref h5])), (h2, .inl (gI g, 6, .inl f1)), (h0, .inr (1, [.ref h1, .ref h6, .ref h7, .int 1, .long 0, .long 9223372036854775807, .int 0, .int 0, .long 0, .long 0]))] rfl ?_
        exact r_vret 105 Rt dX1_takeTop_105 f1 trivial [1, 2, 0, 3] (by decide) rfl (Nat.le_of_ble_eq_true rfl) (Nat.le_of_ble_eq_true rfl)
      · skip
        have k216 : (Int32.toInt r211) = 2 := (fa_eq r211 2).mp c213
        refine r_iconst 97 1 C dX1_takeTop_97 (by decide) ?_
        refine r_goto 98 102 C dX1_takeTop_98 (by decide) ?_
        refine r_callVv 102 C dX1_takeTop_102 [] [] [(h0, .inr (1, [.ref h1, .ref h6, .ref h7, .int 1, .long 0, .long 9223372036854775807, .int 0, .int 0, .long 0, .long 0])), (h3, .inl (gI g, 6, .inl fn0)), (h1, .inr (2, [.ref h4, .int 0, .int 0, .ref h2, .ref h3, .ref h5])), (h2, .inl (gI g, 6, .inl f1))] (fun sz => c77_X1_want l g h0 sz) gX1_takeTop_X1_want rfl ⟨rfl, rfl⟩ 1 (by decide) ⟨Nat.le_of_ble_eq_true rfl, Nat.le_of_ble_eq_true rfl⟩ 0 rfl rfl [] [0, 1, 2, 3] rfl rfl (by decide) (by decide) (by decide) rfl rfl (Nat.le_of_ble_eq_true rfl) ⟨Nat.le_of_ble_eq_true rfl, Nat.le_of_ble_eq_true rfl⟩ (fun  _ w217 => ?_)
        refine r_ws [(h0, .inr (1, [.ref h1, .ref h6, .ref h7, .int 1, .long 0, .long 9223372036854775807, .int 0, .int 0, .long 0, .long 0])), (h3, .inl (gI g, 6, .inl fn0)), (h1, .inr (2, [.ref h4, .int 0, .int 0, .ref h2, .ref h3, .ref h5])), (h2, .inl (gI g, 6, .inl f1))] rfl ?_
        exact r_vret 105 Rt dX1_takeTop_105 f1 trivial [2, 3, 1, 0] (by decide) rfl (Nat.le_of_ble_eq_true rfl) (Nat.le_of_ble_eq_true rfl)
    obtain rfl := w195
    refine r_callVv 66 C dX1_takeTop_66 [] [] [(h3, .inl (gI g, 6, .inl fn0)), (h0, .inr (1, [.ref h1, .ref h6, .ref h7, .int 1, .long 0, .long 9223372036854775807, .int 0, .int 0, .long 0, .long 0])), (h1, .inr (2, [.ref h4, .int 0, .int 0, .ref h2, .ref h3, .ref h5])), (h2, .inl (gI g, 6, .inl f1))] (fun sz => c77_X1_want l g h0 sz) gX1_takeTop_X1_want rfl ⟨rfl, rfl⟩ 1 (by decide) ⟨Nat.le_of_ble_eq_true rfl, Nat.le_of_ble_eq_true rfl⟩ 1 rfl rfl [] [0, 1, 2, 3] rfl rfl (by decide) (by decide) (by decide) rfl rfl (Nat.le_of_ble_eq_true rfl) ⟨Nat.le_of_ble_eq_true rfl, Nat.le_of_ble_eq_true rfl⟩ (fun  _ w218 => ?_)
    refine r_ws [(h3, .inl (gI g, 6, .inl fn0)), (h0, .inr (1, [.ref h1, .ref h6, .ref h7, .int 1, .long 0, .long 9223372036854775807, .int 0, .int 0, .long 0, .long 0])), (h1, .inr (2, [.ref h4, .int 0, .int 0, .ref h2, .ref h3, .ref h5])), (h2, .inl (gI g, 6, .inl f1))] rfl ?_
    refine r_aload_n 69 0 C dX1_takeTop_69 rfl ?_
    refine r_aload_n 70 0 C dX1_takeTop_70 rfl ?_
    refine r_get 71 C dX1_takeTop_71 (k := 0) 1 rfl rfl hiX1 (by decide) rfl (mg 1 rfl) (Or.inl rfl) rfl ?_
    refine r_sipush 74 262 C dX1_takeTop_74 (by decide) ?_
    refine r_callVi 77 C dX1_takeTop_77 [.ref h0] [(h1, .inr (2, [.ref h4, .int 0, .int 0, .ref h2, .ref h3, .ref h5])), (h2, .inl (gI g, 6, .inl f1))] [(h3, .inl (gI g, 6, .inl fn0)), (h0, .inr (1, [.ref h1, .ref h6, .ref h7, .int 1, .long 0, .long 9223372036854775807, .int 0, .int 0, .long 0, .long 0]))] (fun sz => c90_X2_isTold l g h1 h2 h4 h3 h5 f1 sz) gX1_takeTop_X2_isTold rfl ⟨rfl, rfl⟩ 1 (by decide) ⟨Nat.le_of_ble_eq_true rfl, Nat.le_of_ble_eq_true rfl⟩ 2 rfl rfl [2, 3] [0, 1] rfl rfl (by decide) (by decide) (by decide) rfl rfl (Nat.le_of_ble_eq_true rfl) ⟨Nat.le_of_ble_eq_true rfl, Nat.le_of_ble_eq_true rfl⟩ (fun r219 _ w220 => ?_)
    refine r_ws [(h3, .inl (gI g, 6, .inl fn0)), (h0, .inr (1, [.ref h1, .ref h6, .ref h7, .int 1, .long 0, .long 9223372036854775807, .int 0, .int 0, .long 0, .long 0])), (h1, .inr (2, [.ref h4, .int 0, .int 0, .ref h2, .ref h3, .ref h5])), (h2, .inl (gI g, 6, .inl f1))] rfl ?_
    rcases w220 with rfl | w220
    · skip
      refine r_if_eq_t 80 97 C dX1_takeTop_80 (by decide) (by decide) ?_
      refine r_iconst 97 1 C dX1_takeTop_97 (by decide) ?_
      refine r_goto 98 102 C dX1_takeTop_98 (by decide) ?_
      refine r_callVv 102 C dX1_takeTop_102 [] [] [(h3, .inl (gI g, 6, .inl fn0)), (h0, .inr (1, [.ref h1, .ref h6, .ref h7, .int 1, .long 0, .long 9223372036854775807, .int 0, .int 0, .long 0, .long 0])), (h1, .inr (2, [.ref h4, .int 0, .int 0, .ref h2, .ref h3, .ref h5])), (h2, .inl (gI g, 6, .inl f1))] (fun sz => c77_X1_want l g h0 sz) gX1_takeTop_X1_want rfl ⟨rfl, rfl⟩ 1 (by decide) ⟨Nat.le_of_ble_eq_true rfl, Nat.le_of_ble_eq_true rfl⟩ 1 rfl rfl [] [0, 1, 2, 3] rfl rfl (by decide) (by decide) (by decide) rfl rfl (Nat.le_of_ble_eq_true rfl) ⟨Nat.le_of_ble_eq_true rfl, Nat.le_of_ble_eq_true rfl⟩ (fun  _ w221 => ?_)
      refine r_ws [(h3, .inl (gI g, 6, .inl fn0)), (h0, .inr (1, [.ref h1, .ref h6, .ref h7, .int 1, .long 0, .long 9223372036854775807, .int 0, .int 0, .long 0, .long 0])), (h1, .inr (2, [.ref h4, .int 0, .int 0, .ref h2, .ref h3, .ref h5])), (h2, .inl (gI g, 6, .inl f1))] rfl ?_
      exact r_vret 105 Rt dX1_takeTop_105 f1 trivial [2, 3, 0, 1] (by decide) rfl (Nat.le_of_ble_eq_true rfl) (Nat.le_of_ble_eq_true rfl)
    obtain rfl := w220
    refine r_if_eq_f 80 97 C dX1_takeTop_80 (by decide) (by decide) ?_
    refine r_aload_n 83 0 C dX1_takeTop_83 rfl ?_
    refine r_get 84 C dX1_takeTop_84 (k := 0) 1 rfl rfl hiX1 (by decide) rfl (mg 1 rfl) (Or.inl rfl) rfl ?_
    refine r_sipush 87 262 C dX1_takeTop_87 (by decide) ?_
    refine r_callVi 90 C dX1_takeTop_90 [.ref h0] [(h3, .inl (gI g, 6, .inl fn0)), (h1, .inr (2, [.ref h4, .int 0, .int 0, .ref h2, .ref h3, .ref h5])), (h2, .inl (gI g, 6, .inl f1))] [(h0, .inr (1, [.ref h1, .ref h6, .ref h7, .int 1, .long 0, .long 9223372036854775807, .int 0, .int 0, .long 0, .long 0]))] (fun sz => c91_X2_first l g h1 h3 h2 fn0 h4 h5 f1 sz) gX1_takeTop_X2_first rfl ⟨rfl, rfl⟩ 1 (by decide) ⟨Nat.le_of_ble_eq_true rfl, Nat.le_of_ble_eq_true rfl⟩ 2 rfl rfl [0, 2, 3] [1] rfl rfl (by decide) (by decide) (by decide) rfl rfl (Nat.le_of_ble_eq_true rfl) ⟨Nat.le_of_ble_eq_true rfl, Nat.le_of_ble_eq_true rfl⟩ (fun r222 _ w223 => ?_)
    refine r_ws [(h0, .inr (1, [.ref h1, .ref h6, .ref h7, .int 1, .long 0, .long 9223372036854775807, .int 0, .int 0, .long 0, .long 0])), (h3, .inl (gI g, 6, .inl fn0)), (h1, .inr (2, [.ref h4, .int 0, .int 0, .ref h2, .ref h3, .ref h5])), (h2, .inl (gI g, 6, .inl f1))] rfl ?_
    refine r_iconst 93 2 C dX1_takeTop_93 (by decide) ?_
    refine r_icmp_ne 94 101 C dX1_takeTop_94 (by decide) (fun c224 => ?_) (fun c224 => ?_)
    · skip
      have k225 : ¬ ((Int32.toInt r222) = 2) := fun h_9 => c224 ((fa_eq r222 2).mpr h_9)
      refine r_iconst 101 0 C dX1_takeTop_101 (by decide) ?_
      refine r_callVv 102 C dX1_takeTop_102 [] [(h0, .inr (1, [.ref h1, .ref h6, .ref h7, .int 1, .long 0, .long 9223372036854775807, .int 0, .int 0, .long 0, .long 0]))] [(h3, .inl (gI g, 6, .inl fn0)), (h1, .inr (2, [.ref h4, .int 0, .int 0, .ref h2, .ref h3, .ref h5])), (h2, .inl (gI g, 6, .inl f1))] (fun sz => c69_X1_want l g h0 h1 h6 h7 sz) gX1_takeTop_X1_want rfl ⟨rfl, rfl⟩ 1 (by decide) ⟨Nat.le_of_ble_eq_true rfl, Nat.le_of_ble_eq_true rfl⟩ 0 rfl rfl [0] [1, 2, 3] rfl rfl (by decide) (by decide) (by decide) rfl rfl (Nat.le_of_ble_eq_true rfl) ⟨Nat.le_of_ble_eq_true rfl, Nat.le_of_ble_eq_true rfl⟩ (fun  _ w226 => ?_)
      refine r_ws [(h3, .inl (gI g, 6, .inl fn0)), (h1, .inr (2, [.ref h4, .int 0, .int 0, .ref h2, .ref h3, .ref h5])), (h2, .inl (gI g, 6, .inl f1)), (h0, .inr (1, [.ref h1, .ref h6, .ref h7, .int 1, .long 0, .long 9223372036854775807, .int 0, .int 0, .long 0, .long 0]))] rfl ?_
      exact r_vret 105 Rt dX1_takeTop_105 f1 trivial [1, 2, 0, 3] (by decide) rfl (Nat.le_of_ble_eq_true rfl) (Nat.le_of_ble_eq_true rfl)
    · skip
      have k227 : (Int32.toInt r222) = 2 := (fa_eq r222 2).mp c224
      refine r_iconst 97 1 C dX1_takeTop_97 (by decide) ?_
      refine r_goto 98 102 C dX1_takeTop_98 (by decide) ?_
      refine r_callVv 102 C dX1_takeTop_102 [] [] [(h0, .inr (1, [.ref h1, .ref h6, .ref h7, .int 1, .long 0, .long 9223372036854775807, .int 0, .int 0, .long 0, .long 0])), (h3, .inl (gI g, 6, .inl fn0)), (h1, .inr (2, [.ref h4, .int 0, .int 0, .ref h2, .ref h3, .ref h5])), (h2, .inl (gI g, 6, .inl f1))] (fun sz => c77_X1_want l g h0 sz) gX1_takeTop_X1_want rfl ⟨rfl, rfl⟩ 1 (by decide) ⟨Nat.le_of_ble_eq_true rfl, Nat.le_of_ble_eq_true rfl⟩ 0 rfl rfl [] [0, 1, 2, 3] rfl rfl (by decide) (by decide) (by decide) rfl rfl (Nat.le_of_ble_eq_true rfl) ⟨Nat.le_of_ble_eq_true rfl, Nat.le_of_ble_eq_true rfl⟩ (fun  _ w228 => ?_)
      refine r_ws [(h0, .inr (1, [.ref h1, .ref h6, .ref h7, .int 1, .long 0, .long 9223372036854775807, .int 0, .int 0, .long 0, .long 0])), (h3, .inl (gI g, 6, .inl fn0)), (h1, .inr (2, [.ref h4, .int 0, .int 0, .ref h2, .ref h3, .ref h5])), (h2, .inl (gI g, 6, .inl f1))] rfl ?_
      exact r_vret 105 Rt dX1_takeTop_105 f1 trivial [2, 3, 1, 0] (by decide) rfl (Nat.le_of_ble_eq_true rfl) (Nat.le_of_ble_eq_true rfl)
  rcases w117 with rfl | w117
  · skip
    refine r_if_eq_t 29 36 C dX1_takeTop_29 (by decide) (by decide) ?_
    refine r_iconst 36 0 C dX1_takeTop_36 (by decide) ?_
    refine r_callVv 37 C dX1_takeTop_37 [] [(h0, .inr (1, [.ref h1, .ref h6, .ref h7, .int 1, .long 0, .long 9223372036854775807, .int 0, .int 0, .long 0, .long 0]))] [(h3, .inl (gI g, 6, .inl fn0)), (h1, .inr (2, [.ref h4, .int 0, .int 0, .ref h2, .ref h3, .ref h5])), (h2, .inl (gI g, 6, .inl f1))] (fun sz => c69_X1_want l g h0 h1 h6 h7 sz) gX1_takeTop_X1_want rfl ⟨rfl, rfl⟩ 1 (by decide) ⟨Nat.le_of_ble_eq_true rfl, Nat.le_of_ble_eq_true rfl⟩ 1 rfl rfl [1] [0, 2, 3] rfl rfl (by decide) (by decide) (by decide) rfl rfl (Nat.le_of_ble_eq_true rfl) ⟨Nat.le_of_ble_eq_true rfl, Nat.le_of_ble_eq_true rfl⟩ (fun  _ w229 => ?_)
    refine r_ws [(h3, .inl (gI g, 6, .inl fn0)), (h1, .inr (2, [.ref h4, .int 0, .int 0, .ref h2, .ref h3, .ref h5])), (h2, .inl (gI g, 6, .inl f1)), (h0, .inr (1, [.ref h1, .ref h6, .ref h7, .int 1, .long 0, .long 9223372036854775807, .int 0, .int 0, .long 0, .long 0]))] rfl ?_
    refine r_aload_n 40 0 C dX1_takeTop_40 rfl ?_
    refine r_aload_n 41 0 C dX1_takeTop_41 rfl ?_
    refine r_get 42 C dX1_takeTop_42 (k := 0) 3 rfl rfl hiX1 (by decide) rfl (mg 1 rfl) (Or.inl rfl) rfl ?_
    refine r_bipush 45 18 C dX1_takeTop_45 (by decide) ?_
    refine r_iconst 47 2 C dX1_takeTop_47 (by decide) ?_
    refine r_callVi 48 C dX1_takeTop_48 [.ref h0] [(h1, .inr (2, [.ref h4, .int 0, .int 0, .ref h2, .ref h3, .ref h5])), (h2, .inl (gI g, 6, .inl f1))] [(h3, .inl (gI g, 6, .inl fn0)), (h0, .inr (1, [.ref h1, .ref h6, .ref h7, .int 1, .long 0, .long 9223372036854775807, .int 0, .int 0, .long 0, .long 0]))] (fun sz => c87_X2_fits l g h1 h2 h4 h3 h5 f1 sz) gX1_takeTop_X2_fits rfl ⟨rfl, rfl⟩ 2 (by decide) ⟨Nat.le_of_ble_eq_true rfl, Nat.le_of_ble_eq_true rfl⟩ 1 rfl rfl [1, 2] [0, 3] rfl rfl (by decide) (by decide) (by decide) rfl rfl (Nat.le_of_ble_eq_true rfl) ⟨Nat.le_of_ble_eq_true rfl, Nat.le_of_ble_eq_true rfl⟩ (fun r230 _ w231 => ?_)
    refine r_ws [(h3, .inl (gI g, 6, .inl fn0)), (h0, .inr (1, [.ref h1, .ref h6, .ref h7, .int 1, .long 0, .long 9223372036854775807, .int 0, .int 0, .long 0, .long 0])), (h1, .inr (2, [.ref h4, .int 0, .int 0, .ref h2, .ref h3, .ref h5])), (h2, .inl (gI g, 6, .inl f1))] rfl ?_
    rcases w231 with rfl | w231
    · skip
      refine r_callVv 51 C dX1_takeTop_51 [] [] [(h3, .inl (gI g, 6, .inl fn0)), (h0, .inr (1, [.ref h1, .ref h6, .ref h7, .int 1, .long 0, .long 9223372036854775807, .int 0, .int 0, .long 0, .long 0])), (h1, .inr (2, [.ref h4, .int 0, .int 0, .ref h2, .ref h3, .ref h5])), (h2, .inl (gI g, 6, .inl f1))] (fun sz => c77_X1_want l g h0 sz) gX1_takeTop_X1_want rfl ⟨rfl, rfl⟩ 1 (by decide) ⟨Nat.le_of_ble_eq_true rfl, Nat.le_of_ble_eq_true rfl⟩ 1 rfl rfl [] [0, 1, 2, 3] rfl rfl (by decide) (by decide) (by decide) rfl rfl (Nat.le_of_ble_eq_true rfl) ⟨Nat.le_of_ble_eq_true rfl, Nat.le_of_ble_eq_true rfl⟩ (fun  _ w232 => ?_)
      refine r_ws [(h3, .inl (gI g, 6, .inl fn0)), (h0, .inr (1, [.ref h1, .ref h6, .ref h7, .int 1, .long 0, .long 9223372036854775807, .int 0, .int 0, .long 0, .long 0])), (h1, .inr (2, [.ref h4, .int 0, .int 0, .ref h2, .ref h3, .ref h5])), (h2, .inl (gI g, 6, .inl f1))] rfl ?_
      refine r_aload_n 54 0 C dX1_takeTop_54 rfl ?_
      refine r_aload_n 55 0 C dX1_takeTop_55 rfl ?_
      refine r_get 56 C dX1_takeTop_56 (k := 0) 1 rfl rfl hiX1 (by decide) rfl (mg 1 rfl) (Or.inl rfl) rfl ?_
      refine r_sipush 59 262 C dX1_takeTop_59 (by decide) ?_
      refine r_iconst 62 1 C dX1_takeTop_62 (by decide) ?_
      refine r_callVi 63 C dX1_takeTop_63 [.ref h0] [(h1, .inr (2, [.ref h4, .int 0, .int 0, .ref h2, .ref h3, .ref h5])), (h2, .inl (gI g, 6, .inl f1))] [(h3, .inl (gI g, 6, .inl fn0)), (h0, .inr (1, [.ref h1, .ref h6, .ref h7, .int 1, .long 0, .long 9223372036854775807, .int 0, .int 0, .long 0, .long 0]))] (fun sz => c89_X2_fits l g h1 h2 h4 h3 h5 f1 sz) gX1_takeTop_X2_fits rfl ⟨rfl, rfl⟩ 2 (by decide) ⟨Nat.le_of_ble_eq_true rfl, Nat.le_of_ble_eq_true rfl⟩ 2 rfl rfl [2, 3] [0, 1] rfl rfl (by decide) (by decide) (by decide) rfl rfl (Nat.le_of_ble_eq_true rfl) ⟨Nat.le_of_ble_eq_true rfl, Nat.le_of_ble_eq_true rfl⟩ (fun r233 _ w234 => ?_)
      refine r_ws [(h3, .inl (gI g, 6, .inl fn0)), (h0, .inr (1, [.ref h1, .ref h6, .ref h7, .int 1, .long 0, .long 9223372036854775807, .int 0, .int 0, .long 0, .long 0])), (h1, .inr (2, [.ref h4, .int 0, .int 0, .ref h2, .ref h3, .ref h5])), (h2, .inl (gI g, 6, .inl f1))] rfl ?_
      rcases w234 with rfl | w234
      · skip
        refine r_callVv 66 C dX1_takeTop_66 [] [] [(h3, .inl (gI g, 6, .inl fn0)), (h0, .inr (1, [.ref h1, .ref h6, .ref h7, .int 1, .long 0, .long 9223372036854775807, .int 0, .int 0, .long 0, .long 0])), (h1, .inr (2, [.ref h4, .int 0, .int 0, .ref h2, .ref h3, .ref h5])), (h2, .inl (gI g, 6, .inl f1))] (fun sz => c77_X1_want l g h0 sz) gX1_takeTop_X1_want rfl ⟨rfl, rfl⟩ 1 (by decide) ⟨Nat.le_of_ble_eq_true rfl, Nat.le_of_ble_eq_true rfl⟩ 1 rfl rfl [] [0, 1, 2, 3] rfl rfl (by decide) (by decide) (by decide) rfl rfl (Nat.le_of_ble_eq_true rfl) ⟨Nat.le_of_ble_eq_true rfl, Nat.le_of_ble_eq_true rfl⟩ (fun  _ w235 => ?_)
        refine r_ws [(h3, .inl (gI g, 6, .inl fn0)), (h0, .inr (1, [.ref h1, .ref h6, .ref h7, .int 1, .long 0, .long 9223372036854775807, .int 0, .int 0, .long 0, .long 0])), (h1, .inr (2, [.ref h4, .int 0, .int 0, .ref h2, .ref h3, .ref h5])), (h2, .inl (gI g, 6, .inl f1))] rfl ?_
        refine r_aload_n 69 0 C dX1_takeTop_69 rfl ?_
        refine r_aload_n 70 0 C dX1_takeTop_70 rfl ?_
        refine r_get 71 C dX1_takeTop_71 (k := 0) 1 rfl rfl hiX1 (by decide) rfl (mg 1 rfl) (Or.inl rfl) rfl ?_
        refine r_sipush 74 262 C dX1_takeTop_74 (by decide) ?_
        refine r_callVi 77 C dX1_takeTop_77 [.ref h0] [(h1, .inr (2, [.ref h4, .int 0, .int 0, .ref h2, .ref h3, .ref h5])), (h2, .inl (gI g, 6, .inl f1))] [(h3, .inl (gI g, 6, .inl fn0)), (h0, .inr (1, [.ref h1, .ref h6, .ref h7, .int 1, .long 0, .long 9223372036854775807, .int 0, .int 0, .long 0, .long 0]))] (fun sz => c90_X2_isTold l g h1 h2 h4 h3 h5 f1 sz) gX1_takeTop_X2_isTold rfl ⟨rfl, rfl⟩ 1 (by decide) ⟨Nat.le_of_ble_eq_true rfl, Nat.le_of_ble_eq_true rfl⟩ 2 rfl rfl [2, 3] [0, 1] rfl rfl (by decide) (by decide) (by decide) rfl rfl (Nat.le_of_ble_eq_true rfl) ⟨Nat.le_of_ble_eq_true rfl, Nat.le_of_ble_eq_true rfl⟩ (fun r236 _ w237 => ?_)
        refine r_ws [(h3, .inl (gI g, 6, .inl fn0)), (h0, .inr (1, [.ref h1, .ref h6, .ref h7, .int 1, .long 0, .long 9223372036854775807, .int 0, .int 0, .long 0, .long 0])), (h1, .inr (2, [.ref h4, .int 0, .int 0, .ref h2, .ref h3, .ref h5])), (h2, .inl (gI g, 6, .inl f1))] rfl ?_
        rcases w237 with rfl | w237
        · skip
          refine r_if_eq_t 80 97 C dX1_takeTop_80 (by decide) (by decide) ?_
          refine r_iconst 97 1 C dX1_takeTop_97 (by decide) ?_
          refine r_goto 98 102 C dX1_takeTop_98 (by decide) ?_
          refine r_callVv 102 C dX1_takeTop_102 [] [] [(h3, .inl (gI g, 6, .inl fn0)), (h0, .inr (1, [.ref h1, .ref h6, .ref h7, .int 1, .long 0, .long 9223372036854775807, .int 0, .int 0, .long 0, .long 0])), (h1, .inr (2, [.ref h4, .int 0, .int 0, .ref h2, .ref h3, .ref h5])), (h2, .inl (gI g, 6, .inl f1))] (fun sz => c77_X1_want l g h0 sz) gX1_takeTop_X1_want rfl ⟨rfl, rfl⟩ 1 (by decide) ⟨Nat.le_of_ble_eq_true rfl, Nat.le_of_ble_eq_true rfl⟩ 1 rfl rfl [] [0, 1, 2, 3] rfl rfl (by decide) (by decide) (by decide) rfl rfl (Nat.le_of_ble_eq_true rfl) ⟨Nat.le_of_ble_eq_true rfl, Nat.le_of_ble_eq_true rfl⟩ (fun  _ w238 => ?_)
          refine r_ws [(h3, .inl (gI g, 6, .inl fn0)), (h0, .inr (1, [.ref h1, .ref h6, .ref h7, .int 1, .long 0, .long 9223372036854775807, .int 0, .int 0, .long 0, .long 0])), (h1, .inr (2, [.ref h4, .int 0, .int 0, .ref h2, .ref h3, .ref h5])), (h2, .inl (gI g, 6, .inl f1))] rfl ?_
          exact r_vret 105 Rt dX1_takeTop_105 f1 trivial [2, 3, 0, 1] (by decide) rfl (Nat.le_of_ble_eq_true rfl) (Nat.le_of_ble_eq_true rfl)
        obtain rfl := w237
        refine r_if_eq_f 80 97 C dX1_takeTop_80 (by decide) (by decide) ?_
        refine r_aload_n 83 0 C dX1_takeTop_83 rfl ?_
        refine r_get 84 C dX1_takeTop_84 (k := 0) 1 rfl rfl hiX1 (by decide) rfl (mg 1 rfl) (Or.inl rfl) rfl ?_
        refine r_sipush 87 262 C dX1_takeTop_87 (by decide) ?_
        refine r_callVi 90 C dX1_takeTop_90 [.ref h0] [(h3, .inl (gI g, 6, .inl fn0)), (h1, .inr (2, [.ref h4, .int 0, .int 0, .ref h2, .ref h3, .ref h5])), (h2, .inl (gI g, 6, .inl f1))] [(h0, .inr (1, [.ref h1, .ref h6, .ref h7, .int 1, .long 0, .long 9223372036854775807, .int 0, .int 0, .long 0, .long 0]))] (fun sz => c91_X2_first l g h1 h3 h2 fn0 h4 h5 f1 sz) gX1_takeTop_X2_first rfl ⟨rfl, rfl⟩ 1 (by decide) ⟨Nat.le_of_ble_eq_true rfl, Nat.le_of_ble_eq_true rfl⟩ 2 rfl rfl [0, 2, 3] [1] rfl rfl (by decide) (by decide) (by decide) rfl rfl (Nat.le_of_ble_eq_true rfl) ⟨Nat.le_of_ble_eq_true rfl, Nat.le_of_ble_eq_true rfl⟩ (fun r239 _ w240 => ?_)
        refine r_ws [(h0, .inr (1, [.ref h1, .ref h6, .ref h7, .int 1, .long 0, .long 9223372036854775807, .int 0, .int 0, .long 0, .long 0])), (h3, .inl (gI g, 6, .inl fn0)), (h1, .inr (2, [.ref h4, .int 0, .int 0, .ref h2, .ref h3, .ref h5])), (h2, .inl (gI g, 6, .inl f1))] rfl ?_
        refine r_iconst 93 2 C dX1_takeTop_93 (by decide) ?_
        refine r_icmp_ne 94 101 C dX1_takeTop_94 (by decide) (fun c241 => ?_) (fun c241 => ?_)
        · skip
          have k242 : ¬ ((Int32.toInt r239) = 2) := fun h_9 => c241 ((fa_eq r239 2).mpr h_9)
          refine r_iconst 101 0 C dX1_takeTop_101 (by decide) ?_
          refine r_callVv 102 C dX1_takeTop_102 [] [(h0, .inr (1, [.ref h1, .ref h6, .ref h7, .int 1, .long 0, .long 9223372036854775807, .int 0, .int 0, .long 0, .long 0]))] [(h3, .inl (gI g, 6, .inl fn0)), (h1, .inr (2, [.ref h4, .int 0, .int 0, .ref h2, .ref h3, .ref h5])), (h2, .inl (gI g, 6, .inl f1))] (fun sz => c69_X1_want l g h0 h1 h6 h7 sz) gX1_takeTop_X1_want rfl ⟨rfl, rfl⟩ 1 (by decide) ⟨Nat.le_of_ble_eq_true rfl, Nat.le_of_ble_eq_true rfl⟩ 0 rfl rfl [0] [1, 2, 3] rfl rfl (by decide) (by decide) (by decide) rfl rfl (Nat.le_of_ble_eq_true rfl) ⟨Nat.le_of_ble_eq_true rfl, Nat.le_of_ble_eq_true rfl⟩ (fun  _ w243 => ?_)
          refine r_ws [(h3, .inl (gI g, 6, .inl fn0)), (h1, .inr (2, [.ref h4, .int 0, .int 0, .ref h2, .ref h3, .ref h5])), (h2, .inl (gI g, 6, .inl f1)), (h0, .inr (1, [.ref h1, .ref h6, .ref h7, .int 1, .long 0, .long 9223372036854775807, .int 0, .int 0, .long 0, .long 0]))] rfl ?_
          exact r_vret 105 Rt dX1_takeTop_105 f1 trivial [1, 2, 0, 3] (by decide) rfl (Nat.le_of_ble_eq_true rfl) (Nat.le_of_ble_eq_true rfl)
        · skip
          have k244 : (Int32.toInt r239) = 2 := (fa_eq r239 2).mp c241
          refine r_iconst 97 1 C dX1_takeTop_97 (by decide) ?_
          refine r_goto 98 102 C dX1_takeTop_98 (by decide) ?_
          refine r_callVv 102 C dX1_takeTop_102 [] [] [(h0, .inr (1, [.ref h1, .ref h6, .ref h7, .int 1, .long 0, .long 9223372036854775807, .int 0, .int 0, .long 0, .long 0])), (h3, .inl (gI g, 6, .inl fn0)), (h1, .inr (2, [.ref h4, .int 0, .int 0, .ref h2, .ref h3, .ref h5])), (h2, .inl (gI g, 6, .inl f1))] (fun sz => c77_X1_want l g h0 sz) gX1_takeTop_X1_want rfl ⟨rfl, rfl⟩ 1 (by decide) ⟨Nat.le_of_ble_eq_true rfl, Nat.le_of_ble_eq_true rfl⟩ 0 rfl rfl [] [0, 1, 2, 3] rfl rfl (by decide) (by decide) (by decide) rfl rfl (Nat.le_of_ble_eq_true rfl) ⟨Nat.le_of_ble_eq_true rfl, Nat.le_of_ble_eq_true rfl⟩ (fun  _ w245 => ?_)
          refine r_ws [(h0, .inr (1, [.ref h1, .ref h6, .ref h7, .int 1, .long 0, .long 9223372036854775807, .int 0, .int 0, .long 0, .long 0])), (h3, .inl (gI g, 6, .inl fn0)), (h1, .inr (2, [.ref h4, .int 0, .int 0, .ref h2, .ref h3, .ref h5])), (h2, .inl (gI g, 6, .inl f1))] rfl ?_
          exact r_vret 105 Rt dX1_takeTop_105 f1 trivial [2, 3, 1, 0] (by decide) rfl (Nat.le_of_ble_eq_true rfl) (Nat.le_of_ble_eq_true rfl)
      rcases w234 with rfl | w234
      · skip
        refine r_callVv 66 C dX1_takeTop_66 [] [(h0, .inr (1, [.ref h1, .ref h6, .ref h7, .int 1, .long 0, .long 9223372036854775807, .int 0, .int 0, .long 0, .long 0]))] [(h3, .inl (gI g, 6, .inl fn0)), (h1, .inr (2, [.ref h4, .int 0, .int 0, .ref h2, .ref h3, .ref h5])), (h2, .inl (gI g, 6, .inl f1))] (fun sz => c69_X1_want l g h0 h1 h6 h7 sz) gX1_takeTop_X1_want rfl ⟨rfl, rfl⟩ 1 (by decide) ⟨Nat.le_of_ble_eq_true rfl, Nat.le_of_ble_eq_true rfl⟩ 1 rfl rfl [1] [0, 2, 3] rfl rfl (by decide) (by decide) (by decide) rfl rfl (Nat.le_of_ble_eq_true rfl) ⟨Nat.le_of_ble_eq_true rfl, Nat.le_of_ble_eq_true rfl⟩ (fun  _ w246 => ?_)
        refine r_ws [(h3, .inl (gI g, 6, .inl fn0)), (h1, .inr (2, [.ref h4, .int 0, .int 0, .ref h2, .ref h3, .ref h5])), (h2, .inl (gI g, 6, .inl f1)), (h0, .inr (1, [.ref h1, .ref h6, .ref h7, .int 1, .long 0, .long 9223372036854775807, .int 0, .int 0, .long 0, .long 0]))] rfl ?_
        refine r_aload_n 69 0 C dX1_takeTop_69 rfl ?_
        refine r_aload_n 70 0 C dX1_takeTop_70 rfl ?_
        refine r_get 71 C dX1_takeTop_71 (k := 0) 3 rfl rfl hiX1 (by decide) rfl (mg 1 rfl) (Or.inl rfl) rfl ?_
        refine r_sipush 74 262 C dX1_takeTop_74 (by decide) ?_
        refine r_callVi 77 C dX1_takeTop_77 [.ref h0] [(h1, .inr (2, [.ref h4, .int 0, .int 0, .ref h2, .ref h3, .ref h5])), (h2, .inl (gI g, 6, .inl f1))] [(h3, .inl (gI g, 6, .inl fn0)), (h0, .inr (1, [.ref h1, .ref h6, .ref h7, .int 1, .long 0, .long 9223372036854775807, .int 0, .int 0, .long 0, .long 0]))] (fun sz => c90_X2_isTold l g h1 h2 h4 h3 h5 f1 sz) gX1_takeTop_X2_isTold rfl ⟨rfl, rfl⟩ 1 (by decide) ⟨Nat.le_of_ble_eq_true rfl, Nat.le_of_ble_eq_true rfl⟩ 1 rfl rfl [1, 2] [0, 3] rfl rfl (by decide) (by decide) (by decide) rfl rfl (Nat.le_of_ble_eq_true rfl) ⟨Nat.le_of_ble_eq_true rfl, Nat.le_of_ble_eq_true rfl⟩ (fun r247 _ w248 => ?_)
        refine r_ws [(h3, .inl (gI g, 6, .inl fn0)), (h0, .inr (1, [.ref h1, .ref h6, .ref h7, .int 1, .long 0, .long 9223372036854775807, .int 0, .int 0, .long 0, .long 0])), (h1, .inr (2, [.ref h4, .int 0, .int 0, .ref h2, .ref h3, .ref h5])), (h2, .inl (gI g, 6, .inl f1))] rfl ?_
        rcases w248 with rfl | w248
        · skip
          refine r_if_eq_t 80 97 C dX1_takeTop_80 (by decide) (by decide) ?_
          refine r_iconst 97 1 C dX1_takeTop_97 (by decide) ?_
          refine r_goto 98 102 C dX1_takeTop_98 (by decide) ?_
          refine r_callVv 102 C dX1_takeTop_102 [] [] [(h3, .inl (gI g, 6, .inl fn0)), (h0, .inr (1, [.ref h1, .ref h6, .ref h7, .int 1, .long 0, .long 9223372036854775807, .int 0, .int 0, .long 0, .long 0])), (h1, .inr (2, [.ref h4, .int 0, .int 0, .ref h2, .ref h3, .ref h5])), (h2, .inl (gI g, 6, .inl f1))] (fun sz => c77_X1_want l g h0 sz) gX1_takeTop_X1_want rfl ⟨rfl, rfl⟩ 1 (by decide) ⟨Nat.le_of_ble_eq_true rfl, Nat.le_of_ble_eq_true rfl⟩ 1 rfl rfl [] [0, 1, 2, 3] rfl rfl (by decide) (by decide) (by decide) rfl rfl (Nat.le_of_ble_eq_true rfl) ⟨Nat.le_of_ble_eq_true rfl, Nat.le_of_ble_eq_true rfl⟩ (fun  _ w249 => ?_)
          refine r_ws [(h3, .inl (gI g, 6, .inl fn0)), (h0, .inr (1, [.ref h1, .ref h6, .ref h7, .int 1, .long 0, .long 9223372036854775807, .int 0, .int 0, .long 0, .long 0])), (h1, .inr (2, [.ref h4, .int 0, .int 0, .ref h2, .ref h3, .ref h5])), (h2, .inl (gI g, 6, .inl f1))] rfl ?_
          exact r_vret 105 Rt dX1_takeTop_105 f1 trivial [2, 3, 0, 1] (by decide) rfl (Nat.le_of_ble_eq_true rfl) (Nat.le_of_ble_eq_true rfl)
        obtain rfl := w248
        refine r_if_eq_f 80 97 C dX1_takeTop_80 (by decide) (by decide) ?_
        refine r_aload_n 83 0 C dX1_takeTop_83 rfl ?_
        refine r_get 84 C dX1_takeTop_84 (k := 0) 1 rfl rfl hiX1 (by decide) rfl (mg 1 rfl) (Or.inl rfl) rfl ?_
        refine r_sipush 87 262 C dX1_takeTop_87 (by decide) ?_
        refine r_callVi 90 C dX1_takeTop_90 [.ref h0] [(h3, .inl (gI g, 6, .inl fn0)), (h1, .inr (2, [.ref h4, .int 0, .int 0, .ref h2, .ref h3, .ref h5])), (h2, .inl (gI g, 6, .inl f1))] [(h0, .inr (1, [.ref h1, .ref h6, .ref h7, .int 1, .long 0, .long 9223372036854775807, .int 0, .int 0, .long 0, .long 0]))] (fun sz => c91_X2_first l g h1 h3 h2 fn0 h4 h5 f1 sz) gX1_takeTop_X2_first rfl ⟨rfl, rfl⟩ 1 (by decide) ⟨Nat.le_of_ble_eq_true rfl, Nat.le_of_ble_eq_true rfl⟩ 2 rfl rfl [0, 2, 3] [1] rfl rfl (by decide) (by decide) (by decide) rfl rfl (Nat.le_of_ble_eq_true rfl) ⟨Nat.le_of_ble_eq_true rfl, Nat.le_of_ble_eq_true rfl⟩ (fun r250 _ w251 => ?_)
        refine r_ws [(h0, .inr (1, [.ref h1, .ref h6, .ref h7, .int 1, .long 0, .long 9223372036854775807, .int 0, .int 0, .long 0, .long 0])), (h3, .inl (gI g, 6, .inl fn0)), (h1, .inr (2, [.ref h4, .int 0, .int 0, .ref h2, .ref h3, .ref h5])), (h2, .inl (gI g, 6, .inl f1))] rfl ?_
        refine r_iconst 93 2 C dX1_takeTop_93 (by decide) ?_
        refine r_icmp_ne 94 101 C dX1_takeTop_94 (by decide) (fun c252 => ?_) (fun c252 => ?_)
        · skip
          have k253 : ¬ ((Int32.toInt r250) = 2) := fun h_9 => c252 ((fa_eq r250 2).mpr h_9)
          refine r_iconst 101 0 C dX1_takeTop_101 (by decide) ?_
          refine r_callVv 102 C dX1_takeTop_102 [] [(h0, .inr (1, [.ref h1, .ref h6, .ref h7, .int 1, .long 0, .long 9223372036854775807, .int 0, .int 0, .long 0, .long 0]))] [(h3, .inl (gI g, 6, .inl fn0)), (h1, .inr (2, [.ref h4, .int 0, .int 0, .ref h2, .ref h3, .ref h5])), (h2, .inl (gI g, 6, .inl f1))] (fun sz => c69_X1_want l g h0 h1 h6 h7 sz) gX1_takeTop_X1_want rfl ⟨rfl, rfl⟩ 1 (by decide) ⟨Nat.le_of_ble_eq_true rfl, Nat.le_of_ble_eq_true rfl⟩ 0 rfl rfl [0] [1, 2, 3] rfl rfl (by decide) (by decide) (by decide) rfl rfl (Nat.le_of_ble_eq_true rfl) ⟨Nat.le_of_ble_eq_true rfl, Nat.le_of_ble_eq_true rfl⟩ (fun  _ w254 => ?_)
          refine r_ws [(h3, .inl (gI g, 6, .inl fn0)), (h1, .inr (2, [.ref h4, .int 0, .int 0, .ref h2, .ref h3, .ref h5])), (h2, .inl (gI g, 6, .inl f1)), (h0, .inr (1, [.ref h1, .ref h6, .ref h7, .int 1, .long 0, .long 9223372036854775807, .int 0, .int 0, .long 0, .long 0]))] rfl ?_
          exact r_vret 105 Rt dX1_takeTop_105 f1 trivial [1, 2, 0, 3] (by decide) rfl (Nat.le_of_ble_eq_true rfl) (Nat.le_of_ble_eq_true rfl)
        · skip
          have k255 : (Int32.toInt r250) = 2 := (fa_eq r250 2).mp c252
          refine r_iconst 97 1 C dX1_takeTop_97 (by decide) ?_
          refine r_goto 98 102 C dX1_takeTop_98 (by decide) ?_
          refine r_callVv 102 C dX1_takeTop_102 [] [] [(h0, .inr (1, [.ref h1, .ref h6, .ref h7, .int 1, .long 0, .long 9223372036854775807, .int 0, .int 0, .long 0, .long 0])), (h3, .inl (gI g, 6, .inl fn0)), (h1, .inr (2, [.ref h4, .int 0, .int 0, .ref h2, .ref h3, .ref h5])), (h2, .inl (gI g, 6, .inl f1))] (fun sz => c77_X1_want l g h0 sz) gX1_takeTop_X1_want rfl ⟨rfl, rfl⟩ 1 (by decide) ⟨Nat.le_of_ble_eq_true rfl, Nat.le_of_ble_eq_true rfl⟩ 0 rfl rfl [] [0, 1, 2, 3] rfl rfl (by decide) (by decide) (by decide) rfl rfl (Nat.le_of_ble_eq_true rfl) ⟨Nat.le_of_ble_eq_true rfl, Nat.le_of_ble_eq_true rfl⟩ (fun  _ w256 => ?_)
          refine r_ws [(h0, .inr (1, [.ref h1, .ref h6, .ref h7, .int 1, .long 0, .long 9223372036854775807, .int 0, .int 0, .long 0, .long 0])), (h3, .inl (gI g, 6, .inl fn0)), (h1, .inr (2, [.ref h4, .int 0, .int 0, .ref h2, .ref h3, .ref h5])), (h2, .inl (gI g, 6, .inl f1))] rfl ?_
          exact r_vret 105 Rt dX1_takeTop_105 f1 trivial [2, 3, 1, 0] (by decide) rfl (Nat.le_of_ble_eq_true rfl) (Nat.le_of_ble_eq_true rfl)
      obtain rfl := w234
      refine r_callVv 66 C dX1_takeTop_66 [] [] [(h3, .inl (gI g, 6, .inl fn0)), (h0, .inr (1, [.ref h1, .ref h6, .ref h7, .int 1, .long 0, .long 9223372036854775807, .int 0, .int 0, .long 0, .long 0])), (h1, .inr (2, [.ref h4, .int 0, .int 0, .ref h2, .ref h3, .ref h5])), (h2, .inl (gI g, 6, .inl f1))] (fun sz => c77_X1_want l g h0 sz) gX1_takeTop_X1_want rfl ⟨rfl, rfl⟩ 1 (by decide) ⟨Nat.le_of_ble_eq_true rfl, Nat.le_of_ble_eq_true rfl⟩ 1 rfl rfl [] [0, 1, 2, 3] rfl rfl (by decide) (by decide) (by decide) rfl rfl (Nat.le_of_ble_eq_true rfl) ⟨Nat.le_of_ble_eq_true rfl, Nat.le_of_ble_eq_true rfl⟩ (fun  _ w257 => ?_)
      refine r_ws [(h3, .inl (gI g, 6, .inl fn0)), (h0, .inr (1, [.ref h1, .ref h6, .ref h7, .int 1, .long 0, .long 9223372036854775807, .int 0, .int 0, .long 0, .long 0])), (h1, .inr (2, [.ref h4, .int 0, .int 0, .ref h2, .ref h3, .ref h5])), (h2, .inl (gI g, 6, .inl f1))] rfl ?_
      refine r_aload_n 69 0 C dX1_takeTop_69 rfl ?_
      refine r_aload_n 70 0 C dX1_takeTop_70 rfl ?_
      refine r_get 71 C dX1_takeTop_71 (k := 0) 1 rfl rfl hiX1 (by decide) rfl (mg 1 rfl) (Or.inl rfl) rfl ?_
      refine r_sipush 74 262 C dX1_takeTop_74 (by decide) ?_
      refine r_callVi 77 C dX1_takeTop_77 [.ref h0] [(h1, .inr (2, [.ref h4, .int 0, .int 0, .ref h2, .ref h3, .ref h5])), (h2, .inl (gI g, 6, .inl f1))] [(h3, .inl (gI g, 6, .inl fn0)), (h0, .inr (1, [.ref h1, .ref h6, .ref h7, .int 1, .long 0, .long 9223372036854775807, .int 0, .int 0, .long 0, .long 0]))] (fun sz => c90_X2_isTold l g h1 h2 h4 h3 h5 f1 sz) gX1_takeTop_X2_isTold rfl ⟨rfl, rfl⟩ 1 (by decide) ⟨Nat.le_of_ble_eq_true rfl, Nat.le_of_ble_eq_true rfl⟩ 2 rfl rfl [2, 3] [0, 1] rfl rfl (by decide) (by decide) (by decide) rfl rfl (Nat.le_of_ble_eq_true rfl) ⟨Nat.le_of_ble_eq_true rfl, Nat.le_of_ble_eq_true rfl⟩ (fun r258 _ w259 => ?_)
      refine r_ws [(h3, .inl (gI g, 6, .inl fn0)), (h0, .inr (1, [.ref h1, .ref h6, .ref h7, .int 1, .long 0, .long 9223372036854775807, .int 0, .int 0, .long 0, .long 0])), (h1, .inr (2, [.ref h4, .int 0, .int 0, .ref h2, .ref h3, .ref h5])), (h2, .inl (gI g, 6, .inl f1))] rfl ?_
      rcases w259 with rfl | w259
      · skip
        refine r_if_eq_t 80 97 C dX1_takeTop_80 (by decide) (by decide) ?_
        refine r_iconst 97 1 C dX1_takeTop_97 (by decide) ?_
        refine r_goto 98 102 C dX1_takeTop_98 (by decide) ?_
        refine r_callVv 102 C dX1_takeTop_102 [] [] [(h3, .inl (gI g, 6, .inl fn0)), (h0, .inr (1, [.ref h1, .ref h6, .ref h7, .int 1, .long 0, .long 9223372036854775807, .int 0, .int 0, .long 0, .long 0])), (h1, .inr (2, [.ref h4, .int 0, .int 0, .ref h2, .ref h3, .ref h5])), (h2, .inl (gI g, 6, .inl f1))] (fun sz => c77_X1_want l g h0 sz) gX1_takeTop_X1_want rfl ⟨rfl, rfl⟩ 1 (by decide) ⟨Nat.le_of_ble_eq_true rfl, Nat.le_of_ble_eq_true rfl⟩ 1 rfl rfl [] [0, 1, 2, 3] rfl rfl (by decide) (by decide) (by decide) rfl rfl (Nat.le_of_ble_eq_true rfl) ⟨Nat.le_of_ble_eq_true rfl, Nat.le_of_ble_eq_true rfl⟩ (fun  _ w260 => ?_)
        refine r_ws [(h3, .inl (gI g, 6, .inl fn0)), (h0, .inr (1, [.ref h1, .ref h6, .ref h7, .int 1, .long 0, .long 9223372036854775807, .int 0, .int 0, .long 0, .long 0])), (h1, .inr (2, [.ref h4, .int 0, .int 0, .ref h2, .ref h3, .ref h5])), (h2, .inl (gI g, 6, .inl f1))] rfl ?_
        exact r_vret 105 Rt dX1_takeTop_105 f1 trivial [2, 3, 0, 1] (by decide) rfl (Nat.le_of_ble_eq_true rfl) (Nat.le_of_ble_eq_true rfl)
      obtain rfl := w259
      refine r_if_eq_f 80 97 C dX1_takeTop_80 (by decide) (by decide) ?_
      refine r_aload_n 83 0 C dX1_takeTop_83 rfl ?_
      refine r_get 84 C dX1_takeTop_84 (k := 0) 1 rfl rfl hiX1 (by decide) rfl (mg 1 rfl) (Or.inl rfl) rfl ?_
      refine r_sipush 87 262 C dX1_takeTop_87 (by decide) ?_
      refine r_callVi 90 C dX1_takeTop_90 [.ref h0] [(h3, .inl (gI g, 6, .inl fn0)), (h1, .inr (2, [.ref h4, .int 0, .int 0, .ref h2, .ref h3, .ref h5])), (h2, .inl (gI g, 6, .inl f1))] [(h0, .inr (1, [.ref h1, .ref h6, .ref h7, .int 1, .long 0, .long 9223372036854775807, .int 0, .int 0, .long 0, .long 0]))] (fun sz => c91_X2_first l g h1 h3 h2 fn0 h4 h5 f1 sz) gX1_takeTop_X2_first rfl ⟨rfl, rfl⟩ 1 (by decide) ⟨Nat.le_of_ble_eq_true rfl, Nat.le_of_ble_eq_true rfl⟩ 2 rfl rfl [0, 2, 3] [1] rfl rfl (by decide) (by decide) (by decide) rfl rfl (Nat.le_of_ble_eq_true rfl) ⟨Nat.le_of_ble_eq_true rfl, Nat.le_of_ble_eq_true rfl⟩ (fun r261 _ w262 => ?_)
      refine r_ws [(h0, .inr (1, [.ref h1, .ref h6, .ref h7, .int 1, .long 0, .long 9223372036854775807, .int 0, .int 0, .long 0, .long 0])), (h3, .inl (gI g, 6, .inl fn0)), (h1, .inr (2, [.ref h4, .int 0, .int 0, .ref h2, .ref h3, .ref h5])), (h2, .inl (gI g, 6, .inl f1))] rfl ?_
      refine r_iconst 93 2 C dX1_takeTop_93 (by decide) ?_
      refine r_icmp_ne 94 101 C dX1_takeTop_94 (by decide) (fun c263 => ?_) (fun c263 => ?_)
      · skip
        have k264 : ¬ ((Int32.toInt r261) = 2) := fun h_9 => c263 ((fa_eq r261 2).mpr h_9)
        refine r_iconst 101 0 C dX1_takeTop_101 (by decide) ?_
        refine r_callVv 102 C dX1_takeTop_102 [] [(h0, .inr (1, [.ref h1, .ref h6, .ref h7, .int 1, .long 0, .long 9223372036854775807, .int 0, .int 0, .long 0, .long 0]))] [(h3, .inl (gI g, 6, .inl fn0)), (h1, .inr (2, [.ref h4, .int 0, .int 0, .ref h2, .ref h3, .ref h5])), (h2, .inl (gI g, 6, .inl f1))] (fun sz => c69_X1_want l g h0 h1 h6 h7 sz) gX1_takeTop_X1_want rfl ⟨rfl, rfl⟩ 1 (by decide) ⟨Nat.le_of_ble_eq_true rfl, Nat.le_of_ble_eq_true rfl⟩ 0 rfl rfl [0] [1, 2, 3] rfl rfl (by decide) (by decide) (by decide) rfl rfl (Nat.le_of_ble_eq_true rfl) ⟨Nat.le_of_ble_eq_true rfl, Nat.le_of_ble_eq_true rfl⟩ (fun  _ w265 => ?_)
        refine r_ws [(h3, .inl (gI g, 6, .inl fn0)), (h1, .inr (2, [.ref h4, .int 0, .int 0, .ref h2, .ref h3, .ref h5])), (h2, .inl (gI g, 6, .inl f1)), (h0, .inr (1, [.ref h1, .ref h6, .ref h7, .int 1, .long 0, .long 9223372036854775807, .int 0, .int 0, .long 0, .long 0]))] rfl ?_
        exact r_vret 105 Rt dX1_takeTop_105 f1 trivial [1, 2, 0, 3] (by decide) rfl (Nat.le_of_ble_eq_true rfl) (Nat.le_of_ble_eq_true rfl)
      · skip
        have k266 : (Int32.toInt r261) = 2 := (fa_eq r261 2).mp c263
        refine r_iconst 97 1 C dX1_takeTop_97 (by decide) ?_
        refine r_goto 98 102 C dX1_takeTop_98 (by decide) ?_
        refine r_callVv 102 C dX1_takeTop_102 [] [] [(h0, .inr (1, [.ref h1, .ref h6, .ref h7, .int 1, .long 0, .long 9223372036854775807, .int 0, .int 0, .long 0, .long 0])), (h3, .inl (gI g, 6, .inl fn0)), (h1, .inr (2, [.ref h4, .int 0, .int 0, .ref h2, .ref h3, .ref h5])), (h2, .inl (gI g, 6, .inl f1))] (fun sz => c77_X1_want l g h0 sz) gX1_takeTop_X1_want rfl ⟨rfl, rfl⟩ 1 (by decide) ⟨Nat.le_of_ble_eq_true rfl, Nat.le_of_ble_eq_true rfl⟩ 0 rfl rfl [] [0, 1, 2, 3] rfl rfl (by decide) (by decide) (by decide) rfl rfl (Nat.le_of_ble_eq_true rfl) ⟨Nat.le_of_ble_eq_true rfl, Nat.le_of_ble_eq_true rfl⟩ (fun  _ w267 => ?_)
        refine r_ws [(h0, .inr (1, [.ref h1, .ref h6, .ref h7, .int 1, .long 0, .long 9223372036854775807, .int 0, .int 0, .long 0, .long 0])), (h3, .inl (gI g, 6, .inl fn0)), (h1, .inr (2, [.ref h4, .int 0, .int 0, .ref h2, .ref h3, .ref h5])), (h2, .inl (gI g, 6, .inl f1))] rfl ?_
        exact r_vret 105 Rt dX1_takeTop_105 f1 trivial [2, 3, 1, 0] (by decide) rfl (Nat.le_of_ble_eq_true rfl) (Nat.le_of_ble_eq_true rfl)
    rcases w231 with rfl | w231
    · skip
      refine r_callVv 51 C dX1_takeTop_51 [] [(h0, .inr (1, [.ref h1, .ref h6, .ref h7, .int 1, .long 0, .long 9223372036854775807, .int 0, .int 0, .long 0, .long 0]))] [(h3, .inl (gI g, 6, .inl fn0)), (h1, .inr (2, [.ref h4, .int 0, .int 0, .ref h2, .ref h3, .ref h5])), (h2, .inl (gI g, 6, .inl f1))] (fun sz => c69_X1_want l g h0 h1 h6 h7 sz) gX1_takeTop_X1_want rfl ⟨rfl, rfl⟩ 1 (by decide) ⟨Nat.le_of_ble_eq_true rfl, Nat.le_of_ble_eq_true rfl⟩ 1 rfl rfl [1] [0, 2, 3] rfl rfl (by decide) (by decide) (by decide) rfl rfl (Nat.le_of_ble_eq_true rfl) ⟨Nat.le_of_ble_eq_true rfl, Nat.le_of_ble_eq_true rfl⟩ (fun  _ w268 => ?_)
      refine r_ws [(h3, .inl (gI g, 6, .inl fn0)), (h1, .inr (2, [.ref h4, .int 0, .int 0, .ref h2, .ref h3, .ref h5])), (h2, .inl (gI g, 6, .inl f1)), (h0, .inr (1, [.ref h1, .ref h6, .ref h7, .int 1, .long 0, .long 9223372036854775807, .int 0, .int 0, .long 0, .long 0]))] rfl ?_
      refine r_aload_n 54 0 C dX1_takeTop_54 rfl ?_
      refine r_aload_n 55 0 C dX1_takeTop_55 rfl ?_
      refine r_get 56 C dX1_takeTop_56 (k := 0) 3 rfl rfl hiX1 (by decide) rfl (mg 1 rfl) (Or.inl rfl) rfl ?_
      refine r_sipush 59 262 C dX1_takeTop_59 (by decide) ?_
      refine r_iconst 62 1 C dX1_takeTop_62 (by decide) ?_
      refine r_callVi 63 C dX1_takeTop_63 [.ref h0] [(h1, .inr (2, [.ref h4, .int 0, .int 0, .ref h2, .ref h3, .ref h5])), (h2, .inl (gI g, 6, .inl f1))] [(h3, .inl (gI g, 6, .inl fn0)), (h0, .inr (1, [.ref h1, .ref h6, .ref h7, .int 1, .long 0, .long 9223372036854775807, .int 0, .int 0, .long 0, .long 0]))] (fun sz => c89_X2_fits l g h1 h2 h4 h3 h5 f1 sz) gX1_takeTop_X2_fits rfl ⟨rfl, rfl⟩ 2 (by decide) ⟨Nat.le_of_ble_eq_true rfl, Nat.le_of_ble_eq_true rfl⟩ 1 rfl rfl [1, 2] [0, 3] rfl rfl (by decide) (by decide) (by decide) rfl rfl (Nat.le_of_ble_eq_true rfl) ⟨Nat.le_of_ble_eq_true rfl, Nat.le_of_ble_eq_true rfl⟩ (fun r269 _ w270 => ?_)
      refine r_ws [(h3, .inl (gI g, 6, .inl fn0)), (h0, .inr (1, [.ref h1, .ref h6, .ref h7, .int 1, .long 0, .long 9223372036854775807, .int 0, .int 0, .long 0, .long 0])), (h1, .inr (2, [.ref h4, .int 0, .int 0, .ref h2, .ref h3, .ref h5])), (h2, .inl (gI g, 6, .inl f1))] rfl ?_
      rcases w270 with rfl | w270
      · skip
        refine r_callVv 66 C dX1_takeTop_66 [] [] [(h3, .inl (gI g, 6, .inl fn0)), (h0, .inr (1, [.ref h1, .ref h6, .ref h7, .int 1, .long 0, .long 9223372036854775807, .int 0, .int 0, .long 0, .long 0])), (h1, .inr (2, [.ref h4, .int 0, .int 0, .ref h2, .ref h3, .ref h5])), (h2, .inl (gI g, 6, .inl f1))] (fun sz => c77_X1_want l g h0 sz) gX1_takeTop_X1_want rfl ⟨rfl, rfl⟩ 1 (by decide) ⟨Nat.le_of_ble_eq_true rfl, Nat.le_of_ble_eq_true rfl⟩ 1 rfl rfl [] [0, 1, 2, 3] rfl rfl (by decide) (by decide) (by decide) rfl rfl (Nat.le_of_ble_eq_true rfl) ⟨Nat.le_of_ble_eq_true rfl, Nat.le_of_ble_eq_true rfl⟩ (fun  _ w271 => ?_)
        refine r_ws [(h3, .inl (gI g, 6, .inl fn0)), (h0, .inr (1, [.ref h1, .ref h6, .ref h7, .int 1, .long 0, .long 9223372036854775807, .int 0, .int 0, .long 0, .long 0])), (h1, .inr (2, [.ref h4, .int 0, .int 0, .ref h2, .ref h3, .ref h5])), (h2, .inl (gI g, 6, .inl f1))] rfl ?_
        refine r_aload_n 69 0 C dX1_takeTop_69 rfl ?_
        refine r_aload_n 70 0 C dX1_takeTop_70 rfl ?_
        refine r_get 71 C dX1_takeTop_71 (k := 0) 1 rfl rfl hiX1 (by decide) rfl (mg 1 rfl) (Or.inl rfl) rfl ?_
        refine r_sipush 74 262 C dX1_takeTop_74 (by decide) ?_
        refine r_callVi 77 C dX1_takeTop_77 [.ref h0] [(h1, .inr (2, [.ref h4, .int 0, .int 0, .ref h2, .ref h3, .ref h5])), (h2, .inl (gI g, 6, .inl f1))] [(h3, .inl (gI g, 6, .inl fn0)), (h0, .inr (1, [.ref h1, .ref h6, .ref h7, .int 1, .long 0, .long 9223372036854775807, .int 0, .int 0, .long 0, .long 0]))] (fun sz => c90_X2_isTold l g h1 h2 h4 h3 h5 f1 sz) gX1_takeTop_X2_isTold rfl ⟨rfl, rfl⟩ 1 (by decide) ⟨Nat.le_of_ble_eq_true rfl, Nat.le_of_ble_eq_true rfl⟩ 2 rfl rfl [2, 3] [0, 1] rfl rfl (by decide) (by decide) (by decide) rfl rfl (Nat.le_of_ble_eq_true rfl) ⟨Nat.le_of_ble_eq_true rfl, Nat.le_of_ble_eq_true rfl⟩ (fun r272 _ w273 => ?_)
        refine r_ws [(h3, .inl (gI g, 6, .inl fn0)), (h0, .inr (1, [.ref h1, .ref h6, .ref h7, .int 1, .long 0, .long 9223372036854775807, .int 0, .int 0, .long 0, .long 0])), (h1, .inr (2, [.ref h4, .int 0, .int 0, .ref h2, .ref h3, .ref h5])), (h2, .inl (gI g, 6, .inl f1))] rfl ?_
        rcases w273 with rfl | w273
        · skip
          refine r_if_eq_t 80 97 C dX1_takeTop_80 (by decide) (by decide) ?_
          refine r_iconst 97 1 C dX1_takeTop_97 (by decide) ?_
          refine r_goto 98 102 C dX1_takeTop_98 (by decide) ?_
          refine r_callVv 102 C dX1_takeTop_102 [] [] [(h3, .inl (gI g, 6, .inl fn0)), (h0, .inr (1, [.ref h1, .ref h6, .ref h7, .int 1, .long 0, .long 9223372036854775807, .int 0, .int 0, .long 0, .long 0])), (h1, .inr (2, [.ref h4, .int 0, .int 0, .ref h2, .ref h3, .ref h5])), (h2, .inl (gI g, 6, .inl f1))] (fun sz => c77_X1_want l g h0 sz) gX1_takeTop_X1_want rfl ⟨rfl, rfl⟩ 1 (by decide) ⟨Nat.le_of_ble_eq_true rfl, Nat.le_of_ble_eq_true rfl⟩ 1 rfl rfl [] [0, 1, 2, 3] rfl rfl (by decide) (by decide) (by decide) rfl rfl (Nat.le_of_ble_eq_true rfl) ⟨Nat.le_of_ble_eq_true rfl, Nat.le_of_ble_eq_true rfl⟩ (fun  _ w274 => ?_)
          refine r_ws [(h3, .inl (gI g, 6, .inl fn0)), (h0, .inr (1, [.ref h1, .ref h6, .ref h7, .int 1, .long 0, .long 9223372036854775807, .int 0, .int 0, .long 0, .long 0])), (h1, .inr (2, [.ref h4, .int 0, .int 0, .ref h2, .ref h3, .ref h5])), (h2, .inl (gI g, 6, .inl f1))] rfl ?_
          exact r_vret 105 Rt dX1_takeTop_105 f1 trivial [2, 3, 0, 1] (by decide) rfl (Nat.le_of_ble_eq_true rfl) (Nat.le_of_ble_eq_true rfl)
        obtain rfl := w273
        refine r_if_eq_f 80 97 C dX1_takeTop_80 (by decide) (by decide) ?_
        refine r_aload_n 83 0 C dX1_takeTop_83 rfl ?_
        refine r_get 84 C dX1_takeTop_84 (k := 0) 1 rfl rfl hiX1 (by decide) rfl (mg 1 rfl) (Or.inl rfl) rfl ?_
        refine r_sipush 87 262 C dX1_takeTop_87 (by decide) ?_
        refine r_callVi 90 C dX1_takeTop_90 [.ref h0] [(h3, .inl (gI g, 6, .inl fn0)), (h1, .inr (2, [.ref h4, .int 0, .int 0, .ref h2, .ref h3, .ref h5])), (h2, .inl (gI g, 6, .inl f1))] [(h0, .inr (1, [.ref h1, .ref h6, .ref h7, .int 1, .long 0, .long 9223372036854775807, .int 0, .int 0, .long 0, .long 0]))] (fun sz => c91_X2_first l g h1 h3 h2 fn0 h4 h5 f1 sz) gX1_takeTop_X2_first rfl ⟨rfl, rfl⟩ 1 (by decide) ⟨Nat.le_of_ble_eq_true rfl, Nat.le_of_ble_eq_true rfl⟩ 2 rfl rfl [0, 2, 3] [1] rfl rfl (by decide) (by decide) (by decide) rfl rfl (Nat.le_of_ble_eq_true rfl) ⟨Nat.le_of_ble_eq_true rfl, Nat.le_of_ble_eq_true rfl⟩ (fun r275 _ w276 => ?_)
        refine r_ws [(h0, .inr (1, [.ref h1, .ref h6, .ref h7, .int 1, .long 0, .long 9223372036854775807, .int 0, .int 0, .long 0, .long 0])), (h3, .inl (gI g, 6, .inl fn0)), (h1, .inr (2, [.ref h4, .int 0, .int 0, .ref h2, .ref h3, .ref h5])), (h2, .inl (gI g, 6, .inl f1))] rfl ?_
        refine r_iconst 93 2 C dX1_takeTop_93 (by decide) ?_
        refine r_icmp_ne 94 101 C dX1_takeTop_94 (by decide) (fun c277 => ?_) (fun c277 => ?_)
        · skip
          have k278 : ¬ ((Int32.toInt r275) = 2) := fun h_9 => c277 ((fa_eq r275 2).mpr h_9)
          refine r_iconst 101 0 C dX1_takeTop_101 (by decide) ?_
          refine r_callVv 102 C dX1_takeTop_102 [] [(h0, .inr (1, [.ref h1, .ref h6, .ref h7, .int 1, .long 0, .long 9223372036854775807, .int 0, .int 0, .long 0, .long 0]))] [(h3, .inl (gI g, 6, .inl fn0)), (h1, .inr (2, [.ref h4, .int 0, .int 0, .ref h2, .ref h3, .ref h5])), (h2, .inl (gI g, 6, .inl f1))] (fun sz => c69_X1_want l g h0 h1 h6 h7 sz) gX1_takeTop_X1_want rfl ⟨rfl, rfl⟩ 1 (by decide) ⟨Nat.le_of_ble_eq_true rfl, Nat.le_of_ble_eq_true rfl⟩ 0 rfl rfl [0] [1, 2, 3] rfl rfl (by decide) (by decide) (by decide) rfl rfl (Nat.le_of_ble_eq_true rfl) ⟨Nat.le_of_ble_eq_true rfl, Nat.le_of_ble_eq_true rfl⟩ (fun  _ w279 => ?_)
          refine r_ws [(h3, .inl (gI g, 6, .inl fn0)), (h1, .inr (2, [.ref h4, .int 0, .int 0, .ref h2, .ref h3, .ref h5])), (h2, .inl (gI g, 6, .inl f1)), (h0, .inr (1, [.ref h1, .ref h6, .ref h7, .int 1, .long 0, .long 9223372036854775807, .int 0, .int 0, .long 0, .long 0]))] rfl ?_
          exact r_vret 105 Rt dX1_takeTop_105 f1 trivial [1, 2, 0, 3] (by decide) rfl (Nat.le_of_ble_eq_true rfl) (Nat.le_of_ble_eq_true rfl)
        · skip
          have k280 : (Int32.toInt r275) = 2 := (fa_eq r275 2).mp c277
          refine r_iconst 97 1 C dX1_takeTop_97 (by decide) ?_
          refine r_goto 98 102 C dX1_takeTop_98 (by decide) ?_
          refine r_callVv 102 C dX1_takeTop_102 [] [] [(h0, .inr (1, [.ref h1, .ref h6, .ref h7, .int 1, .long 0, .long 9223372036854775807, .int 0, .int 0, .long 0, .long 0])), (h3, .inl (gI g, 6, .inl fn0)), (h1, .inr (2, [.ref h4, .int 0, .int 0, .ref h2, .ref h3, .ref h5])), (h2, .inl (gI g, 6, .inl f1))] (fun sz => c77_X1_want l g h0 sz) gX1_takeTop_X1_want rfl ⟨rfl, rfl⟩ 1 (by decide) ⟨Nat.le_of_ble_eq_true rfl, Nat.le_of_ble_eq_true rfl⟩ 0 rfl rfl [] [0, 1, 2, 3] rfl rfl (by decide) (by decide) (by decide) rfl rfl (Nat.le_of_ble_eq_true rfl) ⟨Nat.le_of_ble_eq_true rfl, Nat.le_of_ble_eq_true rfl⟩ (fun  _ w281 => ?_)
          refine r_ws [(h0, .inr (1, [.ref h1, .ref h6, .ref h7, .int 1, .long 0, .long 9223372036854775807, .int 0, .int 0, .long 0, .long 0])), (h3, .inl (gI g, 6, .inl fn0)), (h1, .inr (2, [.ref h4, .int 0, .int 0, .ref h2, .ref h3, .ref h5])), (h2, .inl (gI g, 6, .inl f1))] rfl ?_
          exact r_vret 105 Rt dX1_takeTop_105 f1 trivial [2, 3, 1, 0] (by decide) rfl (Nat.le_of_ble_eq_true rfl) (Nat.le_of_ble_eq_true rfl)
      rcases w270 with rfl | w270
      · skip
        refine r_callVv 66 C dX1_takeTop_66 [] [(h0, .inr (1, [.ref h1, .ref h6, .ref h7, .int 1, .long 0, .long 9223372036854775807, .int 0, .int 0, .long 0, .long 0]))] [(h3, .inl (gI g, 6, .inl fn0)), (h1, .inr (2, [.ref h4, .int 0, .int 0, .ref h2, .ref h3, .ref h5])), (h2, .inl (gI g, 6, .inl f1))] (fun sz => c69_X1_want l g h0 h1 h6 h7 sz) gX1_takeTop_X1_want rfl ⟨rfl, rfl⟩ 1 (by decide) ⟨Nat.le_of_ble_eq_true rfl, Nat.le_of_ble_eq_true rfl⟩ 1 rfl rfl [1] [0, 2, 3] rfl rfl (by decide) (by decide) (by decide) rfl rfl (Nat.le_of_ble_eq_true rfl) ⟨Nat.le_of_ble_eq_true rfl, Nat.le_of_ble_eq_true rfl⟩ (fun  _ w282 => ?_)
        refine r_ws [(h3, .inl (gI g, 6, .inl fn0)), (h1, .inr (2, [.ref h4, .int 0, .int 0, .ref h2, .ref h3, .ref h5])), (h2, .inl (gI g, 6, .inl f1)), (h0, .inr (1, [.ref h1, .ref h6, .ref h7, .int 1, .long 0, .long 9223372036854775807, .int 0, .int 0, .long 0, .long 0]))] rfl ?_
        refine r_aload_n 69 0 C dX1_takeTop_69 rfl ?_
        refine r_aload_n 70 0 C dX1_takeTop_70 rfl ?_
        refine r_get 71 C dX1_takeTop_71 (k := 0) 3 rfl rfl hiX1 (by decide) rfl (mg 1 rfl) (Or.inl rfl) rfl ?_
        refine r_sipush 74 262 C dX1_takeTop_74 (by decide) ?_
        refine r_callVi 77 C dX1_takeTop_77 [.ref h0] [(h1, .inr (2, [.ref h4, .int 0, .int 0, .ref h2, .ref h3, .ref h5])), (h2, .inl (gI g, 6, .inl f1))] [(h3, .inl (gI g, 6, .inl fn0)), (h0, .inr (1, [.ref h1, .ref h6, .ref h7, .int 1, .long 0, .long 9223372036854775807, .int 0, .int 0, .long 0, .long 0]))] (fun sz => c90_X2_isTold l g h1 h2 h4 h3 h5 f1 sz) gX1_takeTop_X2_isTold rfl ⟨rfl, rfl⟩ 1 (by decide) ⟨Nat.le_of_ble_eq_true rfl, Nat.le_of_ble_eq_true rfl⟩ 1 rfl rfl [1, 2] [0, 3] rfl rfl (by decide) (by decide) (by decide) rfl rfl (Nat.le_of_ble_eq_true rfl) ⟨Nat.le_of_ble_eq_true rfl, Nat.le_of_ble_eq_true rfl⟩ (fun r283 _ w284 => ?_)
        refine r_ws [(h3, .inl (gI g, 6, .inl fn0)), (h0, .inr (1, [.ref h1, .ref h6, .ref h7, .int 1, .long 0, .long 9223372036854775807, .int 0, .int 0, .long 0, .long 0])), (h1, .inr (2, [.ref h4, .int 0, .int 0, .ref h2, .ref h3, .ref h5])), (h2, .inl (gI g, 6, .inl f1))] rfl ?_
        rcases w284 with rfl | w284
        · skip
          refine r_if_eq_t 80 97 C dX1_takeTop_80 (by decide) (by decide) ?_
          refine r_iconst 97 1 C dX1_takeTop_97 (by decide) ?_
          refine r_goto 98 102 C dX1_takeTop_98 (by decide) ?_
          refine r_callVv 102 C dX1_takeTop_102 [] [] [(h3, .inl (gI g, 6, .inl fn0)), (h0, .inr (1, [.ref h1, .ref h6, .ref h7, .int 1, .long 0, .long 9223372036854775807, .int 0, .int 0, .long 0, .long 0])), (h1, .inr (2, [.ref h4, .int 0, .int 0, .ref h2, .ref h3, .ref h5])), (h2, .inl (gI g, 6, .inl f1))] (fun sz => c77_X1_want l g h0 sz) gX1_takeTop_X1_want rfl ⟨rfl, rfl⟩ 1 (by decide) ⟨Nat.le_of_ble_eq_true rfl, Nat.le_of_ble_eq_true rfl⟩ 1 rfl rfl [] [0, 1, 2, 3] rfl rfl (by decide) (by decide) (by decide) rfl rfl (Nat.le_of_ble_eq_true rfl) ⟨Nat.le_of_ble_eq_true rfl, Nat.le_of_ble_eq_true rfl⟩ (fun  _ w285 => ?_)
          refine r_ws [(h3, .inl (gI g, 6, .inl fn0)), (h0, .inr (1, [.ref h1, .ref h6, .ref h7, .int 1, .long 0, .long 9223372036854775807, .int 0, .int 0, .long 0, .long 0])), (h1, .inr (2, [.ref h4, .int 0, .int 0, .ref h2, .ref h3, .ref h5])), (h2, .inl (gI g, 6, .inl f1))] rfl ?_
          exact r_vret 105 Rt dX1_takeTop_105 f1 trivial [2, 3, 0, 1] (by decide) rfl (Nat.le_of_ble_eq_true rfl) (Nat.le_of_ble_eq_true rfl)
        obtain rfl := w284
        refine r_if_eq_f 80 97 C dX1_takeTop_80 (by decide) (by decide) ?_
        refine r_aload_n 83 0 C dX1_takeTop_83 rfl ?_
        refine r_get 84 C dX1_takeTop_84 (k := 0) 1 rfl rfl hiX1 (by decide) rfl (mg 1 rfl) (Or.inl rfl) rfl ?_
        refine r_sipush 87 262 C dX1_takeTop_87 (by decide) ?_
        refine r_callVi 90 C dX1_takeTop_90 [.ref h0] [(h3, .inl (gI g, 6, .inl fn0)), (h1, .inr (2, [.ref h4, .int 0, .int 0, .ref h2, .ref h3, .ref h5])), (h2, .inl (gI g, 6, .inl f1))] [(h0, .inr (1, [.ref h1, .ref h6, .ref h7, .int 1, .long 0, .long 9223372036854775807, .int 0, .int 0, .long 0, .long 0]))] (fun sz => c91_X2_first l g h1 h3 h2 fn0 h4 h5 f1 sz) gX1_takeTop_X2_first rfl ⟨rfl, rfl⟩ 1 (by decide) ⟨Nat.le_of_ble_eq_true rfl, Nat.le_of_ble_eq_true rfl⟩ 2 rfl rfl [0, 2, 3] [1] rfl rfl (by decide) (by decide) (by decide) rfl rfl (Nat.le_of_ble_eq_true rfl) ⟨Nat.le_of_ble_eq_true rfl, Nat.le_of_ble_eq_true rfl⟩ (fun r286 _ w287 => ?_)
        refine r_ws [(h0, .inr (1, [.ref h1, .ref h6, .ref h7, .int 1, .long 0, .long 9223372036854775807, .int 0, .int 0, .long 0, .long 0])), (h3, .inl (gI g, 6, .inl fn0)), (h1, .inr (2, [.ref h4, .int 0, .int 0, .ref h2, .ref h3, .ref h5])), (h2, .inl (gI g, 6, .inl f1))] rfl ?_
        refine r_iconst 93 2 C dX1_takeTop_93 (by decide) ?_
        refine r_icmp_ne 94 101 C dX1_takeTop_94 (by decide) (fun c288 => ?_) (fun c288 => ?_)
        · skip
          have k289 : ¬ ((Int32.toInt r286) = 2) := fun h_9 => c288 ((fa_eq r286 2).mpr h_9)
          refine r_iconst 101 0 C dX1_takeTop_101 (by decide) ?_
          refine r_callVv 102 C dX1_takeTop_102 [] [(h0, .inr (1, [.ref h1, .ref h6, .ref h7, .int 1, .long 0, .long 9223372036854775807, .int 0, .int 0, .long 0, .long 0]))] [(h3, .inl (gI g, 6, .inl fn0)), (h1, .inr (2, [.ref h4, .int 0, .int 0, .ref h2, .ref h3, .ref h5])), (h2, .inl (gI g, 6, .inl f1))] (fun sz => c69_X1_want l g h0 h1 h6 h7 sz) gX1_takeTop_X1_want rfl ⟨rfl, rfl⟩ 1 (by decide) ⟨Nat.le_of_ble_eq_true rfl, Nat.le_of_ble_eq_true rfl⟩ 0 rfl rfl [0] [1, 2, 3] rfl rfl (by decide) (by decide) (by decide) rfl rfl (Nat.le_of_ble_eq_true rfl) ⟨Nat.le_of_ble_eq_true rfl, Nat.le_of_ble_eq_true rfl⟩ (fun  _ w290 => ?_)
          refine r_ws [(h3, .inl (gI g, 6, .inl fn0)), (h1, .inr (2, [.ref h4, .int 0, .int 0, .ref h2, .ref h3, .ref h5])), (h2, .inl (gI g, 6, .inl f1)), (h0, .inr (1, [.ref h1, .ref h6, .ref h7, .int 1, .long 0, .long 9223372036854775807, .int 0, .int 0, .long 0, .long 0]))] rfl ?_
          exact r_vret 105 Rt dX1_takeTop_105 f1 trivial [1, 2, 0, 3] (by decide) rfl (Nat.le_of_ble_eq_true rfl) (Nat.le_of_ble_eq_true rfl)
        · skip
          have k291 : (Int32.toInt r286) = 2 := (fa_eq r286 2).mp c288
          refine r_iconst 97 1 C dX1_takeTop_97 (by decide) ?_
          refine r_goto 98 102 C dX1_takeTop_98 (by decide) ?_
          refine r_callVv 102 C dX1_takeTop_102 [] [] [(h0, .inr (1, [.ref h1, .ref h6, .ref h7, .int 1, .long 0, .long 9223372036854775807, .int 0, .int 0, .long 0, .long 0])), (h3, .inl (gI g, 6, .inl fn0)), (h1, .inr (2, [.ref h4, .int 0, .int 0, .ref h2, .ref h3, .ref h5])), (h2, .inl (gI g, 6, .inl f1))] (fun sz => c77_X1_want l g h0 sz) gX1_takeTop_X1_want rfl ⟨rfl, rfl⟩ 1 (by decide) ⟨Nat.le_of_ble_eq_true rfl, Nat.le_of_ble_eq_true rfl⟩ 0 rfl rfl [] [0, 1, 2, 3] rfl rfl (by decide) (by decide) (by decide) rfl rfl (Nat.le_of_ble_eq_true rfl) ⟨Nat.le_of_ble_eq_true rfl, Nat.le_of_ble_eq_true rfl⟩ (fun  _ w292 => ?_)
          refine r_ws [(h0, .inr (1, [.ref h1, .ref h6, .ref h7, .int 1, .long 0, .long 9223372036854775807, .int 0, .int 0, .long 0, .long 0])), (h3, .inl (gI g, 6, .inl fn0)), (h1, .inr (2, [.ref h4, .int 0, .int 0, .ref h2, .ref h3, .ref h5])), (h2, .inl (gI g, 6, .inl f1))] rfl ?_
          exact r_vret 105 Rt dX1_takeTop_105 f1 trivial [2, 3, 1, 0] (by decide) rfl (Nat.le_of_ble_eq_true rfl) (Nat.le_of_ble_eq_true rfl)
      obtain rfl := w270
      refine r_callVv 66 C dX1_takeTop_66 [] [] [(h3, .inl (gI g, 6, .inl fn0)), (h0, .inr (1, [.ref h1, .ref h6, .ref h7, .int 1, .long 0, .long 9223372036854775807, .int 0, .int 0, .long 0, .long 0])), (h1, .inr (2, [.ref h4, .int 0, .int 0, .ref h2, .ref h3, .ref h5])), (h2, .inl (gI g, 6, .inl f1))] (fun sz => c77_X1_want l g h0 sz) gX1_takeTop_X1_want rfl ⟨rfl, rfl⟩ 1 (by decide) ⟨Nat.le_of_ble_eq_true rfl, Nat.le_of_ble_eq_true rfl⟩ 1 rfl rfl [] [0, 1, 2, 3] rfl rfl (by decide) (by decide) (by decide) rfl rfl (Nat.le_of_ble_eq_true rfl) ⟨Nat.le_of_ble_eq_true rfl, Nat.le_of_ble_eq_true rfl⟩ (fun  _ w293 => ?_)
      refine r_ws [(h3, .inl (gI g, 6, .inl fn0)), (h0, .inr (1, [.ref h1, .ref h6, .ref h7, .int 1, .long 0, .long 9223372036854775807, .int 0, .int 0, .long 0, .long 0])), (h1, .inr (2, [.ref h4, .int 0, .int 0, .ref h2, .ref h3, .ref h5])), (h2, .inl (gI g, 6, .inl f1))] rfl ?_
      refine r_aload_n 69 0 C dX1_takeTop_69 rfl ?_
      refine r_aload_n 70 0 C dX1_takeTop_70 rfl ?_
      refine r_get 71 C dX1_takeTop_71 (k := 0) 1 rfl rfl hiX1 (by decide) rfl (mg 1 rfl) (Or.inl rfl) rfl ?_
      refine r_sipush 74 262 C dX1_takeTop_74 (by decide) ?_
      refine r_callVi 77 C dX1_takeTop_77 [.ref h0] [(h1, .inr (2, [.ref h4, .int 0, .int 0, .ref h2, .ref h3, .ref h5])), (h2, .inl (gI g, 6, .inl f1))] [(h3, .inl (gI g, 6, .inl fn0)), (h0, .inr (1, [.ref h1, .ref h6, .ref h7, .int 1, .long 0, .long 9223372036854775807, .int 0, .int 0, .long 0, .long 0]))] (fun sz => c90_X2_isTold l g h1 h2 h4 h3 h5 f1 sz) gX1_takeTop_X2_isTold rfl ⟨rfl, rfl⟩ 1 (by decide) ⟨Nat.le_of_ble_eq_true rfl, Nat.le_of_ble_eq_true rfl⟩ 2 rfl rfl [2, 3] [0, 1] rfl rfl (by decide) (by decide) (by decide) rfl rfl (Nat.le_of_ble_eq_true rfl) ⟨Nat.le_of_ble_eq_true rfl, Nat.le_of_ble_eq_true rfl⟩ (fun r294 _ w295 => ?_)
      refine r_ws [(h3, .inl (gI g, 6, .inl fn0)), (h0, .inr (1, [.ref h1, .ref h6, .ref h7, .int 1, .long 0, .long 9223372036854775807, .int 0, .int 0, .long 0, .long 0])), (h1, .inr (2, [.ref h4, .int 0, .int 0, .ref h2, .ref h3, .ref h5])), (h2, .inl (gI g, 6, .inl f1))] rfl ?_
      rcases w295 with rfl | w295
      · skip
        refine r_if_eq_t 80 97 C dX1_takeTop_80 (by decide) (by decide) ?_
        refine r_iconst 97 1 C dX1_takeTop_97 (by decide) ?_
        refine r_goto 98 102 C dX1_takeTop_98 (by decide) ?_
        refine r_callVv 102 C dX1_takeTop_102 [] [] [(h3, .inl (gI g, 6, .inl fn0)), (h0, .inr (1, [.ref h1, .ref h6, .ref h7, .int 1, .long 0, .long 9223372036854775807, .int 0, .int 0, .long 0, .long 0])), (h1, .inr (2, [.ref h4, .int 0, .int 0, .ref h2, .ref h3, .ref h5])), (h2, .inl (gI g, 6, .inl f1))] (fun sz => c77_X1_want l g h0 sz) gX1_takeTop_X1_want rfl ⟨rfl, rfl⟩ 1 (by decide) ⟨Nat.le_of_ble_eq_true rfl, Nat.le_of_ble_eq_true rfl⟩ 1 rfl rfl [] [0, 1, 2, 3] rfl rfl (by decide) (by decide) (by decide) rfl rfl (Nat.le_of_ble_eq_true rfl) ⟨Nat.le_of_ble_eq_true rfl, Nat.le_of_ble_eq_true rfl⟩ (fun  _ w296 => ?_)
        refine r_ws [(h3, .inl (gI g, 6, .inl fn0)), (h0, .inr (1, [.ref h1, .ref h6, .ref h7, .int 1, .long 0, .long 9223372036854775807, .int 0, .int 0, .long 0, .long 0])), (h1, .inr (2, [.ref h4, .int 0, .int 0, .ref h2, .ref h3, .ref h5])), (h2, .inl (gI g, 6, .inl f1))] rfl ?_
        exact r_vret 105 Rt dX1_takeTop_105 f1 trivial [2, 3, 0, 1] (by decide) rfl (Nat.le_of_ble_eq_true rfl) (Nat.le_of_ble_eq_true rfl)
      obtain rfl := w295
      refine r_if_eq_f 80 97 C dX1_takeTop_80 (by decide) (by decide) ?_
      refine r_aload_n 83 0 C dX1_takeTop_83 rfl ?_
      refine r_get 84 C dX1_takeTop_84 (k := 0) 1 rfl rfl hiX1 (by decide) rfl (mg 1 rfl) (Or.inl rfl) rfl ?_
      refine r_sipush 87 262 C dX1_takeTop_87 (by decide) ?_
      refine r_callVi 90 C dX1_takeTop_90 [.ref h0] [(h3, .inl (gI g, 6, .inl fn0)), (h1, .inr (2, [.ref h4, .int 0, .int 0, .ref h2, .ref h3, .ref h5])), (h2, .inl (gI g, 6, .inl f1))] [(h0, .inr (1, [.ref h1, .ref h6, .ref h7, .int 1, .long 0, .long 9223372036854775807, .int 0, .int 0, .long 0, .long 0]))] (fun sz => c91_X2_first l g h1 h3 h2 fn0 h4 h5 f1 sz) gX1_takeTop_X2_first rfl ⟨rfl, rfl⟩ 1 (by decide) ⟨Nat.le_of_ble_eq_true rfl, Nat.le_of_ble_eq_true rfl⟩ 2 rfl rfl [0, 2, 3] [1] rfl rfl (by decide) (by decide) (by decide) rfl rfl (Nat.le_of_ble_eq_true rfl) ⟨Nat.le_of_ble_eq_true rfl, Nat.le_of_ble_eq_true rfl⟩ (fun r297 _ w298 => ?_)
      refine r_ws [(h0, .inr (1, [.ref h1, .ref h6, .ref h7, .int 1, .long 0, .long 9223372036854775807, .int 0, .int 0, .long 0, .long 0])), (h3, .inl (gI g, 6, .inl fn0)), (h1, .inr (2, [.ref h4, .int 0, .int 0, .ref h2, .ref h3, .ref h5])), (h2, .inl (gI g, 6, .inl f1))] rfl ?_
      refine r_iconst 93 2 C dX1_takeTop_93 (by decide) ?_
      refine r_icmp_ne 94 101 C dX1_takeTop_94 (by decide) (fun c299 => ?_) (fun c299 => ?_)
      · skip
        have k300 : ¬ ((Int32.toInt r297) = 2) := fun h_9 => c299 ((fa_eq r297 2).mpr h_9)
        refine r_iconst 101 0 C dX1_takeTop_101 (by decide) ?_
        refine r_callVv 102 C dX1_takeTop_102 [] [(h0, .inr (1, [.ref h1, .ref h6, .ref h7, .int 1, .long 0, .long 9223372036854775807, .int 0, .int 0, .long 0, .long 0]))] [(h3, .inl (gI g, 6, .inl fn0)), (h1, .inr (2, [.ref h4, .int 0, .int 0, .ref h2, .ref h3, .ref h5])), (h2, .inl (gI g, 6, .inl f1))] (fun sz => c69_X1_want l g h0 h1 h6 h7 sz) gX1_takeTop_X1_want rfl ⟨rfl, rfl⟩ 1 (by decide) ⟨Nat.le_of_ble_eq_true rfl, Nat.le_of_ble_eq_true rfl⟩ 0 rfl rfl [0] [1, 2, 3] rfl rfl (by decide) (by decide) (by decide) rfl rfl (Nat.le_of_ble_eq_true rfl) ⟨Nat.le_of_ble_eq_true rfl, Nat.le_of_ble_eq_true rfl⟩ (fun  _ w301 => ?_)
        refine r_ws [(h3, .inl (gI g, 6, .inl fn0)), (h1, .inr (2, [.ref h4, .int 0, .int 0, .ref h2, .ref h3, .ref h5])), (h2, .inl (gI g, 6, .inl f1)), (h0, .inr (1, [.ref h1, .ref h6, .ref h7, .int 1, .long 0, .long 9223372036854775807, .int 0, .int 0, .long 0, .long 0]))] rfl ?_
        exact r_vret 105 Rt dX1_takeTop_105 f1 trivial [1, 2, 0, 3] (by decide) rfl (Nat.le_of_ble_eq_true rfl) (Nat.le_of_ble_eq_true rfl)
      · skip
        have k302 : (Int32.toInt r297) = 2 := (fa_eq r297 2).mp c299
        refine r_iconst 97 1 C dX1_takeTop_97 (by decide) ?_
        refine r_goto 98 102 C dX1_takeTop_98 (by decide) ?_
        refine r_callVv 102 C dX1_takeTop_102 [] [] [(h0, .inr (1, [.ref h1, .ref h6, .ref h7, .int 1, .long 0, .long 9223372036854775807, .int 0, .int 0, .long 0, .long 0])), (h3, .inl (gI g, 6, .inl fn0)), (h1, .inr (2, [.ref h4, .int 0, .int 0, .ref h2, .ref h3, .ref h5])), (h2, .inl (gI g, 6, .inl f1))] (fun sz => c77_X1_want l g h0 sz) gX1_takeTop_X1_want rfl ⟨rfl, rfl⟩ 1 (by decide) ⟨Nat.le_of_ble_eq_true rfl, Nat.le_of_ble_eq_true rfl⟩ 0 rfl rfl [] [0, 1, 2, 3] rfl rfl (by decide) (by decide) (by decide) rfl rfl (Nat.le_of_ble_eq_true rfl) ⟨Nat.le_of_ble_eq_true rfl, Nat.le_of_ble_eq_true rfl⟩ (fun  _ w303 => ?_)
        refine r_ws [(h0, .inr (1, [.ref h1, .ref h6, .ref h7, .int 1, .long 0, .long 9223372036854775807, .int 0, .int 0, .long 0, .long 0])), (h3, .inl (gI g, 6, .inl fn0)), (h1, .inr (2, [.ref h4, .int 0, .int 0, .ref h2, .ref h3, .ref h5])), (h2, .inl (gI g, 6, .inl f1))] rfl ?_
        exact r_vret 105 Rt dX1_takeTop_105 f1 trivial [2, 3, 1, 0] (by decide) rfl (Nat.le_of_ble_eq_true rfl) (Nat.le_of_ble_eq_true rfl)
    obtain rfl := w231
    refine r_callVv 51 C dX1_takeTop_51 [] [] [(h3, .inl (gI g, 6, .inl fn0)), (h0, .inr (1, [.ref h1, .ref h6, .ref h7, .int 1, .long 0, .long 9223372036854775807, .int 0, .int 0, .long 0, .long 0])), (h1, .inr (2, [.ref h4, .int 0, .int 0, .ref h2, .ref h3, .ref h5])), (h2, .inl (gI g, 6, .inl f1))] (fun sz => c77_X1_want l g h0 sz) gX1_takeTop_X1_want rfl ⟨rfl, rfl⟩ 1 (by decide) ⟨Nat.le_of_ble_eq_true rfl, Nat.le_of_ble_eq_true rfl⟩ 1 rfl rfl [] [0, 1, 2, 3] rfl rfl (by decide) (by decide) (by decide) rfl rfl (Nat.le_of_ble_eq_true rfl) ⟨Nat.le_of_ble_eq_true rfl, Nat.le_of_ble_eq_true rfl⟩ (fun  _ w304 => ?_)
    refine r_ws [(h3, .inl (gI g, 6, .inl fn0)), (h0, .inr (1, [.ref h1, .ref h6, .ref h7, .int 1, .long 0, .long 9223372036854775807, .int 0, .int 0, .long 0, .long 0])), (h1, .inr (2, [.ref h4, .int 0, .int 0, .ref h2, .ref h3, .ref h5])), (h2, .inl (gI g, 6, .inl f1))] rfl ?_
    refine r_aload_n 54 0 C dX1_takeTop_54 rfl ?_
    refine r_aload_n 55 0 C dX1_takeTop_55 rfl ?_
    refine r_get 56 C dX1_takeTop_56 (k := 0) 1 rfl rfl hiX1 (by decide) rfl (mg 1 rfl) (Or.inl rfl) rfl ?_
    refine r_sipush 59 262 C dX1_takeTop_59 (by decide) ?_
    refine r_iconst 62 1 C dX1_takeTop_62 (by decide) ?_
    refine r_callVi 63 C dX1_takeTop_63 [.ref h0] [(h1, .inr (2, [.ref h4, .int 0, .int 0, .ref h2, .ref h3, .ref h5])), (h2, .inl (gI g, 6, .inl f1))] [(h3, .inl (gI g, 6, .inl fn0)), (h0, .inr (1, [.ref h1, .ref h6, .ref h7, .int 1, .long 0, .long 9223372036854775807, .int 0, .int 0, .long 0, .long 0]))] (fun sz => c89_X2_fits l g h1 h2 h4 h3 h5 f1 sz) gX1_takeTop_X2_fits rfl ⟨rfl, rfl⟩ 2 (by decide) ⟨Nat.le_of_ble_eq_true rfl, Nat.le_of_ble_eq_true rfl⟩ 2 rfl rfl [2, 3] [0, 1] rfl rfl (by decide) (by decide) (by decide) rfl rfl (Nat.le_of_ble_eq_true rfl) ⟨Nat.le_of_ble_eq_true rfl, Nat.le_of_ble_eq_true rfl⟩ (fun r305 _ w306 => ?_)
    refine r_ws [(h3, .inl (gI g, 6, .inl fn0)), (h0, .inr (1, [.ref h1, .ref h6, .ref h7, .int 1, .long 0, .long 9223372036854775807, .int 0, .int 0, .long 0, .long 0])), (h1, .inr (2, [.ref h4, .int 0, .int 0, .ref h2, .ref h3, .ref h5])), (h2, .inl (gI g, 6, .inl f1))] rfl ?_
    rcases w306 with rfl | w306
    · skip
      refine r_callVv 66 C dX1_takeTop_66 [] [] [(h3, .inl (gI g, 6, .inl fn0)), (h0, .inr (1, [.ref h1, .ref h6, .ref h7, .int 1, .long 0, .long 9223372036854775807, .int 0, .int 0, .long 0, .long 0])), (h1, .inr (2, [.ref h4, .int 0, .int 0, .ref h2, .ref h3, .ref h5])), (h2, .inl (gI g, 6, .inl f1))] (fun sz => c77_X1_want l g h0 sz) gX1_takeTop_X1_want rfl ⟨rfl, rfl⟩ 1 (by decide) ⟨Nat.le_of_ble_eq_true rfl, Nat.le_of_ble_eq_true rfl⟩ 1 rfl rfl [] [0, 1, 2, 3] rfl rfl (by decide) (by decide) (by decide) rfl rfl (Nat.le_of_ble_eq_true rfl) ⟨Nat.le_of_ble_eq_true rfl, Nat.le_of_ble_eq_true rfl⟩ (fun  _ w307 => ?_)
      refine r_ws [(h3, .inl (gI g, 6, .inl fn0)), (h0, .inr (1, [.ref h1, .ref h6, .ref h7, .int 1, .long 0, .long 9223372036854775807, .int 0, .int 0, .long 0, .long 0])), (h1, .inr (2, [.ref h4, .int 0, .int 0, .ref h2, .ref h3, .ref h5])), (h2, .inl (gI g, 6, .inl f1))] rfl ?_
      refine r_aload_n 69 0 C dX1_takeTop_69 rfl ?_
      refine r_aload_n 70 0 C dX1_takeTop_70 rfl ?_
      refine r_get 71 C dX1_takeTop_71 (k := 0) 1 rfl rfl hiX1 (by decide) rfl (mg 1 rfl) (Or.inl rfl) rfl ?_
      refine r_sipush 74 262 C dX1_takeTop_74 (by decide) ?_
      refine r_callVi 77 C dX1_takeTop_77 [.ref h0] [(h1, .inr (2, [.ref h4, .int 0, .int 0, .ref h2, .ref h3, .ref h5])), (h2, .inl (gI g, 6, .inl f1))] [(h3, .inl (gI g, 6, .inl fn0)), (h0, .inr (1, [.ref h1, .ref h6, .ref h7, .int 1, .long 0, .long 9223372036854775807, .int 0, .int 0, .long 0, .long 0]))] (fun sz => c90_X2_isTold l g h1 h2 h4 h3 h5 f1 sz) gX1_takeTop_X2_isTold rfl ⟨rfl, rfl⟩ 1 (by decide) ⟨Nat.le_of_ble_eq_true rfl, Nat.le_of_ble_eq_true rfl⟩ 2 rfl rfl [2, 3] [0, 1] rfl rfl (by decide) (by decide) (by decide) rfl rfl (Nat.le_of_ble_eq_true rfl) ⟨Nat.le_of_ble_eq_true rfl, Nat.le_of_ble_eq_true rfl⟩ (fun r308 _ w309 => ?_)
      refine r_ws [(h3, .inl (gI g, 6, .inl fn0)), (h0, .inr (1, [.ref h1, .ref h6, .ref h7, .int 1, .long 0, .long 9223372036854775807, .int 0, .int 0, .long 0, .long 0])), (h1, .inr (2, [.ref h4, .int 0, .int 0, .ref h2, .ref h3, .ref h5])), (h2, .inl (gI g, 6, .inl f1))] rfl ?_
      rcases w309 with rfl | w309
      · skip
        refine r_if_eq_t 80 97 C dX1_takeTop_80 (by decide) (by decide) ?_
        refine r_iconst 97 1 C dX1_takeTop_97 (by decide) ?_
        refine r_goto 98 102 C dX1_takeTop_98 (by decide) ?_
        refine r_callVv 102 C dX1_takeTop_102 [] [] [(h3, .inl (gI g, 6, .inl fn0)), (h0, .inr (1, [.ref h1, .ref h6, .ref h7, .int 1, .long 0, .long 9223372036854775807, .int 0, .int 0, .long 0, .long 0])), (h1, .inr (2, [.ref h4, .int 0, .int 0, .ref h2, .ref h3, .ref h5])), (h2, .inl (gI g, 6, .inl f1))] (fun sz => c77_X1_want l g h0 sz) gX1_takeTop_X1_want rfl ⟨rfl, rfl⟩ 1 (by decide) ⟨Nat.le_of_ble_eq_true rfl, Nat.le_of_ble_eq_true rfl⟩ 1 rfl rfl [] [0, 1, 2, 3] rfl rfl (by decide) (by decide) (by decide) rfl rfl (Nat.le_of_ble_eq_true rfl) ⟨Nat.le_of_ble_eq_true rfl, Nat.le_of_ble_eq_true rfl⟩ (fun  _ w310 => ?_)
        refine r_ws [(h3, .inl (gI g, 6, .inl fn0)), (h0, .inr (1, [.ref h1, .ref h6, .ref h7, .int 1, .long 0, .long 9223372036854775807, .int 0, .int 0, .long 0, .long 0])), (h1, .inr (2, [.ref h4, .int 0, .int 0, .ref h2, .ref h3, .ref h5])), (h2, .inl (gI g, 6, .inl f1))] rfl ?_
        exact r_vret 105 Rt dX1_takeTop_105 f1 trivial [2, 3, 0, 1] (by decide) rfl (Nat.le_of_ble_eq_true rfl) (Nat.le_of_ble_eq_true rfl)
      obtain rfl := w309
      refine r_if_eq_f 80 97 C dX1_takeTop_80 (by decide) (by decide) ?_
      refine r_aload_n 83 0 C dX1_takeTop_83 rfl ?_
      refine r_get 84 C dX1_takeTop_84 (k := 0) 1 rfl rfl hiX1 (by decide) rfl (mg 1 rfl) (Or.inl rfl) rfl ?_
      refine r_sipush 87 262 C dX1_takeTop_87 (by decide) ?_
      refine r_callVi 90 C dX1_takeTop_90 [.ref h0] [(h3, .inl (gI g, 6, .inl fn0)), (h1, .inr (2, [.ref h4, .int 0, .int 0, .ref h2, .ref h3, .ref h5])), (h2, .inl (gI g, 6, .inl f1))] [(h0, .inr (1, [.ref h1, .ref h6, .ref h7, .int 1, .long 0, .long 9223372036854775807, .int 0, .int 0, .long 0, .long 0]))] (fun sz => c91_X2_first l g h1 h3 h2 fn0 h4 h5 f1 sz) gX1_takeTop_X2_first rfl ⟨rfl, rfl⟩ 1 (by decide) ⟨Nat.le_of_ble_eq_true rfl, Nat.le_of_ble_eq_true rfl⟩ 2 rfl rfl [0, 2, 3] [1] rfl rfl (by decide) (by decide) (by decide) rfl rfl (Nat.le_of_ble_eq_true rfl) ⟨Nat.le_of_ble_eq_true rfl, Nat.le_of_ble_eq_true rfl⟩ (fun r311 _ w312 => ?_)
      refine r_ws [(h0, .inr (1, [.ref h1, .ref h6, .ref h7, .int 1, .long 0, .long 9223372036854775807, .int 0, .int 0, .long 0, .long 0])), (h3, .inl (gI g, 6, .inl fn0)), (h1, .inr (2, [.ref h4, .int 0, .int 0, .ref h2, .ref h3, .ref h5])), (h2, .inl (gI g, 6, .inl f1))] rfl ?_
      refine r_iconst 93 2 C dX1_takeTop_93 (by decide) ?_
      refine r_icmp_ne 94 101 C dX1_takeTop_94 (by decide) (fun c313 => ?_) (fun c313 => ?_)
      · skip
        have k314 : ¬ ((Int32.toInt r311) = 2) := fun h_9 => c313 ((fa_eq r311 2).mpr h_9)
        refine r_iconst 101 0 C dX1_takeTop_101 (by decide) ?_
        refine r_callVv 102 C dX1_takeTop_102 [] [(h0, .inr (1, [.ref h1, .ref h6, .ref h7, .int 1, .long 0, .long 9223372036854775807, .int 0, .int 0, .long 0, .long 0]))] [(h3, .inl (gI g, 6, .inl fn0)), (h1, .inr (2, [.ref h4, .int 0, .int 0, .ref h2, .ref h3, .ref h5])), (h2, .inl (gI g, 6, .inl f1))] (fun sz => c69_X1_want l g h0 h1 h6 h7 sz) gX1_takeTop_X1_want rfl ⟨rfl, rfl⟩ 1 (by decide) ⟨Nat.le_of_ble_eq_true rfl, Nat.le_of_ble_eq_true rfl⟩ 0 rfl rfl [0] [1, 2, 3] rfl rfl (by decide) (by decide) (by decide) rfl rfl (Nat.le_of_ble_eq_true rfl) ⟨Nat.le_of_ble_eq_true rfl, Nat.le_of_ble_eq_true rfl⟩ (fun  _ w315 => ?_)
        refine r_ws [(h3, .inl (gI g, 6, .inl fn0)), (h1, .inr (2, [.ref h4, .int 0, .int 0, .ref h2, .ref h3, .ref h5])), (h2, .inl (gI g, 6, .inl f1)), (h0, .inr (1, [.ref h1, .ref h6, .ref h7, .int 1, .long 0, .long 9223372036854775807, .int 0, .int 0, .long 0, .long 0]))] rfl ?_
        exact r_vret 105 Rt dX1_takeTop_105 f1 trivial [1, 2, 0, 3] (by decide) rfl (Nat.le_of_ble_eq_true rfl) (Nat.le_of_ble_eq_true rfl)
      · skip
        have k316 : (Int32.toInt r311) = 2 := (fa_eq r311 2).mp c313
        refine r_iconst 97 1 C dX1_takeTop_97 (by decide) ?_
        refine r_goto 98 102 C dX1_takeTop_98 (by decide) ?_
        refine r_callVv 102 C dX1_takeTop_102 [] [] [(h0, .inr (1, [.ref h1, .ref h6, .ref h7, .int 1, .long 0, .long 9223372036854775807, .int 0, .int 0, .long 0, .long 0])), (h3, .inl (gI g, 6, .inl fn0)), (h1, .inr (2, [.ref h4, .int 0, .int 0, .ref h2, .ref h3, .ref h5])), (h2, .inl (gI g, 6, .inl f1))] (fun sz => c77_X1_want l g h0 sz) gX1_takeTop_X1_want rfl ⟨rfl, rfl⟩ 1 (by decide) ⟨Nat.le_of_ble_eq_true rfl, Nat.le_of_ble_eq_true rfl⟩ 0 rfl rfl [] [0, 1, 2, 3] rfl rfl (by decide) (by decide) (by decide) rfl rfl (Nat.le_of_ble_eq_true rfl) ⟨Nat.le_of_ble_eq_true rfl, Nat.le_of_ble_eq_true rfl⟩ (fun  _ w317 => ?_)
        refine r_ws [(h0, .inr (1, [.ref h1, .ref h6, .ref h7, .int 1, .long 0, .long 9223372036854775807, .int 0, .int 0, .long 0, .long 0])), (h3, .inl (gI g, 6, .inl fn0)), (h1, .inr (2, [.ref h4, .int 0, .int 0, .ref h2, .ref h3, .ref h5])), (h2, .inl (gI g, 6, .inl f1))] rfl ?_
        exact r_vret 105 Rt dX1_takeTop_105 f1 trivial [2, 3, 1, 0] (by decide) rfl (Nat.le_of_ble_eq_true rfl) (Nat.le_of_ble_eq_true rfl)
    rcases w306 with rfl | w306
    · skip
      refine r_callVv 66 C dX1_takeTop_66 [] [(h0, .inr (1, [.ref h1, .ref h6, .ref h7, .int 1, .long 0, .long 9223372036854775807, .int 0, .int 0, .long 0, .long 0]))] [(h3, .inl (gI g, 6, .inl fn0)), (h1, .inr (2, [.ref h4, .int 0, .int 0, .ref h2, .ref h3, .ref h5])), (h2, .inl (gI g, 6, .inl f1))] (fun sz => c69_X1_want l g h0 h1 h6 h7 sz) gX1_takeTop_X1_want rfl ⟨rfl, rfl⟩ 1 (by decide) ⟨Nat.le_of_ble_eq_true rfl, Nat.le_of_ble_eq_true rfl⟩ 1 rfl rfl [1] [0, 2, 3] rfl rfl (by decide) (by decide) (by decide) rfl rfl (Nat.le_of_ble_eq_true rfl) ⟨Nat.le_of_ble_eq_true rfl, Nat.le_of_ble_eq_true rfl⟩ (fun  _ w318 => ?_)
      refine r_ws [(h3, .inl (gI g, 6, .inl fn0)), (h1, .inr (2, [.ref h4, .int 0, .int 0, .ref h2, .ref h3, .ref h5])), (h2, .inl (gI g, 6, .inl f1)), (h0, .inr (1, [.ref h1, .ref h6, .ref h7, .int 1, .long 0, .long 9223372036854775807, .int 0, .int 0, .long 0, .long 0]))] rfl ?_
      refine r_aload_n 69 0 C dX1_takeTop_69 rfl ?_
      refine r_aload_n 70 0 C dX1_takeTop_70 rfl ?_
      refine r_get 71 C dX1_takeTop_71 (k := 0) 3 rfl rfl hiX1 (by decide) rfl (mg 1 rfl) (Or.inl rfl) rfl ?_
      refine r_sipush 74 262 C dX1_takeTop_74 (by decide) ?_
      refine r_callVi 77 C dX1_takeTop_77 [.ref h0] [(h1, .inr (2, [.ref h4, .int 0, .int 0, .ref h2, .ref h3, .ref h5])), (h2, .inl (gI g, 6, .inl f1))] [(h3, .inl (gI g, 6, .inl fn0)), (h0, .inr (1, [.ref h1, .ref h6, .ref h7, .int 1, .long 0, .long 9223372036854775807, .int 0, .int 0, .long 0, .long 0]))] (fun sz => c90_X2_isTold l g h1 h2 h4 h3 h5 f1 sz) gX1_takeTop_X2_isTold rfl ⟨rfl, rfl⟩ 1 (by decide) ⟨Nat.le_of_ble_eq_true rfl, Nat.le_of_ble_eq_true rfl⟩ 1 rfl rfl [1, 2] [0, 3] rfl rfl (by decide) (by decide) (by decide) rfl rfl (Nat.le_of_ble_eq_true rfl) ⟨Nat.le_of_ble_eq_true rfl, Nat.le_of_ble_eq_true rfl⟩ (fun r319 _ w320 => ?_)
      refine r_ws [(h3, .inl (gI g, 6, .inl fn0)), (h0, .inr (1, [.ref h1, .ref h6, .ref h7, .int 1, .long 0, .long 9223372036854775807, .int 0, .int 0, .long 0, .long 0])), (h1, .inr (2, [.ref h4, .int 0, .int 0, .ref h2, .ref h3, .ref h5])), (h2, .inl (gI g, 6, .inl f1))] rfl ?_
      rcases w320 with rfl | w320
      · skip
        refine r_if_eq_t 80 97 C dX1_takeTop_80 (by decide) (by decide) ?_
        refine r_iconst 97 1 C dX1_takeTop_97 (by decide) ?_
        refine r_goto 98 102 C dX1_takeTop_98 (by decide) ?_
        refine r_callVv 102 C dX1_takeTop_102 [] [] [(h3, .inl (gI g, 6, .inl fn0)), (h0, .inr (1, [.ref h1, .ref h6, .ref h7, .int 1, .long 0, .long 9223372036854775807, .int 0, .int 0, .long 0, .long 0])), (h1, .inr (2, [.ref h4, .int 0, .int 0, .ref h2, .ref h3, .ref h5])), (h2, .inl (gI g, 6, .inl f1))] (fun sz => c77_X1_want l g h0 sz) gX1_takeTop_X1_want rfl ⟨rfl, rfl⟩ 1 (by decide) ⟨Nat.le_of_ble_eq_true rfl, Nat.le_of_ble_eq_true rfl⟩ 1 rfl rfl [] [0, 1, 2, 3] rfl rfl (by decide) (by decide) (by decide) rfl rfl (Nat.le_of_ble_eq_true rfl) ⟨Nat.le_of_ble_eq_true rfl, Nat.le_of_ble_eq_true rfl⟩ (fun  _ w321 => ?_)
        refine r_ws [(h3, .inl (gI g, 6, .inl fn0)), (h0, .inr (1, [.ref h1, .ref h6, .ref h7, .int 1, .long 0, .long 9223372036854775807, .int 0, .int 0, .long 0, .long 0])), (h1, .inr (2, [.ref h4, .int 0, .int 0, .ref h2, .ref h3, .ref h5])), (h2, .inl (gI g, 6, .inl f1))] rfl ?_
        exact r_vret 105 Rt dX1_takeTop_105 f1 trivial [2, 3, 0, 1] (by decide) rfl (Nat.le_of_ble_eq_true rfl) (Nat.le_of_ble_eq_true rfl)
      obtain rfl := w320
      refine r_if_eq_f 80 97 C dX1_takeTop_80 (by decide) (by decide) ?_
      refine r_aload_n 83 0 C dX1_takeTop_83 rfl ?_
      refine r_get 84 C dX1_takeTop_84 (k := 0) 1 rfl rfl hiX1 (by decide) rfl (mg 1 rfl) (Or.inl rfl) rfl ?_
      refine r_sipush 87 262 C dX1_takeTop_87 (by decide) ?_
      refine r_callVi 90 C dX1_takeTop_90 [.ref h0] [(h3, .inl (gI g, 6, .inl fn0)), (h1, .inr (2, [.ref h4, .int 0, .int 0, .ref h2, .ref h3, .ref h5])), (h2, .inl (gI g, 6, .inl f1))] [(h0, .inr (1, [.ref h1, .ref h6, .ref h7, .int 1, .long 0, .long 9223372036854775807, .int 0, .int 0, .long 0, .long 0]))] (fun sz => c91_X2_first l g h1 h3 h2 fn0 h4 h5 f1 sz) gX1_takeTop_X2_first rfl ⟨rfl, rfl⟩ 1 (by decide) ⟨Nat.le_of_ble_eq_true rfl, Nat.le_of_ble_eq_true rfl⟩ 2 rfl rfl [0, 2, 3] [1] rfl rfl (by decide) (by decide) (by decide) rfl rfl (Nat.le_of_ble_eq_true rfl) ⟨Nat.le_of_ble_eq_true rfl, Nat.le_of_ble_eq_true rfl⟩ (fun r322 _ w323 => ?_)
      refine r_ws [(h0, .inr (1, [.ref h1, .ref h6, .ref h7, .int 1, .long 0, .long 9223372036854775807, .int 0, .int 0, .long 0, .long 0])), (h3, .inl (gI g, 6, .inl fn0)), (h1, .inr (2, [.ref h4, .int 0, .int 0, .ref h2, .ref h3, .ref h5])), (h2, .inl (gI g, 6, .inl f1))] rfl ?_
      refine r_iconst 93 2 C dX1_takeTop_93 (by decide) ?_
      refine r_icmp_ne 94 101 C dX1_takeTop_94 (by decide) (fun c324 => ?_) (fun c324 => ?_)
      · skip
        have k325 : ¬ ((Int32.toInt r322) = 2) := fun h_9 => c324 ((fa_eq r322 2).mpr h_9)
        refine r_iconst 101 0 C dX1_takeTop_101 (by decide) ?_
        refine r_callVv 102 C dX1_takeTop_102 [] [(h0, .inr (1, [.ref h1, .ref h6, .ref h7, .int 1, .long 0, .long 9223372036854775807, .int 0, .int 0, .long 0, .long 0]))] [(h3, .inl (gI g, 6, .inl fn0)), (h1, .inr (2, [.ref h4, .int 0, .int 0, .ref h2, .ref h3, .ref h5])), (h2, .inl (gI g, 6, .inl f1))] (fun sz => c69_X1_want l g h0 h1 h6 h7 sz) gX1_takeTop_X1_want rfl ⟨rfl, rfl⟩ 1 (by decide) ⟨Nat.le_of_ble_eq_true rfl, Nat.le_of_ble_eq_true rfl⟩ 0 rfl rfl [0] [1, 2, 3] rfl rfl (by decide) (by decide) (by decide) rfl rfl (Nat.le_of_ble_eq_true rfl) ⟨Nat.le_of_ble_eq_true rfl, Nat.le_of_ble_eq_true rfl⟩ (fun  _ w326 => ?_)
        refine r_ws [(h3, .inl (gI g, 6, .inl fn0)), (h1, .inr (2, [.ref h4, .int 0, .int 0, .ref h2, .ref h3, .ref h5])), (h2, .inl (gI g, 6, .inl f1)), (h0, .inr (1, [.ref h1, .ref h6, .ref h7, .int 1, .long 0, .long 9223372036854775807, .int 0, .int 0, .long 0, .long 0]))] rfl ?_
        exact r_vret 105 Rt dX1_takeTop_105 f1 trivial [1, 2, 0, 3] (by decide) rfl (Nat.le_of_ble_eq_true rfl) (Nat.le_of_ble_eq_true rfl)
      · skip
        have k327 : (Int32.toInt r322) = 2 := (fa_eq r322 2).mp c324
        refine r_iconst 97 1 C dX1_takeTop_97 (by decide) ?_
        refine r_goto 98 102 C dX1_takeTop_98 (by decide) ?_
        refine r_callVv 102 C dX1_takeTop_102 [] [] [(h0, .inr (1, [.ref h1, .ref h6, .ref h7, .int 1, .long 0, .long 9223372036854775807, .int 0, .int 0, .long 0, .long 0])), (h3, .inl (gI g, 6, .inl fn0)), (h1, .inr (2, [.ref h4, .int 0, .int 0, .ref h2, .ref h3, .ref h5])), (h2, .inl (gI g, 6, .inl f1))] (fun sz => c77_X1_want l g h0 sz) gX1_takeTop_X1_want rfl ⟨rfl, rfl⟩ 1 (by decide) ⟨Nat.le_of_ble_eq_true rfl, Nat.le_of_ble_eq_true rfl⟩ 0 rfl rfl [] [0, 1, 2, 3] rfl rfl (by decide) (by decide) (by decide) rfl rfl (Nat.le_of_ble_eq_true rfl) ⟨Nat.le_of_ble_eq_true rfl, Nat.le_of_ble_eq_true rfl⟩ (fun  _ w328 => ?_)
        refine r_ws [(h0, .inr (1, [.ref h1, .ref h6, .ref h7, .int 1, .long 0, .long 9223372036854775807, .int 0, .int 0, .long 0, .long 0])), (h3, .inl (gI g, 6, .inl fn0)), (h1, .inr (2, [.ref h4, .int 0, .int 0, .ref h2, .ref h3, .ref h5])), (h2, .inl (gI g, 6, .inl f1))] rfl ?_
        exact r_vret 105 Rt dX1_takeTop_105 f1 trivial [2, 3, 1, 0] (by decide) rfl (Nat.le_of_ble_eq_true rfl) (Nat.le_of_ble_eq_true rfl)
    obtain rfl := w306
    refine r_callVv 66 C dX1_takeTop_66 [] [] [(h3, .inl (gI g, 6, .inl fn0)), (h0, .inr (1, [.ref h1, .ref h6, .ref h7, .int 1, .long 0, .long 9223372036854775807, .int 0, .int 0, .long 0, .long 0])), (h1, .inr (2, [.ref h4, .int 0, .int 0, .ref h2, .ref h3, .ref h5])), (h2, .inl (gI g, 6, .inl f1))] (fun sz => c77_X1_want l g h0 sz) gX1_takeTop_X1_want rfl ⟨rfl, rfl⟩ 1 (by decide) ⟨Nat.le_of_ble_eq_true rfl, Nat.le_of_ble_eq_true rfl⟩ 1 rfl rfl [] [0, 1, 2, 3] rfl rfl (by decide) (by decide) (by decide) rfl rfl (Nat.le_of_ble_eq_true rfl) ⟨Nat.le_of_ble_eq_true rfl, Nat.le_of_ble_eq_true rfl⟩ (fun  _ w329 => ?_)
    refine r_ws [(h3, .inl (gI g, 6, .inl fn0)), (h0, .inr (1, [.ref h1, .ref h6, .ref h7, .int 1, .long 0, .long 9223372036854775807, .int 0, .int 0, .long 0, .long 0])), (h1, .inr (2, [.ref h4, .int 0, .int 0, .ref h2, .ref h3, .ref h5])), (h2, .inl (gI g, 6, .inl f1))] rfl ?_
    refine r_aload_n 69 0 C dX1_takeTop_69 rfl ?_
    refine r_aload_n 70 0 C dX1_takeTop_70 rfl ?_
    refine r_get 71 C dX1_takeTop_71 (k := 0) 1 rfl rfl hiX1 (by decide) rfl (mg 1 rfl) (Or.inl rfl) rfl ?_
    refine r_sipush 74 262 C dX1_takeTop_74 (by decide) ?_
    refine r_callVi 77 C dX1_takeTop_77 [.ref h0] [(h1, .inr (2, [.ref h4, .int 0, .int 0, .ref h2, .ref h3, .ref h5])), (h2, .inl (gI g, 6, .inl f1))] [(h3, .inl (gI g, 6, .inl fn0)), (h0, .inr (1, [.ref h1, .ref h6, .ref h7, .int 1, .long 0, .long 9223372036854775807, .int 0, .int 0, .long 0, .long 0]))] (fun sz => c90_X2_isTold l g h1 h2 h4 h3 h5 f1 sz) gX1_takeTop_X2_isTold rfl ⟨rfl, rfl⟩ 1 (by decide) ⟨Nat.le_of_ble_eq_true rfl, Nat.le_of_ble_eq_true rfl⟩ 2 rfl rfl [2, 3] [0, 1] rfl rfl (by decide) (by decide) (by decide) rfl rfl (Nat.le_of_ble_eq_true rfl) ⟨Nat.le_of_ble_eq_true rfl, Nat.le_of_ble_eq_true rfl⟩ (fun r330 _ w331 => ?_)
    refine r_ws [(h3, .inl (gI g, 6, .inl fn0)), (h0, .inr (1, [.ref h1, .ref h6, .ref h7, .int 1, .long 0, .long 9223372036854775807, .int 0, .int 0, .long 0, .long 0])), (h1, .inr (2, [.ref h4, .int 0, .int 0, .ref h2, .ref h3, .ref h5])), (h2, .inl (gI g, 6, .inl f1))] rfl ?_
    rcases w331 with rfl | w331
    · skip
      refine r_if_eq_t 80 97 C dX1_takeTop_80 (by decide) (by decide) ?_
      refine r_iconst 97 1 C dX1_takeTop_97 (by decide) ?_
      refine r_goto 98 102 C dX1_takeTop_98 (by decide) ?_
      refine r_callVv 102 C dX1_takeTop_102 [] [] [(h3, .inl (gI g, 6, .inl fn0)), (h0, .inr (1, [.ref h1, .ref h6, .ref h7, .int 1, .long 0, .long 9223372036854775807, .int 0, .int 0, .long 0, .long 0])), (h1, .inr (2, [.ref h4, .int 0, .int 0, .ref h2, .ref h3, .ref h5])), (h2, .inl (gI g, 6, .inl f1))] (fun sz => c77_X1_want l g h0 sz) gX1_takeTop_X1_want rfl ⟨rfl, rfl⟩ 1 (by decide) ⟨Nat.le_of_ble_eq_true rfl, Nat.le_of_ble_eq_true rfl⟩ 1 rfl rfl [] [0, 1, 2, 3] rfl rfl (by decide) (by decide) (by decide) rfl rfl (Nat.le_of_ble_eq_true rfl) ⟨Nat.le_of_ble_eq_true rfl, Nat.le_of_ble_eq_true rfl⟩ (fun  _ w332 => ?_)
      refine r_ws [(h3, .inl (gI g, 6, .inl fn0)), (h0, .inr (1, [.ref h1, .ref h6, .ref h7, .int 1, .long 0, .long 9223372036854775807, .int 0, .int 0, .long 0, .long 0])), (h1, .inr (2, [.ref h4, .int 0, .int 0, .ref h2, .ref h3, .ref h5])), (h2, .inl (gI g, 6, .inl f1))] rfl ?_
      exact r_vret 105 Rt dX1_takeTop_105 f1 trivial [2, 3, 0, 1] (by decide) rfl (Nat.le_of_ble_eq_true rfl) (Nat.le_of_ble_eq_true rfl)
    obtain rfl := w331
    refine r_if_eq_f 80 97 C dX1_takeTop_80 (by decide) (by decide) ?_
    refine r_aload_n 83 0 C dX1_takeTop_83 rfl ?_
    refine r_get 84 C dX1_takeTop_84 (k := 0) 1 rfl rfl hiX1 (by decide) rfl (mg 1 rfl) (Or.inl rfl) rfl ?_
    refine r_sipush 87 262 C dX1_takeTop_87 (by decide) ?_
    refine r_callVi 90 C dX1_takeTop_90 [.ref h0] [(h3, .inl (gI g, 6, .inl fn0)), (h1, .inr (2, [.ref h4, .int 0, .int 0, .ref h2, .ref h3, .ref h5])), (h2, .inl (gI g, 6, .inl f1))] [(h0, .inr (1, [.ref h1, .ref h6, .ref h7, .int 1, .long 0, .long 9223372036854775807, .int 0, .int 0, .long 0, .long 0]))] (fun sz => c91_X2_first l g h1 h3 h2 fn0 h4 h5 f1 sz) gX1_takeTop_X2_first rfl ⟨rfl, rfl⟩ 1 (by decide) ⟨Nat.le_of_ble_eq_true rfl, Nat.le_of_ble_eq_true rfl⟩ 2 rfl rfl [0, 2, 3] [1] rfl rfl (by decide) (by decide) (by decide) rfl rfl (Nat.le_of_ble_eq_true rfl) ⟨Nat.le_of_ble_eq_true rfl, Nat.le_of_ble_eq_true rfl⟩ (fun r333 _ w334 => ?_)
    refine r_ws [(h0, .inr (1, [.ref h1, .ref h6, .ref h7, .int 1, .long 0, .long 9223372036854775807, .int 0, .int 0, .long 0, .long 0])), (h3, .inl (gI g, 6, .inl fn0)), (h1, .inr (2, [.ref h4, .int 0, .int 0, .ref h2, .ref h3, .ref h5])), (h2, .inl (gI g, 6, .inl f1))] rfl ?_
    refine r_iconst 93 2 C dX1_takeTop_93 (by decide) ?_
    refine r_icmp_ne 94 101 C dX1_takeTop_94 (by decide) (fun c335 => ?_) (fun c335 => ?_)
    · skip
      have k336 : ¬ ((Int32.toInt r333) = 2) := fun h_9 => c335 ((fa_eq r333 2).mpr h_9)
      refine r_iconst 101 0 C dX1_takeTop_101 (by decide) ?_
      refine r_callVv 102 C dX1_takeTop_102 [] [(h0, .inr (1, [.ref h1, .ref h6, .ref h7, .int 1, .long 0, .long 9223372036854775807, .int 0, .int 0, .long 0, .long 0]))] [(h3, .inl (gI g, 6, .inl fn0)), (h1, .inr (2, [.ref h4, .int 0, .int 0, .ref h2, .ref h3, .ref h5])), (h2, .inl (gI g, 6, .inl f1))] (fun sz => c69_X1_want l g h0 h1 h6 h7 sz) gX1_takeTop_X1_want rfl ⟨rfl, rfl⟩ 1 (by decide) ⟨Nat.le_of_ble_eq_true rfl, Nat.le_of_ble_eq_true rfl⟩ 0 rfl rfl [0] [1, 2, 3] rfl rfl (by decide) (by decide) (by decide) rfl rfl (Nat.le_of_ble_eq_true rfl) ⟨Nat.le_of_ble_eq_true rfl, Nat.le_of_ble_eq_true rfl⟩ (fun  _ w337 => ?_)
      refine r_ws [(h3, .inl (gI g, 6, .inl fn0)), (h1, .inr (2, [.ref h4, .int 0, .int 0, .ref h2, .ref h3, .ref h5])), (h2, .inl (gI g, 6, .inl f1)), (h0, .inr (1, [.ref h1, .ref h6, .ref h7, .int 1, .long 0, .long 9223372036854775807, .int 0, .int 0, .long 0, .long 0]))] rfl ?_
      exact r_vret 105 Rt dX1_takeTop_105 f1 trivial [1, 2, 0, 3] (by decide) rfl (Nat.le_of_ble_eq_true rfl) (Nat.le_of_ble_eq_true rfl)
    · skip
      have k338 : (Int32.toInt r333) = 2 := (fa_eq r333 2).mp c335
      refine r_iconst 97 1 C dX1_takeTop_97 (by decide) ?_
      refine r_goto 98 102 C dX1_takeTop_98 (by decide) ?_
      refine r_callVv 102 C dX1_takeTop_102 [] [] [(h0, .inr (1, [.ref h1, .ref h6, .ref h7, .int 1, .long 0, .long 9223372036854775807, .int 0, .int 0, .long 0, .long 0])), (h3, .inl (gI g, 6, .inl fn0)), (h1, .inr (2, [.ref h4, .int 0, .int 0, .ref h2, .ref h3, .ref h5])), (h2, .inl (gI g, 6, .inl f1))] (fun sz => c77_X1_want l g h0 sz) gX1_takeTop_X1_want rfl ⟨rfl, rfl⟩ 1 (by decide) ⟨Nat.le_of_ble_eq_true rfl, Nat.le_of_ble_eq_true rfl⟩ 0 rfl rfl [] [0, 1, 2, 3] rfl rfl (by decide) (by decide) (by decide) rfl rfl (Nat.le_of_ble_eq_true rfl) ⟨Nat.le_of_ble_eq_true rfl, Nat.le_of_ble_eq_true rfl⟩ (fun  _ w339 => ?_)
      refine r_ws [(h0, .inr (1, [.ref h1, .ref h6, .ref h7, .int 1, .long 0, .long 9223372036854775807, .int 0, .int 0, .long 0, .long 0])), (h3, .inl (gI g, 6, .inl fn0)), (h1, .inr (2, [.ref h4, .int 0, .int 0, .ref h2, .ref h3, .ref h5])), (h2, .inl (gI g, 6, .inl f1))] rfl ?_
      exact r_vret 105 Rt dX1_takeTop_105 f1 trivial [2, 3, 1, 0] (by decide) rfl (Nat.le_of_ble_eq_true rfl) (Nat.le_of_ble_eq_true rfl)
  obtain rfl := w117
  refine r_if_eq_f 29 36 C dX1_takeTop_29 (by decide) (by decide) ?_
  refine r_iconst 32 1 C dX1_takeTop_32 (by decide) ?_
  refine r_goto 33 37 C dX1_takeTop_33 (by decide) ?_
  refine r_callVv 37 C dX1_takeTop_37 [] [] [(h3, .inl (gI g, 6, .inl fn0)), (h0, .inr (1, [.ref h1, .ref h6, .ref h7, .int 1, .long 0, .long 9223372036854775807, .int 0, .int 0, .long 0, .long 0])), (h1, .inr (2, [.ref h4, .int 0, .int 0, .ref h2, .ref h3, .ref h5])), (h2, .inl (gI g, 6, .inl f1))] (fun sz => c77_X1_want l g h0 sz) gX1_takeTop_X1_want rfl ⟨rfl, rfl⟩ 1 (by decide) ⟨Nat.le_of_ble_eq_true rfl, Nat.le_of_ble_eq_true rfl⟩ 1 rfl rfl [] [0, 1, 2, 3] rfl rfl (by decide) (by decide) (by decide) rfl rfl (Nat.le_of_ble_eq_true rfl) ⟨Nat.le_of_ble_eq_true rfl, Nat.le_of_ble_eq_true rfl⟩ (fun  _ w340 => ?_)
  refine r_ws [(h3, .inl (gI g, 6, .inl fn0)), (h0, .inr (1, [.ref h1, .ref h6, .ref h7, .int 1, .long 0, .long 9223372036854775807, .int 0, .int 0, .long 0, .long 0])), (h1, .inr (2, [.ref h4, .int 0, .int 0, .ref h2, .ref h3, .ref h5])), (h2, .inl (gI g, 6, .inl f1))] rfl ?_
  refine r_aload_n 40 0 C dX1_takeTop_40 rfl ?_
  refine r_aload_n 41 0 C dX1_takeTop_41 rfl ?_
  refine r_get 42 C dX1_takeTop_42 (k := 0) 1 rfl rfl hiX1 (by decide) rfl (mg 1 rfl) (Or.inl rfl) rfl ?_
  refine r_bipush 45 18 C dX1_takeTop_45 (by decide) ?_
  refine r_iconst 47 2 C dX1_takeTop_47 (by decide) ?_
  refine r_callVi 48 C dX1_takeTop_48 [.ref h0] [(h1, .inr (2, [.ref h4, .int 0, .int 0, .ref h2, .ref h3, .ref h5])), (h2, .inl (gI g, 6, .inl f1))] [(h3, .inl (gI g, 6, .inl fn0)), (h0, .inr (1, [.ref h1, .ref h6, .ref h7, .int 1, .long 0, .long 9223372036854775807, .int 0, .int 0, .long 0, .long 0]))] (fun sz => c87_X2_fits l g h1 h2 h4 h3 h5 f1 sz) gX1_takeTop_X2_fits rfl ⟨rfl, rfl⟩ 2 (by decide) ⟨Nat.le_of_ble_eq_true rfl, Nat.le_of_ble_eq_true rfl⟩ 2 rfl rfl [2, 3] [0, 1] rfl rfl (by decide) (by decide) (by decide) rfl rfl (Nat.le_of_ble_eq_true rfl) ⟨Nat.le_of_ble_eq_true rfl, Nat.le_of_ble_eq_true rfl⟩ (fun r341 _ w342 => ?_)
  refine r_ws [(h3, .inl (gI g, 6, .inl fn0)), (h0, .inr (1, [.ref h1, .ref h6, .ref h7, .int 1, .long 0, .long 9223372036854775807, .int 0, .int 0, .long 0, .long 0])), (h1, .inr (2, [.ref h4, .int 0, .int 0, .ref h2, .ref h3, .ref h5])), (h2, .inl (gI g, 6, .inl f1))] rfl ?_
  rcases w342 with rfl | w342
  · skip
    refine r_callVv 51 C dX1_takeTop_51 [] [] [(h3, .inl (gI g, 6, .inl fn0)), (h0, .inr (1, [.ref h1, .ref h6, .ref h7, .int 1, .long 0, .long 9223372036854775807, .int 0, .int 0, .long 0, .long 0])), (h1, .inr (2, [.ref h4, .int 0, .int 0, .ref h2, .ref h3, .ref h5])), (h2, .inl (gI g, 6, .inl f1))] (fun sz => c77_X1_want l g h0 sz) gX1_takeTop_X1_want rfl ⟨rfl, rfl⟩ 1 (by decide) ⟨Nat.le_of_ble_eq_true rfl, Nat.le_of_ble_eq_true rfl⟩ 1 rfl rfl [] [0, 1, 2, 3] rfl rfl (by decide) (by decide) (by decide) rfl rfl (Nat.le_of_ble_eq_true rfl) ⟨Nat.le_of_ble_eq_true rfl, Nat.le_of_ble_eq_true rfl⟩ (fun  _ w343 => ?_)
    refine r_ws [(h3, .inl (gI g, 6, .inl fn0)), (h0, .inr (1, [.ref h1, .ref h6, .ref h7, .int 1, .long 0, .long 9223372036854775807, .int 0, .int 0, .long 0, .long 0])), (h1, .inr (2, [.ref h4, .int 0, .int 0, .ref h2, .ref h3, .ref h5])), (h2, .inl (gI g, 6, .inl f1))] rfl ?_
    refine r_aload_n 54 0 C dX1_takeTop_54 rfl ?_
    refine r_aload_n 55 0 C dX1_takeTop_55 rfl ?_
    refine r_get 56 C dX1_takeTop_56 (k := 0) 1 rfl rfl hiX1 (by decide) rfl (mg 1 rfl) (Or.inl rfl) rfl ?_
    refine r_sipush 59 262 C dX1_takeTop_59 (by decide) ?_
    refine r_iconst 62 1 C dX1_takeTop_62 (by decide) ?_
    refine r_callVi 63 C dX1_takeTop_63 [.ref h0] [(h1, .inr (2, [.ref h4, .int 0, .int 0, .ref h2, .ref h3, .ref h5])), (h2, .inl (gI g, 6, .inl f1))] [(h3, .inl (gI g, 6, .inl fn0)), (h0, .inr (1, [.ref h1, .ref h6, .ref h7, .int 1, .long 0, .long 9223372036854775807, .int 0, .int 0, .long 0, .long 0]))] (fun sz => c89_X2_fits l g h1 h2 h4 h3 h5 f1 sz) gX1_takeTop_X2_fits rfl ⟨rfl, rfl⟩ 2 (by decide) ⟨Nat.le_of_ble_eq_true rfl, Nat.le_of_ble_eq_true rfl⟩ 2 rfl rfl [2, 3] [0, 1] rfl rfl (by decide) (by decide) (by decide) rfl rfl (Nat.le_of_ble_eq_true rfl) ⟨Nat.le_of_ble_eq_true rfl, Nat.le_of_ble_eq_true rfl⟩ (fun r344 _ w345 => ?_)
    refine r_ws [(h3, .inl (gI g, 6, .inl fn0)), (h0, .inr (1, [.ref h1, .ref h6, .ref h7, .int 1, .long 0, .long 9223372036854775807, .int 0, .int 0, .long 0, .long 0])), (h1, .inr (2, [.ref h4, .int 0, .int 0, .ref h2, .ref h3, .ref h5])), (h2, .inl (gI g, 6, .inl f1))] rfl ?_
    rcases w345 with rfl | w345
    · skip
      refine r_callVv 66 C dX1_takeTop_66 [] [] [(h3, .inl (gI g, 6, .inl fn0)), (h0, .inr (1, [.ref h1, .ref h6, .ref h7, .int 1, .long 0, .long 9223372036854775807, .int 0, .int 0, .long 0, .long 0])), (h1, .inr (2, [.ref h4, .int 0, .int 0, .ref h2, .ref h3, .ref h5])), (h2, .inl (gI g, 6, .inl f1))] (fun sz => c77_X1_want l g h0 sz) gX1_takeTop_X1_want rfl ⟨rfl, rfl⟩ 1 (by decide) ⟨Nat.le_of_ble_eq_true rfl, Nat.le_of_ble_eq_true rfl⟩ 1 rfl rfl [] [0, 1, 2, 3] rfl rfl (by decide) (by decide) (by decide) rfl rfl (Nat.le_of_ble_eq_true rfl) ⟨Nat.le_of_ble_eq_true rfl, Nat.le_of_ble_eq_true rfl⟩ (fun  _ w346 => ?_)
      refine r_ws [(h3, .inl (gI g, 6, .inl fn0)), (h0, .inr (1, [.ref h1, .ref h6, .ref h7, .int 1, .long 0, .long 9223372036854775807, .int 0, .int 0, .long 0, .long 0])), (h1, .inr (2, [.ref h4, .int 0, .int 0, .ref h2, .ref h3, .ref h5])), (h2, .inl (gI g, 6, .inl f1))] rfl ?_
      refine r_aload_n 69 0 C dX1_takeTop_69 rfl ?_
      refine r_aload_n 70 0 C dX1_takeTop_70 rfl ?_
      refine r_get 71 C dX1_takeTop_71 (k := 0) 1 rfl rfl hiX1 (by decide) rfl (mg 1 rfl) (Or.inl rfl) rfl ?_
      refine r_sipush 74 262 C dX1_takeTop_74 (by decide) ?_
      refine r_callVi 77 C dX1_takeTop_77 [.ref h0] [(h1, .inr (2, [.ref h4, .int 0, .int 0, .ref h2, .ref h3, .ref h5])), (h2, .inl (gI g, 6, .inl f1))] [(h3, .inl (gI g, 6, .inl fn0)), (h0, .inr (1, [.ref h1, .ref h6, .ref h7, .int 1, .long 0, .long 9223372036854775807, .int 0, .int 0, .long 0, .long 0]))] (fun sz => c90_X2_isTold l g h1 h2 h4 h3 h5 f1 sz) gX1_takeTop_X2_isTold rfl ⟨rfl, rfl⟩ 1 (by decide) ⟨Nat.le_of_ble_eq_true rfl, Nat.le_of_ble_eq_true rfl⟩ 2 rfl rfl [2, 3] [0, 1] rfl rfl (by decide) (by decide) (by decide) rfl rfl (Nat.le_of_ble_eq_true rfl) ⟨Nat.le_of_ble_eq_true rfl, Nat.le_of_ble_eq_true rfl⟩ (fun r347 _ w348 => ?_)
      refine r_ws [(h3, .inl (gI g, 6, .inl fn0)), (h0, .inr (1, [.ref h1, .ref h6, .ref h7, .int 1, .long 0, .long 9223372036854775807, .int 0, .int 0, .long 0, .long 0])), (h1, .inr (2, [.ref h4, .int 0, .int 0, .ref h2, .ref h3, .ref h5])), (h2, .inl (gI g, 6, .inl f1))] rfl ?_
      rcases w348 with rfl | w348
      · skip
        refine r_if_eq_t 80 97 C dX1_takeTop_80 (by decide) (by decide) ?_
        refine r_iconst 97 1 C dX1_takeTop_97 (by decide) ?_
        refine r_goto 98 102 C dX1_takeTop_98 (by decide) ?_
        refine r_callVv 102 C dX1_takeTop_102 [] [] [(h3, .inl (gI g, 6, .inl fn0)), (h0, .inr (1, [.ref h1, .ref h6, .ref h7, .int 1, .long 0, .long 9223372036854775807, .int 0, .int 0, .long 0, .long 0])), (h1, .inr (2, [.ref h4, .int 0, .int 0, .ref h2, .ref h3, .ref h5])), (h2, .inl (gI g, 6, .inl f1))] (fun sz => c77_X1_want l g h0 sz) gX1_takeTop_X1_want rfl ⟨rfl, rfl⟩ 1 (by decide) ⟨Nat.le_of_ble_eq_true rfl, Nat.le_of_ble_eq_true rfl⟩ 1 rfl rfl [] [0, 1, 2, 3] rfl rfl (by decide) (by decide) (by decide) rfl rfl (Nat.le_of_ble_eq_true rfl) ⟨Nat.le_of_ble_eq_true rfl, Nat.le_of_ble_eq_true rfl⟩ (fun  _ w349 => ?_)
        refine r_ws [(h3, .inl (gI g, 6, .inl fn0)), (h0, .inr (1, [.ref h1, .ref h6, .ref h7, .int 1, .long 0, .long 9223372036854775807, .int 0, .int 0, .long 0, .long 0])), (h1, .inr (2, [.ref h4, .int 0, .int 0, .ref h2, .ref h3, .ref h5])), (h2, .inl (gI g, 6, .inl f1))] rfl ?_
        exact r_vret 105 Rt dX1_takeTop_105 f1 trivial [2, 3, 0, 1] (by decide) rfl (Nat.le_of_ble_eq_true rfl) (Nat.le_of_ble_eq_true rfl)
      obtain rfl := w348
      refine r_if_eq_f 80 97 C dX1_takeTop_80 (by decide) (by decide) ?_
      refine r_aload_n 83 0 C dX1_takeTop_83 rfl ?_
      refine r_get 84 C dX1_takeTop_84 (k := 0) 1 rfl rfl hiX1 (by decide) rfl (mg 1 rfl) (Or.inl rfl) rfl ?_
      refine r_sipush 87 262 C dX1_takeTop_87 (by decide) ?_
      refine r_callVi 90 C dX1_takeTop_90 [.ref h0] [(h3, .inl (gI g, 6, .inl fn0)), (h1, .inr (2, [.ref h4, .int 0, .int 0, .ref h2, .ref h3, .ref h5])), (h2, .inl (gI g, 6, .inl f1))] [(h0, .inr (1, [.ref h1, .ref h6, .ref h7, .int 1, .long 0, .long 9223372036854775807, .int 0, .int 0, .long 0, .long 0]))] (fun sz => c91_X2_first l g h1 h3 h2 fn0 h4 h5 f1 sz) gX1_takeTop_X2_first rfl ⟨rfl, rfl⟩ 1 (by decide) ⟨Nat.le_of_ble_eq_true rfl, Nat.le_of_ble_eq_true rfl⟩ 2 rfl rfl [0, 2, 3] [1] rfl rfl (by decide) (by decide) (by decide) rfl rfl (Nat.le_of_ble_eq_true rfl) ⟨Nat.le_of_ble_eq_true rfl, Nat.le_of_ble_eq_true rfl⟩ (fun r350 _ w351 => ?_)
      refine r_ws [(h0, .inr (1, [.ref h1, .ref h6, .ref h7, .int 1, .long 0, .long 9223372036854775807, .int 0, .int 0, .long 0, .long 0])), (h3, .inl (gI g, 6, .inl fn0)), (h1, .inr (2, [.ref h4, .int 0, .int 0, .ref h2, .ref h3, .ref h5])), (h2, .inl (gI g, 6, .inl f1))] rfl ?_
      refine r_iconst 93 2 C dX1_takeTop_93 (by decide) ?_
      refine r_icmp_ne 94 101 C dX1_takeTop_94 (by decide) (fun c352 => ?_) (fun c352 => ?_)
      · skip
        have k353 : ¬ ((Int32.toInt r350) = 2) := fun h_9 => c352 ((fa_eq r350 2).mpr h_9)
        refine r_iconst 101 0 C dX1_takeTop_101 (by decide) ?_
        refine r_callVv 102 C dX1_takeTop_102 [] [(h0, .inr (1, [.ref h1, .ref h6, .ref h7, .int 1, .long 0, .long 9223372036854775807, .int 0, .int 0, .long 0, .long 0]))] [(h3, .inl (gI g, 6, .inl fn0)), (h1, .inr (2, [.ref h4, .int 0, .int 0, .ref h2, .ref h3, .ref h5])), (h2, .inl (gI g, 6, .inl f1))] (fun sz => c69_X1_want l g h0 h1 h6 h7 sz) gX1_takeTop_X1_want rfl ⟨rfl, rfl⟩ 1 (by decide) ⟨Nat.le_of_ble_eq_true rfl, Nat.le_of_ble_eq_true rfl⟩ 0 rfl rfl [0] [1, 2, 3] rfl rfl (by decide) (by decide) (by decide) rfl rfl (Nat.le_of_ble_eq_true rfl) ⟨Nat.le_of_ble_eq_true rfl, Nat.le_of_ble_eq_true rfl⟩ (fun  _ w354 => ?_)
        refine r_ws [(h3, .inl (gI g, 6, .inl fn0)), (h1, .inr (2, [.ref h4, .int 0, .int 0, .ref h2, .ref h3, .ref h5])), (h2, .inl (gI g, 6, .inl f1)), (h0, .inr (1, [.ref h1, .ref h6, .ref h7, .int 1, .long 0, .long 9223372036854775807, .int 0, .int 0, .long 0, .long 0]))] rfl ?_
        exact r_vret 105 Rt dX1_takeTop_105 f1 trivial [1, 2, 0, 3] (by decide) rfl (Nat.le_of_ble_eq_true rfl) (Nat.le_of_ble_eq_true rfl)
      · skip
        have k355 : (Int32.toInt r350) = 2 := (fa_eq r350 2).mp c352
        refine r_iconst 97 1 C dX1_takeTop_97 (by decide) ?_
        refine r_goto 98 102 C dX1_takeTop_98 (by decide) ?_
        refine r_callVv 102 C dX1_takeTop_102 [] [] [(h0, .inr (1, [.ref h1, .ref h6, .ref h7, .int 1, .long 0, .long 9223372036854775807, .int 0, .int 0, .long 0, .long 0])), (h3, .inl (gI g, 6, .inl fn0)), (h1, .inr (2, [.ref h4, .int 0, .int 0, .ref h2, .ref h3, .ref h5])), (h2, .inl (gI g, 6, .inl f1))] (fun sz => c77_X1_want l g h0 sz) gX1_takeTop_X1_want rfl ⟨rfl, rfl⟩ 1 (by decide) ⟨Nat.le_of_ble_eq_true rfl, Nat.le_of_ble_eq_true rfl⟩ 0 rfl rfl [] [0, 1, 2, 3] rfl rfl (by decide) (by decide) (by decide) rfl rfl (Nat.le_of_ble_eq_true rfl) ⟨Nat.le_of_ble_eq_true rfl, Nat.le_of_ble_eq_true rfl⟩ (fun  _ w356 => ?_)
        refine r_ws [(h0, .inr (1, [.ref h1, .ref h6, .ref h7, .int 1, .long 0, .long 9223372036854775807, .int 0, .int 0, .long 0, .long 0])), (h3, .inl (gI g, 6, .inl fn0)), (h1, .inr (2, [.ref h4, .int 0, .int 0, .ref h2, .ref h3, .ref h5])), (h2, .inl (gI g, 6, .inl f1))] rfl ?_
        exact r_vret 105 Rt dX1_takeTop_105 f1 trivial [2, 3, 1, 0] (by decide) rfl (Nat.le_of_ble_eq_true rfl) (Nat.le_of_ble_eq_true rfl)
    rcases w345 with rfl | w345
    · skip
      refine r_callVv 66 C dX1_takeTop_66 [] [(h0, .inr (1, [.ref h1, .ref h6, .ref h7, .int 1, .long 0, .long 9223372036854775807, .int 0, .int 0, .long 0, .long 0]))] [(h3, .inl (gI g, 6, .inl fn0)), (h1, .inr (2, [.ref h4, .int 0, .int 0, .ref h2, .ref h3, .ref h5])), (h2, .inl (gI g, 6, .inl f1))] (fun sz => c69_X1_want l g h0 h1 h6 h7 sz) gX1_takeTop_X1_want rfl ⟨rfl, rfl⟩ 1 (by decide) ⟨Nat.le_of_ble_eq_true rfl, Nat.le_of_ble_eq_true rfl⟩ 1 rfl rfl [1] [0, 2, 3] rfl rfl (by decide) (by decide) (by decide) rfl rfl (Nat.le_of_ble_eq_true rfl) ⟨Nat.le_of_ble_eq_true rfl, Nat.le_of_ble_eq_true rfl⟩ (fun  _ w357 => ?_)
      refine r_ws [(h3, .inl (gI g, 6, .inl fn0)), (h1, .inr (2, [.ref h4, .int 0, .int 0, .ref h2, .ref h3, .ref h5])), (h2, .inl (gI g, 6, .inl f1)), (h0, .inr (1, [.ref h1, .ref h6, .ref h7, .int 1, .long 0, .long 9223372036854775807, .int 0, .int 0, .long 0, .long 0]))] rfl ?_
      refine r_aload_n 69 0 C dX1_takeTop_69 rfl ?_
      refine r_aload_n 70 0 C dX1_takeTop_70 rfl ?_
      refine r_get 71 C dX1_takeTop_71 (k := 0) 3 rfl rfl hiX1 (by decide) rfl (mg 1 rfl) (Or.inl rfl) rfl ?_
      refine r_sipush 74 262 C dX1_takeTop_74 (by decide) ?_
      refine r_callVi 77 C dX1_takeTop_77 [.ref h0] [(h1, .inr (2, [.ref h4, .int 0, .int 0, .ref h2, .ref h3, .ref h5])), (h2, .inl (gI g, 6, .inl f1))] [(h3, .inl (gI g, 6, .inl fn0)), (h0, .inr (1, [.ref h1, .ref h6, .ref h7, .int 1, .long 0, .long 9223372036854775807, .int 0, .int 0, .long 0, .long 0]))] (fun sz => c90_X2_isTold l g h1 h2 h4 h3 h5 f1 sz) gX1_takeTop_X2_isTold rfl ⟨rfl, rfl⟩ 1 (by decide) ⟨Nat.le_of_ble_eq_true rfl, Nat.le_of_ble_eq_true rfl⟩ 1 rfl rfl [1, 2] [0, 3] rfl rfl (by decide) (by decide) (by decide) rfl rfl (Nat.le_of_ble_eq_true rfl) ⟨Nat.le_of_ble_eq_true rfl, Nat.le_of_ble_eq_true rfl⟩ (fun r358 _ w359 => ?_)
      refine r_ws [(h3, .inl (gI g, 6, .inl fn0)), (h0, .inr (1, [.ref h1, .ref h6, .ref h7, .int 1, .long 0, .long 9223372036854775807, .int 0, .int 0, .long 0, .long 0])), (h1, .inr (2, [.ref h4, .int 0, .int 0, .ref h2, .ref h3, .ref h5])), (h2, .inl (gI g, 6, .inl f1))] rfl ?_
      rcases w359 with rfl | w359
      · skip
        refine r_if_eq_t 80 97 C dX1_takeTop_80 (by decide) (by decide) ?_
        refine r_iconst 97 1 C dX1_takeTop_97 (by decide) ?_
        refine r_goto 98 102 C dX1_takeTop_98 (by decide) ?_
        refine r_callVv 102 C dX1_takeTop_102 [] [] [(h3, .inl (gI g, 6, .inl fn0)), (h0, .inr (1, [.ref h1, .ref h6, .ref h7, .int 1, .long 0, .long 9223372036854775807, .int 0, .int 0, .long 0, .long 0])), (h1, .inr (2, [.ref h4, .int 0, .int 0, .ref h2, .ref h3, .ref h5])), (h2, .inl (gI g, 6, .inl f1))] (fun sz => c77_X1_want l g h0 sz) gX1_takeTop_X1_want rfl ⟨rfl, rfl⟩ 1 (by decide) ⟨Nat.le_of_ble_eq_true rfl, Nat.le_of_ble_eq_true rfl⟩ 1 rfl rfl [] [0, 1, 2, 3] rfl rfl (by decide) (by decide) (by decide) rfl rfl (Nat.le_of_ble_eq_true rfl) ⟨Nat.le_of_ble_eq_true rfl, Nat.le_of_ble_eq_true rfl⟩ (fun  _ w360 => ?_)
        refine r_ws [(h3, .inl (gI g, 6, .inl fn0)), (h0, .inr (1, [.ref h1, .ref h6, .ref h7, .int 1, .long 0, .long 9223372036854775807, .int 0, .int 0, .long 0, .long 0])), (h1, .inr (2, [.ref h4, .int 0, .int 0, .ref h2, .ref h3, .ref h5])), (h2, .inl (gI g, 6, .inl f1))] rfl ?_
        exact r_vret 105 Rt dX1_takeTop_105 f1 trivial [2, 3, 0, 1] (by decide) rfl (Nat.le_of_ble_eq_true rfl) (Nat.le_of_ble_eq_true rfl)
      obtain rfl := w359
      refine r_if_eq_f 80 97 C dX1_takeTop_80 (by decide) (by decide) ?_
      refine r_aload_n 83 0 C dX1_takeTop_83 rfl ?_
      refine r_get 84 C dX1_takeTop_84 (k := 0) 1 rfl rfl hiX1 (by decide) rfl (mg 1 rfl) (Or.inl rfl) rfl ?_
      refine r_sipush 87 262 C dX1_takeTop_87 (by decide) ?_
      refine r_callVi 90 C dX1_takeTop_90 [.ref h0] [(h3, .inl (gI g, 6, .inl fn0)), (h1, .inr (2, [.ref h4, .int 0, .int 0, .ref h2, .ref h3, .ref h5])), (h2, .inl (gI g, 6, .inl f1))] [(h0, .inr (1, [.ref h1, .ref h6, .ref h7, .int 1, .long 0, .long 9223372036854775807, .int 0, .int 0, .long 0, .long 0]))] (fun sz => c91_X2_first l g h1 h3 h2 fn0 h4 h5 f1 sz) gX1_takeTop_X2_first rfl ⟨rfl, rfl⟩ 1 (by decide) ⟨Nat.le_of_ble_eq_true rfl, Nat.le_of_ble_eq_true rfl⟩ 2 rfl rfl [0, 2, 3] [1] rfl rfl (by decide) (by decide) (by decide) rfl rfl (Nat.le_of_ble_eq_true rfl) ⟨Nat.le_of_ble_eq_true rfl, Nat.le_of_ble_eq_true rfl⟩ (fun r361 _ w362 => ?_)
      refine r_ws [(h0, .inr (1, [.ref h1, .ref h6, .ref h7, .int 1, .long 0, .long 9223372036854775807, .int 0, .int 0, .long 0, .long 0])), (h3, .inl (gI g, 6, .inl fn0)), (h1, .inr (2, [.ref h4, .int 0, .int 0, .ref h2, .ref h3, .ref h5])), (h2, .inl (gI g, 6, .inl f1))] rfl ?_
      refine r_iconst 93 2 C dX1_takeTop_93 (by decide) ?_
      refine r_icmp_ne 94 101 C dX1_takeTop_94 (by decide) (fun c363 => ?_) (fun c363 => ?_)
      · skip
        have k364 : ¬ ((Int32.toInt r361) = 2) := fun h_9 => c363 ((fa_eq r361 2).mpr h_9)
        refine r_iconst 101 0 C dX1_takeTop_101 (by decide) ?_
        refine r_callVv 102 C dX1_takeTop_102 [] [(h0, .inr (1, [.ref h1, .ref h6, .ref h7, .int 1, .long 0, .long 9223372036854775807, .int 0, .int 0, .long 0, .long 0]))] [(h3, .inl (gI g, 6, .inl fn0)), (h1, .inr (2, [.ref h4, .int 0, .int 0, .ref h2, .ref h3, .ref h5])), (h2, .inl (gI g, 6, .inl f1))] (fun sz => c69_X1_want l g h0 h1 h6 h7 sz) gX1_takeTop_X1_want rfl ⟨rfl, rfl⟩ 1 (by decide) ⟨Nat.le_of_ble_eq_true rfl, Nat.le_of_ble_eq_true rfl⟩ 0 rfl rfl [0] [1, 2, 3] rfl rfl (by decide) (by decide) (by decide) rfl rfl (Nat.le_of_ble_eq_true rfl) ⟨Nat.le_of_ble_eq_true rfl, Nat.le_of_ble_eq_true rfl⟩ (fun  _ w365 => ?_)
        refine r_ws [(h3, .inl (gI g, 6, .inl fn0)), (h1, .inr (2, [.ref h4, .int 0, .int 0, .ref h2, .ref h3, .ref h5])), (h2, .inl (gI g, 6, .inl f1)), (h0, .inr (1, [.ref h1, .ref h6, .ref h7, .int 1, .long 0, .long 9223372036854775807, .int 0, .int 0, .long 0, .long 0]))] rfl ?_
        exact r_vret 105 Rt dX1_takeTop_105 f1 trivial [1, 2, 0, 3] (by decide) rfl (Nat.le_of_ble_eq_true rfl) (Nat.le_of_ble_eq_true rfl)
      · skip
        have k366 : (Int32.toInt r361) = 2 := (fa_eq r361 2).mp c363
        refine r_iconst 97 1 C dX1_takeTop_97 (by decide) ?_
        refine r_goto 98 102 C dX1_takeTop_98 (by decide) ?_
        refine r_callVv 102 C dX1_takeTop_102 [] [] [(h0, .inr (1, [.ref h1, .ref h6, .ref h7, .int 1, .long 0, .long 9223372036854775807, .int 0, .int 0, .long 0, .long 0])), (h3, .inl (gI g, 6, .inl fn0)), (h1, .inr (2, [.ref h4, .int 0, .int 0, .ref h2, .ref h3, .ref h5])), (h2, .inl (gI g, 6, .inl f1))] (fun sz => c77_X1_want l g h0 sz) gX1_takeTop_X1_want rfl ⟨rfl, rfl⟩ 1 (by decide) ⟨Nat.le_of_ble_eq_true rfl, Nat.le_of_ble_eq_true rfl⟩ 0 rfl rfl [] [0, 1, 2, 3] rfl rfl (by decide) (by decide) (by decide) rfl rfl (Nat.le_of_ble_eq_true rfl) ⟨Nat.le_of_ble_eq_true rfl, Nat.le_of_ble_eq_true rfl⟩ (fun  _ w367 => ?_)
        refine r_ws [(h0, .inr (1, [.ref h1, .ref h6, .ref h7, .int 1, .long 0, .long 9223372036854775807, .int 0, .int 0, .long 0, .long 0])), (h3, .inl (gI g, 6, .inl fn0)), (h1, .inr (2, [.ref h4, .int 0, .int 0, .ref h2, .ref h3, .ref h5])), (h2, .inl (gI g, 6, .inl f1))] rfl ?_
        exact r_vret 105 Rt dX1_takeTop_105 f1 trivial [2, 3, 1, 0] (by decide) rfl (Nat.le_of_ble_eq_true rfl) (Nat.le_of_ble_eq_true rfl)
    obtain rfl := w345
    refine r_callVv 66 C dX1_takeTop_66 [] [] [(h3, .inl (gI g, 6, .inl fn0)), (h0, .inr (1, [.ref h1, .ref h6, .ref h7, .int 1, .long 0, .long 9223372036854775807, .int 0, .int 0, .long 0, .long 0])), (h1, .inr (2, [.ref h4, .int 0, .int 0, .ref h2, .ref h3, .ref h5])), (h2, .inl (gI g, 6, .inl f1))] (fun sz => c77_X1_want l g h0 sz) gX1_takeTop_X1_want rfl ⟨rfl, rfl⟩ 1 (by decide) ⟨Nat.le_of_ble_eq_true rfl, Nat.le_of_ble_eq_true rfl⟩ 1 rfl rfl [] [0, 1, 2, 3] rfl rfl (by decide) (by decide) (by decide) rfl rfl (Nat.le_of_ble_eq_true rfl) ⟨Nat.le_of_ble_eq_true rfl, Nat.le_of_ble_eq_true rfl⟩ (fun  _ w368 => ?_)
    refine r_ws [(h3, .inl (gI g, 6, .inl fn0)), (h0, .inr (1, [.ref h1, .ref h6, .ref h7, .int 1, .long 0, .long 9223372036854775807, .int 0, .int 0, .long 0, .long 0])), (h1, .inr (2, [.ref h4, .int 0, .int 0, .ref h2, .ref h3, .ref h5])), (h2, .inl (gI g, 6, .inl f1))] rfl ?_
    refine r_aload_n 69 0 C dX1_takeTop_69 rfl ?_
    refine r_aload_n 70 0 C dX1_takeTop_70 rfl ?_
    refine r_get 71 C dX1_takeTop_71 (k := 0) 1 rfl rfl hiX1 (by decide) rfl (mg 1 rfl) (Or.inl rfl) rfl ?_
    refine r_sipush 74 262 C dX1_takeTop_74 (by decide) ?_
    refine r_callVi 77 C dX1_takeTop_77 [.ref h0] [(h1, .inr (2, [.ref h4, .int 0, .int 0, .ref h2, .ref h3, .ref h5])), (h2, .inl (gI g, 6, .inl f1))] [(h3, .inl (gI g, 6, .inl fn0)), (h0, .inr (1, [.ref h1, .ref h6, .ref h7, .int 1, .long 0, .long 9223372036854775807, .int 0, .int 0, .long 0, .long 0]))] (fun sz => c90_X2_isTold l g h1 h2 h4 h3 h5 f1 sz) gX1_takeTop_X2_isTold rfl ⟨rfl, rfl⟩ 1 (by decide) ⟨Nat.le_of_ble_eq_true rfl, Nat.le_of_ble_eq_true rfl⟩ 2 rfl rfl [2, 3] [0, 1] rfl rfl (by decide) (by decide) (by decide) rfl rfl (Nat.le_of_ble_eq_true rfl) ⟨Nat.le_of_ble_eq_true rfl, Nat.le_of_ble_eq_true rfl⟩ (fun r369 _ w370 => ?_)
    refine r_ws [(h3, .inl (gI g, 6, .inl fn0)), (h0, .inr (1, [.ref h1, .ref h6, .ref h7, .int 1, .long 0, .long 9223372036854775807, .int 0, .int 0, .long 0, .long 0])), (h1, .inr (2, [.ref h4, .int 0, .int 0, .ref h2, .ref h3, .ref h5])), (h2, .inl (gI g, 6, .inl f1))] rfl ?_
    rcases w370 with rfl | w370
    · skip
      refine r_if_eq_t 80 97 C dX1_takeTop_80 (by decide) (by decide) ?_
      refine r_iconst 97 1 C dX1_takeTop_97 (by decide) ?_
      refine r_goto 98 102 C dX1_takeTop_98 (by decide) ?_
      refine r_callVv 102 C dX1_takeTop_102 [] [] [(h3, .inl (gI g, 6, .inl fn0)), (h0, .inr (1, [.ref h1, .ref h6, .ref h7, .int 1, .long 0, .long 9223372036854775807, .int 0, .int 0, .long 0, .long 0])), (h1, .inr (2, [.ref h4, .int 0, .int 0, .ref h2, .ref h3, .ref h5])), (h2, .inl (gI g, 6, .inl f1))] (fun sz => c77_X1_want l g h0 sz) gX1_takeTop_X1_want rfl ⟨rfl, rfl⟩ 1 (by decide) ⟨Nat.le_of_ble_eq_true rfl, Nat.le_of_ble_eq_true rfl⟩ 1 rfl rfl [] [0, 1, 2, 3] rfl rfl (by decide) (by decide) (by decide) rfl rfl (Nat.le_of_ble_eq_true rfl) ⟨Nat.le_of_ble_eq_true rfl, Nat.le_of_ble_eq_true rfl⟩ (fun  _ w371 => ?_)
      refine r_ws [(h3, .inl (gI g, 6, .inl fn0)), (h0, .inr (1, [.ref h1, .ref h6, .ref h7, .int 1, .long 0, .long 9223372036854775807, .int 0, .int 0, .long 0, .long 0])), (h1, .inr (2, [.ref h4, .int 0, .int 0, .ref h2, .ref h3, .ref h5])), (h2, .inl (gI g, 6, .inl f1))] rfl ?_
      exact r_vret 105 Rt dX1_takeTop_105 f1 trivial [2, 3, 0, 1] (by decide) rfl (Nat.le_of_ble_eq_true rfl) (Nat.le_of_ble_eq_true rfl)
    obtain rfl := w370
    refine r_if_eq_f 80 97 C dX1_takeTop_80 (by decide) (by decide) ?_
    refine r_aload_n 83 0 C dX1_takeTop_83 rfl ?_
    refine r_get 84 C dX1_takeTop_84 (k := 0) 1 rfl rfl hiX1 (by decide) rfl (mg 1 rfl) (Or.inl rfl) rfl ?_
    refine r_sipush 87 262 C dX1_takeTop_87 (by decide) ?_
    refine r_callVi 90 C dX1_takeTop_90 [.ref h0] [(h3, .inl (gI g, 6, .inl fn0)), (h1, .inr (2, [.ref h4, .int 0, .int 0, .ref h2, .ref h3, .ref h5])), (h2, .inl (gI g, 6, .inl f1))] [(h0, .inr (1, [.ref h1, .ref h6, .ref h7, .int 1, .long 0, .long 9223372036854775807, .int 0, .int 0, .long 0, .long 0]))] (fun sz => c91_X2_first l g h1 h3 h2 fn0 h4 h5 f1 sz) gX1_takeTop_X2_first rfl ⟨rfl, rfl⟩ 1 (by decide) ⟨Nat.le_of_ble_eq_true rfl, Nat.le_of_ble_eq_true rfl⟩ 2 rfl rfl [0, 2, 3] [1] rfl rfl (by decide) (by decide) (by decide) rfl rfl (Nat.le_of_ble_eq_true rfl) ⟨Nat.le_of_ble_eq_true rfl, Nat.le_of_ble_eq_true rfl⟩ (fun r372 _ w373 => ?_)
    refine r_ws [(h0, .inr (1, [.ref h1, .ref h6, .ref h7, .int 1, .long 0, .long 9223372036854775807, .int 0, .int 0, .long 0, .long 0])), (h3, .inl (gI g, 6, .inl fn0)), (h1, .inr (2, [.ref h4, .int 0, .int 0, .ref h2, .ref h3, .ref h5])), (h2, .inl (gI g, 6, .inl f1))] rfl ?_
    refine r_iconst 93 2 C dX1_takeTop_93 (by decide) ?_
    refine r_icmp_ne 94 101 C dX1_takeTop_94 (by decide) (fun c374 => ?_) (fun c374 => ?_)
    · skip
      have k375 : ¬ ((Int32.toInt r372) = 2) := fun h_9 => c374 ((fa_eq r372 2).mpr h_9)
      refine r_iconst 101 0 C dX1_takeTop_101 (by decide) ?_
      refine r_callVv 102 C dX1_takeTop_102 [] [(h0, .inr (1, [.ref h1, .ref h6, .ref h7, .int 1, .long 0, .long 9223372036854775807, .int 0, .int 0, .long 0, .long 0]))] [(h3, .inl (gI g, 6, .inl fn0)), (h1, .inr (2, [.ref h4, .int 0, .int 0, .ref h2, .ref h3, .ref h5])), (h2, .inl (gI g, 6, .inl f1))] (fun sz => c69_X1_want l g h0 h1 h6 h7 sz) gX1_takeTop_X1_want rfl ⟨rfl, rfl⟩ 1 (by decide) ⟨Nat.le_of_ble_eq_true rfl, Nat.le_of_ble_eq_true rfl⟩ 0 rfl rfl [0] [1, 2, 3] rfl rfl (by decide) (by decide) (by decide) rfl rfl (Nat.le_of_ble_eq_true rfl) ⟨Nat.le_of_ble_eq_true rfl, Nat.le_of_ble_eq_true rfl⟩ (fun  _ w376 => ?_)
      refine r_ws [(h3, .inl (gI g, 6, .inl fn0)), (h1, .inr (2, [.ref h4, .int 0, .int 0, .ref h2, .ref h3, .ref h5])), (h2, .inl (gI g, 6, .inl f1)), (h0, .inr (1, [.ref h1, .ref h6, .ref h7, .int 1, .long 0, .long 9223372036854775807, .int 0, .int 0, .long 0, .long 0]))] rfl ?_
      exact r_vret 105 Rt dX1_takeTop_105 f1 trivial [1, 2, 0, 3] (by decide) rfl (Nat.le_of_ble_eq_true rfl) (Nat.le_of_ble_eq_true rfl)
    · skip
      have k377 : (Int32.toInt r372) = 2 := (fa_eq r372 2).mp c374
      refine r_iconst 97 1 C dX1_takeTop_97 (by decide) ?_
      refine r_goto 98 102 C dX1_takeTop_98 (by decide) ?_
      refine r_callVv 102 C dX1_takeTop_102 [] [] [(h0, .inr (1, [.ref h1, .ref h6, .ref h7, .int 1, .long 0, .long 9223372036854775807, .int 0, .int 0, .long 0, .long 0])), (h3, .inl (gI g, 6, .inl fn0)), (h1, .inr (2, [.ref h4, .int 0, .int 0, .ref h2, .ref h3, .ref h5])), (h2, .inl (gI g, 6, .inl f1))] (fun sz => c77_X1_want l g h0 sz) gX1_takeTop_X1_want rfl ⟨rfl, rfl⟩ 1 (by decide) ⟨Nat.le_of_ble_eq_true rfl, Nat.le_of_ble_eq_true rfl⟩ 0 rfl rfl [] [0, 1, 2, 3] rfl rfl (by decide) (by decide) (by decide) rfl rfl (Nat.le_of_ble_eq_true rfl) ⟨Nat.le_of_ble_eq_true rfl, Nat.le_of_ble_eq_true rfl⟩ (fun  _ w378 => ?_)
      refine r_ws [(h0, .inr (1, [.ref h1, .ref h6, .ref h7, .int 1, .long 0, .long 9223372036854775807, .int 0, .int 0, .long 0, .long 0])), (h3, .inl (gI g, 6, .inl fn0)), (h1, .inr (2, [.ref h4, .int 0, .int 0, .ref h2, .ref h3, .ref h5])), (h2, .inl (gI g, 6, .inl f1))] rfl ?_
      exact r_vret 105 Rt dX1_takeTop_105 f1 trivial [2, 3, 1, 0] (by decide) rfl (Nat.le_of_ble_eq_true rfl) (Nat.le_of_ble_eq_true rfl)
  rcases w342 with rfl | w342
  · skip
    refine r_callVv 51 C dX1_takeTop_51 [] [(h0, .inr (1, [.ref h1, .ref h6, .ref h7, .int 1, .long 0, .long 9223372036854775807, .int 0, .int 0, .long 0, .long 0]))] [(h3, .inl (gI g, 6, .inl fn0)), (h1, .inr (2, [.ref h4, .int 0, .int 0, .ref h2, .ref h3, .ref h5])), (h2, .inl (gI g, 6, .inl f1))] (fun sz => c69_X1_want l g h0 h1 h6 h7 sz) gX1_takeTop_X1_want rfl ⟨rfl, rfl⟩ 1 (by decide) ⟨Nat.le_of_ble_eq_true rfl, Nat.le_of_ble_eq_true rfl⟩ 1 rfl rfl [1] [0, 2, 3] rfl rfl (by decide) (by decide) (by decide) rfl rfl (Nat.le_of_ble_eq_true rfl) ⟨Nat.le_of_ble_eq_true rfl, Nat.le_of_ble_eq_true rfl⟩ (fun  _ w379 => ?_)
    refine r_ws [(h3, .inl (gI g, 6, .inl fn0)), (h1, .inr (2, [.ref h4, .int 0, .int 0, .ref h2, .ref h3, .ref h5])), (h2, .inl (gI g, 6, .inl f1)), (h0, .inr (1, [.ref h1, .ref h6, .ref h7, .int 1, .long 0, .long 9223372036854775807, .int 0, .int 0, .long 0, .long 0]))] rfl ?_
    refine r_aload_n 54 0 C dX1_takeTop_54 rfl ?_
    refine r_aload_n 55 0 C dX1_takeTop_55 rfl ?_
    refine r_get 56 C dX1_takeTop_56 (k := 0) 3 rfl rfl hiX1 (by decide) rfl (mg 1 rfl) (Or.inl rfl) rfl ?_
    refine r_sipush 59 262 C dX1_takeTop_59 (by decide) ?_
    refine r_iconst 62 1 C dX1_takeTop_62 (by decide) ?_
    refine r_callVi 63 C dX1_takeTop_63 [.ref h0] [(h1, .inr (2, [.ref h4, .int 0, .int 0, .ref h2, .ref h3, .ref h5])), (h2, .inl (gI g, 6, .inl f1))] [(h3, .inl (gI g, 6, .inl fn0)), (h0, .inr (1, [.ref h1, .ref h6, .ref h7, .int 1, .long 0, .long 9223372036854775807, .int 0, .int 0, .long 0, .long 0]))] (fun sz => c89_X2_fits l g h1 h2 h4 h3 h5 f1 sz) gX1_takeTop_X2_fits rfl ⟨rfl, rfl⟩ 2 (by decide) ⟨Nat.le_of_ble_eq_true rfl, Nat.le_of_ble_eq_true rfl⟩ 1 rfl rfl [1, 2] [0, 3] rfl rfl (by decide) (by decide) (by decide) rfl rfl (Nat.le_of_ble_eq_true rfl) ⟨Nat.le_of_ble_eq_true rfl, Nat.le_of_ble_eq_true rfl⟩ (fun r380 _ w381 => ?_)
    refine r_ws [(h3, .inl (gI g, 6, .inl fn0)), (h0, .inr (1, [.ref h1, .ref h6, .ref h7, .int 1, .long 0, .long 9223372036854775807, .int 0, .int 0, .long 0, .long 0])), (h1, .inr (2, [.ref h4, .int 0, .int 0, .ref h2, .ref h3, .ref h5])), (h2, .inl (gI g, 6, .inl f1))] rfl ?_
    rcases w381 with rfl | w381
    · skip
      refine r_callVv 66 C dX1_takeTop_66 [] [] [(h3, .inl (gI g, 6, .inl fn0)), (h0, .inr (1, [.ref h1, .ref h6, .ref h7, .int 1, .long 0, .long 9223372036854775807, .int 0, .int 0, .long 0, .long 0])), (h1, .inr (2, [.ref h4, .int 0, .int 0, .ref h2, .ref h3, .ref h5])), (h2, .inl (gI g, 6, .inl f1))] (fun sz => c77_X1_want l g h0 sz) gX1_takeTop_X1_want rfl ⟨rfl, rfl⟩ 1 (by decide) ⟨Nat.le_of_ble_eq_true rfl, Nat.le_of_ble_eq_true rfl⟩ 1 rfl rfl [] [0, 1, 2, 3] rfl rfl (by decide) (by decide) (by decide) rfl rfl (Nat.le_of_ble_eq_true rfl) ⟨Nat.le_of_ble_eq_true rfl, Nat.le_of_ble_eq_true rfl⟩ (fun  _ w382 => ?_)
      refine r_ws [(h3, .inl (gI g, 6, .inl fn0)), (h0, .inr (1, [.ref h1, .ref h6, .ref h7, .int 1, .long 0, .long 9223372036854775807, .int 0, .int 0, .long 0, .long 0])), (h1, .inr (2, [.ref h4, .int 0, .int 0, .ref h2, .ref h3, .ref h5])), (h2, .inl (gI g, 6, .inl f1))] rfl ?_
      refine r_aload_n 69 0 C dX1_takeTop_69 rfl ?_
      refine r_aload_n 70 0 C dX1_takeTop_70 rfl ?_
      refine r_get 71 C dX1_takeTop_71 (k := 0) 1 rfl rfl hiX1 (by decide) rfl (mg 1 rfl) (Or.inl rfl) rfl ?_
      refine r_sipush 74 262 C dX1_takeTop_74 (by decide) ?_
      refine r_callVi 77 C dX1_takeTop_77 [.ref h0] [(h1, .inr (2, [.ref h4, .int 0, .int 0, .ref h2, .ref h3, .ref h5])), (h2, .inl (gI g, 6, .inl f1))] [(h3, .inl (gI g, 6, .inl fn0)), (h0, .inr (1, [.ref h1, .ref h6, .ref h7, .int 1, .long 0, .long 9223372036854775807, .int 0, .int 0, .long 0, .long 0]))] (fun sz => c90_X2_isTold l g h1 h2 h4 h3 h5 f1 sz) gX1_takeTop_X2_isTold rfl ⟨rfl, rfl⟩ 1 (by decide) ⟨Nat.le_of_ble_eq_true rfl, Nat.le_of_ble_eq_true rfl⟩ 2 rfl rfl [2, 3] [0, 1] rfl rfl (by decide) (by decide) (by decide) rfl rfl (Nat.le_of_ble_eq_true rfl) ⟨Nat.le_of_ble_eq_true rfl, Nat.le_of_ble_eq_true rfl⟩ (fun r383 _ w384 => ?_)
      refine r_ws [(h3, .inl (gI g, 6, .inl fn0)), (h0, .inr (1, [.ref h1, .ref h6, .ref h7, .int 1, .long 0, .long 9223372036854775807, .int 0, .int 0, .long 0, .long 0])), (h1, .inr (2, [.ref h4, .int 0, .int 0, .ref h2, .ref h3, .ref h5])), (h2, .inl (gI g, 6, .inl f1))] rfl ?_
      rcases w384 with rfl | w384
      · skip
        refine r_if_eq_t 80 97 C dX1_takeTop_80 (by decide) (by decide) ?_
        refine r_iconst 97 1 C dX1_takeTop_97 (by decide) ?_
        refine r_goto 98 102 C dX1_takeTop_98 (by decide) ?_
        refine r_callVv 102 C dX1_takeTop_102 [] [] [(h3, .inl (gI g, 6, .inl fn0)), (h0, .inr (1, [.ref h1, .ref h6, .ref h7, .int 1, .long 0, .long 9223372036854775807, .int 0, .int 0, .long 0, .long 0])), (h1, .inr (2, [.ref h4, .int 0, .int 0, .ref h2, .ref h3, .ref h5])), (h2, .inl (gI g, 6, .inl f1))] (fun sz => c77_X1_want l g h0 sz) gX1_takeTop_X1_want rfl ⟨rfl, rfl⟩ 1 (by decide) ⟨Nat.le_of_ble_eq_true rfl, Nat.le_of_ble_eq_true rfl⟩ 1 rfl rfl [] [0, 1, 2, 3] rfl rfl (by decide) (by decide) (by decide) rfl rfl (Nat.le_of_ble_eq_true rfl) ⟨Nat.le_of_ble_eq_true rfl, Nat.le_of_ble_eq_true rfl⟩ (fun  _ w385 => ?_)
        refine r_ws [(h3, .inl (gI g, 6, .inl fn0)), (h0, .inr (1, [.ref h1, .ref h6, .ref h7, .int 1, .long 0, .long 9223372036854775807, .int 0, .int 0, .long 0, .long 0])), (h1, .inr (2, [.ref h4, .int 0, .int 0, .ref h2, .ref h3, .ref h5])), (h2, .inl (gI g, 6, .inl f1))] rfl ?_
        exact r_vret 105 Rt dX1_takeTop_105 f1 trivial [2, 3, 0, 1] (by decide) rfl (Nat.le_of_ble_eq_true rfl) (Nat.le_of_ble_eq_true rfl)
      obtain rfl := w384
      refine r_if_eq_f 80 97 C dX1_takeTop_80 (by decide) (by decide) ?_
      refine r_aload_n 83 0 C dX1_takeTop_83 rfl ?_
      refine r_get 84 C dX1_takeTop_84 (k := 0) 1 rfl rfl hiX1 (by decide) rfl (mg 1 rfl) (Or.inl rfl) rfl ?_
      refine r_sipush 87 262 C dX1_takeTop_87 (by decide) ?_
      refine r_callVi 90 C dX1_takeTop_90 [.ref h0] [(h3, .inl (gI g, 6, .inl fn0)), (h1, .inr (2, [.ref h4, .int 0, .int 0, .ref h2, .ref h3, .ref h5])), (h2, .inl (gI g, 6, .inl f1))] [(h0, .inr (1, [.ref h1, .ref h6, .ref h7, .int 1, .long 0, .long 9223372036854775807, .int 0, .int 0, .long 0, .long 0]))] (fun sz => c91_X2_first l g h1 h3 h2 fn0 h4 h5 f1 sz) gX1_takeTop_X2_first rfl ⟨rfl, rfl⟩ 1 (by decide) ⟨Nat.le_of_ble_eq_true rfl, Nat.le_of_ble_eq_true rfl⟩ 2 rfl rfl [0, 2, 3] [1] rfl rfl (by decide) (by decide) (by decide) rfl rfl (Nat.le_of_ble_eq_true rfl) ⟨Nat.le_of_ble_eq_true rfl, Nat.le_of_ble_eq_true rfl⟩ (fun r386 _ w387 => ?_)
      refine r_ws [(h0, .inr (1, [.ref h1, .ref h6, .ref h7, .int 1, .long 0, .long 9223372036854775807, .int 0, .int 0, .long 0, .long 0])), (h3, .inl (gI g, 6, .inl fn0)), (h1, .inr (2, [.ref h4, .int 0, .int 0, .ref h2, .ref h3, .ref h5])), (h2, .inl (gI g, 6, .inl f1))] rfl ?_
      refine r_iconst 93 2 C dX1_takeTop_93 (by decide) ?_
      refine r_icmp_ne 94 101 C dX1_takeTop_94 (by decide) (fun c388 => ?_) (fun c388 => ?_)
      · skip
        have k389 : ¬ ((Int32.toInt r386) = 2) := fun h_9 => c388 ((fa_eq r386 2).mpr h_9)
        refine r_iconst 101 0 C dX1_takeTop_101 (by decide) ?_
        refine r_callVv 102 C dX1_takeTop_102 [] [(h0, .inr (1, [.ref h1, .ref h6, .ref h7, .int 1, .long 0, .long 9223372036854775807, .int 0, .int 0, .long 0, .long 0]))] [(h3, .inl (gI g, 6, .inl fn0)), (h1, .inr (2, [.ref h4, .int 0, .int 0, .ref h2, .ref h3, .ref h5])), (h2, .inl (gI g, 6, .inl f1))] (fun sz => c69_X1_want l g h0 h1 h6 h7 sz) gX1_takeTop_X1_want rfl ⟨rfl, rfl⟩ 1 (by decide) ⟨Nat.le_of_ble_eq_true rfl, Nat.le_of_ble_eq_true rfl⟩ 0 rfl rfl [0] [1, 2, 3] rfl rfl (by decide) (by decide) (by decide) rfl rfl (Nat.le_of_ble_eq_true rfl) ⟨Nat.le_of_ble_eq_true rfl, Nat.le_of_ble_eq_true rfl⟩ (fun  _ w390 => ?_)
        refine r_ws [(h3, .inl (gI g, 6, .inl fn0)), (h1, .inr (2, [.ref h4, .int 0, .int 0, .ref h2, .ref h3, .ref h5])), (h2, .inl (gI g, 6, .inl f1)), (h0, .inr (1, [.ref h1, .ref h6, .ref h7, .int 1, .long 0, .long 9223372036854775807, .int 0, .int 0, .long 0, .long 0]))] rfl ?_
        exact r_vret 105 Rt dX1_takeTop_105 f1 trivial [1, 2, 0, 3] (by decide) rfl (Nat.le_of_ble_eq_true rfl) (Nat.le_of_ble_eq_true rfl)
      · skip
        have k391 : (Int32.toInt r386) = 2 := (fa_eq r386 2).mp c388
        refine r_iconst 97 1 C dX1_takeTop_97 (by decide) ?_
        refine r_goto 98 102 C dX1_takeTop_98 (by decide) ?_
        refine r_callVv 102 C dX1_takeTop_102 [] [] [(h0, .inr (1, [.ref h1, .ref h6, .ref h7, .int 1, .long 0, .long 9223372036854775807, .int 0, .int 0, .long 0, .long 0])), (h3, .inl (gI g, 6, .inl fn0)), (h1, .inr (2, [.ref h4, .int 0, .int 0, .ref h2, .ref h3, .ref h5])), (h2, .inl (gI g, 6, .inl f1))] (fun sz => c77_X1_want l g h0 sz) gX1_takeTop_X1_want rfl ⟨rfl, rfl⟩ 1 (by decide) ⟨Nat.le_of_ble_eq_true rfl, Nat.le_of_ble_eq_true rfl⟩ 0 rfl rfl [] [0, 1, 2, 3] rfl rfl (by decide) (by decide) (by decide) rfl rfl (Nat.le_of_ble_eq_true rfl) ⟨Nat.le_of_ble_eq_true rfl, Nat.le_of_ble_eq_true rfl⟩ (fun  _ w392 => ?_)
        refine r_ws [(h0, .inr (1, [.ref h1, .ref h6, .ref h7, .int 1, .long 0, .long 9223372036854775807, .int 0, .int 0, .long 0, .long 0])), (h3, .inl (gI g, 6, .inl fn0)), (h1, .inr (2, [.ref h4, .int 0, .int 0, .ref h2, .ref h3, .ref h5])), (h2, .inl (gI g, 6, .inl f1))] rfl ?_
        exact r_vret 105 Rt dX1_takeTop_105 f1 trivial [2, 3, 1, 0] (by decide) rfl (Nat.le_of_ble_eq_true rfl) (Nat.le_of_ble_eq_true rfl)
    rcases w381 with rfl | w381
    · skip
      refine r_callVv 66 C dX1_takeTop_66 [] [(h0, .inr (1, [.ref h1, .ref h6, .ref h7, .int 1, .long 0, .long 9223372036854775807, .int 0, .int 0, .long 0, .long 0]))] [(h3, .inl (gI g, 6, .inl fn0)), (h1, .inr (2, [.ref h4, .int 0, .int 0, .ref h2, .ref h3, .ref h5])), (h2, .inl (gI g, 6, .inl f1))] (fun sz => c69_X1_want l g h0 h1 h6 h7 sz) gX1_takeTop_X1_want rfl ⟨rfl, rfl⟩ 1 (by decide) ⟨Nat.le_of_ble_eq_true rfl, Nat.le_of_ble_eq_true rfl⟩ 1 rfl rfl [1] [0, 2, 3] rfl rfl (by decide) (by decide) (by decide) rfl rfl (Nat.le_of_ble_eq_true rfl) ⟨Nat.le_of_ble_eq_true rfl, Nat.le_of_ble_eq_true rfl⟩ (fun  _ w393 => ?_)
      refine r_ws [(h3, .inl (gI g, 6, .inl fn0)), (h1, .inr (2, [.ref h4, .int 0, .int 0, .ref h2, .ref h3, .ref h5])), (h2, .inl (gI g, 6, .inl f1)), (h0, .inr (1, [.ref h1, .ref h6, .ref h7, .int 1, .long 0, .long 9223372036854775807, .int 0, .int 0, .long 0, .long 0]))] rfl ?_
      refine r_aload_n 69 0 C dX1_takeTop_69 rfl ?_
      refine r_aload_n 70 0 C dX1_takeTop_70 rfl ?_
      refine r_get 71 C dX1_takeTop_71 (k := 0) 3 rfl rfl hiX1 (by decide) rfl (mg 1 rfl) (Or.inl rfl) rfl ?_
      refine r_sipush 74 262 C dX1_takeTop_74 (by decide) ?_
      refine r_callVi 77 C dX1_takeTop_77 [.ref h0] [(h1, .inr (2, [.ref h4, .int 0, .int 0, .ref h2, .ref h3, .ref h5])), (h2, .inl (gI g, 6, .inl f1))] [(h3, .inl (gI g, 6, .inl fn0)), (h0, .inr (1, [.ref h1, .ref h6, .ref h7, .int 1, .long 0, .long 9223372036854775807, .int 0, .int 0, .long 0, .long 0]))] (fun sz => c90_X2_isTold l g h1 h2 h4 h3 h5 f1 sz) gX1_takeTop_X2_isTold rfl ⟨rfl, rfl⟩ 1 (by decide) ⟨Nat.le_of_ble_eq_true rfl, Nat.le_of_ble_eq_true rfl⟩ 1 rfl rfl [1, 2] [0, 3] rfl rfl (by decide) (by decide) (by decide) rfl rfl (Nat.le_of_ble_eq_true rfl) ⟨Nat.le_of_ble_eq_true rfl, Nat.le_of_ble_eq_true rfl⟩ (fun r394 _ w395 => ?_)
      refine r_ws [(h3, .inl (gI g, 6, .inl fn0)), (h0, .inr (1, [.ref h1, .ref h6, .ref h7, .int 1, .long 0, .long 9223372036854775807, .int 0, .int 0, .long 0, .long 0])), (h1, .inr (2, [.ref h4, .int 0, .int 0, .ref h2, .ref h3, .ref h5])), (h2, .inl (gI g, 6, .inl f1))] rfl ?_
      rcases w395 with rfl | w395
      · skip
        refine r_if_eq_t 80 97 C dX1_takeTop_80 (by decide) (by decide) ?_
        refine r_iconst 97 1 C dX1_takeTop_97 (by decide) ?_
        refine r_goto 98 102 C dX1_takeTop_98 (by decide) ?_
        refine r_callVv 102 C dX1_takeTop_102 [] [] [(h3, .inl (gI g, 6, .inl fn0)), (h0, .inr (1, [.ref h1, .ref h6, .ref h7, .int 1, .long 0, .long 9223372036854775807, .int 0, .int 0, .long 0, .long 0])), (h1, .inr (2, [.ref h4, .int 0, .int 0, .ref h2, .ref h3, .ref h5])), (h2, .inl (gI g, 6, .inl f1))] (fun sz => c77_X1_want l g h0 sz) gX1_takeTop_X1_want rfl ⟨rfl, rfl⟩ 1 (by decide) ⟨Nat.le_of_ble_eq_true rfl, Nat.le_of_ble_eq_true rfl⟩ 1 rfl rfl [] [0, 1, 2, 3] rfl rfl (by decide) (by decide) (by decide) rfl rfl (Nat.le_of_ble_eq_true rfl) ⟨Nat.le_of_ble_eq_true rfl, Nat.le_of_ble_eq_true rfl⟩ (fun  _ w396 => ?_)
        refine r_ws [(h3, .inl (gI g, 6, .inl fn0)), (h0, .inr (1, [.ref h1, .ref h6, .ref h7, .int 1, .long 0, .long 9223372036854775807, .int 0, .int 0, .long 0, .long 0])), (h1, .inr (2, [.ref h4, .int 0, .int 0, .ref h2, .ref h3, .ref h5])), (h2, .inl (gI g, 6, .inl f1))] rfl ?_
        exact r_vret 105 Rt dX1_takeTop_105 f1 trivial [2, 3, 0, 1] (by decide) rfl (Nat.le_of_ble_eq_true rfl) (Nat.le_of_ble_eq_true rfl)
      obtain rfl := w395
      refine r_if_eq_f 80 97 C dX1_takeTop_80 (by decide) (by decide) ?_
      refine r_aload_n 83 0 C dX1_takeTop_83 rfl ?_
      refine r_get 84 C dX1_takeTop_84 (k := 0) 1 rfl rfl hiX1 (by decide) rfl (mg 1 rfl) (Or.inl rfl) rfl ?_
      refine r_sipush 87 262 C dX1_takeTop_87 (by decide) ?_
      refine r_callVi 90 C dX1_takeTop_90 [.ref h0] [(h3, .inl (gI g, 6, .inl fn0)), (h1, .inr (2, [.ref h4, .int 0, .int 0, .ref h2, .ref h3, .ref h5])), (h2, .inl (gI g, 6, .inl f1))] [(h0, .inr (1, [.ref h1, .ref h6, .ref h7, .int 1, .long 0, .long 9223372036854775807, .int 0, .int 0, .long 0, .long 0]))] (fun sz => c91_X2_first l g h1 h3 h2 fn0 h4 h5 f1 sz) gX1_takeTop_X2_first rfl ⟨rfl, rfl⟩ 1 (by decide) ⟨Nat.le_of_ble_eq_true rfl, Nat.le_of_ble_eq_true rfl⟩ 2 rfl rfl [0, 2, 3] [1] rfl rfl (by decide) (by decide) (by decide) rfl rfl (Nat.le_of_ble_eq_true rfl) ⟨Nat.le_of_ble_eq_true rfl, Nat.le_of_ble_eq_true rfl⟩ (fun r397 _ w398 => ?_)
      refine r_ws [(h0, .inr (1, [.ref h1, .ref h6, .ref h7, .int 1, .long 0, .long 9223372036854775807, .int 0, .int 0, .long 0, .long 0])), (h3, .inl (gI g, 6, .inl fn0)), (h1, .inr (2, [.ref h4, .int 0, .int 0, .ref h2, .ref h3, .ref h5])), (h2, .inl (gI g, 6, .inl f1))] rfl ?_
      refine r_iconst 93 2 C dX1_takeTop_93 (by decide) ?_
      refine r_icmp_ne 94 101 C dX1_takeTop_94 (by decide) (fun c399 => ?_) (fun c399 => ?_)
      · skip
        have k400 : ¬ ((Int32.toInt r397) = 2) := fun h_9 => c399 ((fa_eq r397 2).mpr h_9)
        refine r_iconst 101 0 C dX1_takeTop_101 (by decide) ?_
        refine r_callVv 102 C dX1_takeTop_102 [] [(h0, .inr (1, [.ref h1, .ref h6, .ref h7, .int 1, .long 0, .long 9223372036854775807, .int 0, .int 0, .long 0, .long 0]))] [(h3, .inl (gI g, 6, .inl fn0)), (h1, .inr (2, [.ref h4, .int 0, .int 0, .ref h2, .ref h3, .ref h5])), (h2, .inl (gI g, 6, .inl f1))] (fun sz => c69_X1_want l g h0 h1 h6 h7 sz) gX1_takeTop_X1_want rfl ⟨rfl, rfl⟩ 1 (by decide) ⟨Nat.le_of_ble_eq_true rfl, Nat.le_of_ble_eq_true rfl⟩ 0 rfl rfl [0] [1, 2, 3] rfl rfl (by decide) (by decide) (by decide) rfl rfl (Nat.le_of_ble_eq_true rfl) ⟨Nat.le_of_ble_eq_true rfl, Nat.le_of_ble_eq_true rfl⟩ (fun  _ w401 => ?_)
        refine r_ws [(h3, .inl (gI g, 6, .inl fn0)), (h1, .inr (2, [.ref h4, .int 0, .int 0, .ref h2, .ref h3, .ref h5])), (h2, .inl (gI g, 6, .inl f1)), (h0, .inr (1, [.ref h1, .ref h6, .ref h7, .int 1, .long 0, .long 9223372036854775807, .int 0, .int 0, .long 0, .long 0]))] rfl ?_
        exact r_vret 105 Rt dX1_takeTop_105 f1 trivial [1, 2, 0, 3] (by decide) rfl (Nat.le_of_ble_eq_true rfl) (Nat.le_of_ble_eq_true rfl)
      · skip
        have k402 : (Int32.toInt r397) = 2 := (fa_eq r397 2).mp c399
        refine r_iconst 97 1 C dX1_takeTop_97 (by decide) ?_
        refine r_goto 98 102 C dX1_takeTop_98 (by decide) ?_
        refine r_callVv 102 C dX1_takeTop_102 [] [] [(h0, .inr (1, [.ref h1, .ref h6, .ref h7, .int 1, .long 0, .long 9223372036854775807, .int 0, .int 0, .long 0, .long 0])), (h3, .inl (gI g, 6, .inl fn0)), (h1, .inr (2, [.ref h4, .int 0, .int 0, .ref h2, .ref h3, .ref h5])), (h2, .inl (gI g, 6, .inl f1))] (fun sz => c77_X1_want l g h0 sz) gX1_takeTop_X1_want rfl ⟨rfl, rfl⟩ 1 (by decide) ⟨Nat.le_of_ble_eq_true rfl, Nat.le_of_ble_eq_true rfl⟩ 0 rfl rfl [] [0, 1, 2, 3] rfl rfl (by decide) (by decide) (by decide) rfl rfl (Nat.le_of_ble_eq_true rfl) ⟨Nat.le_of_ble_eq_true rfl, Nat.le_of_ble_eq_true rfl⟩ (fun  _ w403 => ?_)
        refine r_ws [(h0, .inr (1, [.ref h1, .ref h6, .ref h7, .int 1, .long 0, .long 9223372036854775807, .int 0, .int 0, .long 0, .long 0])), (h3, .inl (gI g, 6, .inl fn0)), (h1, .inr (2, [.ref h4, .int 0, .int 0, .ref h2, .ref h3, .ref h5])), (h2, .inl (gI g, 6, .inl f1))] rfl ?_
        exact r_vret 105 Rt dX1_takeTop_105 f1 trivial [2, 3, 1, 0] (by decide) rfl (Nat.le_of_ble_eq_true rfl) (Nat.le_of_ble_eq_true rfl)
    obtain rfl := w381
    refine r_callVv 66 C dX1_takeTop_66 [] [] [(h3, .inl (gI g, 6, .inl fn0)), (h0, .inr (1, [.ref h1, .ref h6, .ref h7, .int 1, .long 0, .long 9223372036854775807, .int 0, .int 0, .long 0, .long 0])), (h1, .inr (2, [.ref h4, .int 0, .int 0, .ref h2, .ref h3, .ref h5])), (h2, .inl (gI g, 6, .inl f1))] (fun sz => c77_X1_want l g h0 sz) gX1_takeTop_X1_want rfl ⟨rfl, rfl⟩ 1 (by decide) ⟨Nat.le_of_ble_eq_true rfl, Nat.le_of_ble_eq_true rfl⟩ 1 rfl rfl [] [0, 1, 2, 3] rfl rfl (by decide) (by decide) (by decide) rfl rfl (Nat.le_of_ble_eq_true rfl) ⟨Nat.le_of_ble_eq_true rfl, Nat.le_of_ble_eq_true rfl⟩ (fun  _ w404 => ?_)
    refine r_ws [(h3, .inl (gI g, 6, .inl fn0)), (h0, .inr (1, [.ref h1, .ref h6, .ref h7, .int 1, .long 0, .long 9223372036854775807, .int 0, .int 0, .long 0, .long 0])), (h1, .inr (2, [.ref h4, .int 0, .int 0, .ref h2, .ref h3, .ref h5])), (h2, .inl (gI g, 6, .inl f1))] rfl ?_
    refine r_aload_n 69 0 C dX1_takeTop_69 rfl ?_
    refine r_aload_n 70 0 C dX1_takeTop_70 rfl ?_
    refine r_get 71 C dX1_takeTop_71 (k := 0) 1 rfl rfl hiX1 (by decide) rfl (mg 1 rfl) (Or.inl rfl) rfl ?_
    refine r_sipush 74 262 C dX1_takeTop_74 (by decide) ?_
    refine r_callVi 77 C dX1_takeTop_77 [.ref h0] [(h1, .inr (2, [.ref h4, .int 0, .int 0, .ref h2, .ref h3, .ref h5])), (h2, .inl (gI g, 6, .inl f1))] [(h3, .inl (gI g, 6, .inl fn0)), (h0, .inr (1, [.ref h1, .ref h6, .ref h7, .int 1, .long 0, .long 9223372036854775807, .int 0, .int 0, .long 0, .long 0]))] (fun sz => c90_X2_isTold l g h1 h2 h4 h3 h5 f1 sz) gX1_takeTop_X2_isTold rfl ⟨rfl, rfl⟩ 1 (by decide) ⟨Nat.le_of_ble_eq_true rfl, Nat.le_of_ble_eq_true rfl⟩ 2 rfl rfl [2, 3] [0, 1] rfl rfl (by decide) (by decide) (by decide) rfl rfl (Nat.le_of_ble_eq_true rfl) ⟨Nat.le_of_ble_eq_true rfl, Nat.le_of_ble_eq_true rfl⟩ (fun r405 _ w406 => ?_)
    refine r_ws [(h3, .inl (gI g, 6, .inl fn0)), (h0, .inr (1, [.ref h1, .ref h6, .ref h7, .int 1, .long 0, .long 9223372036854775807, .int 0, .int 0, .long 0, .long 0])), (h1, .inr (2, [.ref h4, .int 0, .int 0, .ref h2, .ref h3, .ref h5])), (h2, .inl (gI g, 6, .inl f1))] rfl ?_
    rcases w406 with rfl | w406
    · skip
      refine r_if_eq_t 80 97 C dX1_takeTop_80 (by decide) (by decide) ?_
      refine r_iconst 97 1 C dX1_takeTop_97 (by decide) ?_
      refine r_goto 98 102 C dX1_takeTop_98 (by decide) ?_
      refine r_callVv 102 C dX1_takeTop_102 [] [] [(h3, .inl (gI g, 6, .inl fn0)), (h0, .inr (1, [.ref h1, .ref h6, .ref h7, .int 1, .long 0, .long 9223372036854775807, .int 0, .int 0, .long 0, .long 0])), (h1, .inr (2, [.ref h4, .int 0, .int 0, .ref h2, .ref h3, .ref h5])), (h2, .inl (gI g, 6, .inl f1))] (fun sz => c77_X1_want l g h0 sz) gX1_takeTop_X1_want rfl ⟨rfl, rfl⟩ 1 (by decide) ⟨Nat.le_of_ble_eq_true rfl, Nat.le_of_ble_eq_true rfl⟩ 1 rfl rfl [] [0, 1, 2, 3] rfl rfl (by decide) (by decide) (by decide) rfl rfl (Nat.le_of_ble_eq_true rfl) ⟨Nat.le_of_ble_eq_true rfl, Nat.le_of_ble_eq_true rfl⟩ (fun  _ w407 => ?_)
      refine r_ws [(h3, .inl (gI g, 6, .inl fn0)), (h0, .inr (1, [.ref h1, .ref h6, .ref h7, .int 1, .long 0, .long 9223372036854775807, .int 0, .int 0, .long 0, .long 0])), (h1, .inr (2, [.ref h4, .int 0, .int 0, .ref h2, .ref h3, .ref h5])), (h2, .inl (gI g, 6, .inl f1))] rfl ?_
      exact r_vret 105 Rt dX1_takeTop_105 f1 trivial [2, 3, 0, 1] (by decide) rfl (Nat.le_of_ble_eq_true rfl) (Nat.le_of_ble_eq_true rfl)
    obtain rfl := w406
    refine r_if_eq_f 80 97 C dX1_takeTop_80 (by decide) (by decide) ?_
    refine r_aload_n 83 0 C dX1_takeTop_83 rfl ?_
    refine r_get 84 C dX1_takeTop_84 (k := 0) 1 rfl rfl hiX1 (by decide) rfl (mg 1 rfl) (Or.inl rfl) rfl ?_
    refine r_sipush 87 262 C dX1_takeTop_87 (by decide) ?_
    refine r_callVi 90 C dX1_takeTop_90 [.ref h0] [(h3, .inl (gI g, 6, .inl fn0)), (h1, .inr (2, [.ref h4, .int 0, .int 0, .ref h2, .ref h3, .ref h5])), (h2, .inl (gI g, 6, .inl f1))] [(h0, .inr (1, [.ref h1, .ref h6, .ref h7, .int 1, .long 0, .long 9223372036854775807, .int 0, .int 0, .long 0, .long 0]))] (fun sz => c91_X2_first l g h1 h3 h2 fn0 h4 h5 f1 sz) gX1_takeTop_X2_first rfl ⟨rfl, rfl⟩ 1 (by decide) ⟨Nat.le_of_ble_eq_true rfl, Nat.le_of_ble_eq_true rfl⟩ 2 rfl rfl [0, 2, 3] [1] rfl rfl (by decide) (by decide) (by decide) rfl rfl (Nat.le_of_ble_eq_true rfl) ⟨Nat.le_of_ble_eq_true rfl, Nat.le_of_ble_eq_true rfl⟩ (fun r408 _ w409 => ?_)
    refine r_ws [(h0, .inr (1, [.ref h1, .ref h6, .ref h7, .int 1, .long 0, .long 9223372036854775807, .int 0, .int 0, .long 0, .long 0])), (h3, .inl (gI g, 6, .inl fn0)), (h1, .inr (2, [.ref h4, .int 0, .int 0, .ref h2, .ref h3, .ref h5])), (h2, .inl (gI g, 6, .inl f1))] rfl ?_
    refine r_iconst 93 2 C dX1_takeTop_93 (by decide) ?_
    refine r_icmp_ne 94 101 C dX1_takeTop_94 (by decide) (fun c410 => ?_) (fun c410 => ?_)
    · skip
      have k411 : ¬ ((Int32.toInt r408) = 2) := fun h_9 => c410 ((fa_eq r408 2).mpr h_9)
      refine r_iconst 101 0 C dX1_takeTop_101 (by decide) ?_
      refine r_callVv 102 C dX1_takeTop_102 [] [(h0, .inr (1, [.ref h1, .ref h6, .ref h7, .int 1, .long 0, .long 9223372036854775807, .int 0, .int 0, .long 0, .long 0]))] [(h3, .inl (gI g, 6, .inl fn0)), (h1, .inr (2, [.ref h4, .int 0, .int 0, .ref h2, .ref h3, .ref h5])), (h2, .inl (gI g, 6, .inl f1))] (fun sz => c69_X1_want l g h0 h1 h6 h7 sz) gX1_takeTop_X1_want rfl ⟨rfl, rfl⟩ 1 (by decide) ⟨Nat.le_of_ble_eq_true rfl, Nat.le_of_ble_eq_true rfl⟩ 0 rfl rfl [0] [1, 2, 3] rfl rfl (by decide) (by decide) (by decide) rfl rfl (Nat.le_of_ble_eq_true rfl) ⟨Nat.le_of_ble_eq_true rfl, Nat.le_of_ble_eq_true rfl⟩ (fun  _ w412 => ?_)
      refine r_ws [(h3, .inl (gI g, 6, .inl fn0)), (h1, .inr (2, [.ref h4, .int 0, .int 0, .ref h2, .ref h3, .ref h5])), (h2, .inl (gI g, 6, .inl f1)), (h0, .inr (1, [.ref h1, .ref h6, .ref h7, .int 1, .long 0, .long 9223372036854775807, .int 0, .int 0, .long 0, .long 0]))] rfl ?_
      exact r_vret 105 Rt dX1_takeTop_105 f1 trivial [1, 2, 0, 3] (by decide) rfl (Nat.le_of_ble_eq_true rfl) (Nat.le_of_ble_eq_true rfl)
    · skip
      have k413 : (Int32.toInt r408) = 2 := (fa_eq r408 2).mp c410
      refine r_iconst 97 1 C dX1_takeTop_97 (by decide) ?_
      refine r_goto 98 102 C dX1_takeTop_98 (by decide) ?_
      refine r_callVv 102 C dX1_takeTop_102 [] [] [(h0, .inr (1, [.ref h1, .ref h6, .ref h7, .int 1, .long 0, .long 9223372036854775807, .int 0, .int 0, .long 0, .long 0])), (h3, .inl (gI g, 6, .inl fn0)), (h1, .inr (2, [.ref h4, .int 0, .int 0, .ref h2, .ref h3, .ref h5])), (h2, .inl (gI g, 6, .inl f1))] (fun sz => c77_X1_want l g h0 sz) gX1_takeTop_X1_want rfl ⟨rfl, rfl⟩ 1 (by decide) ⟨Nat.le_of_ble_eq_true rfl, Nat.le_of_ble_eq_true rfl⟩ 0 rfl rfl [] [0, 1, 2, 3] rfl rfl (by decide) (by decide) (by decide) rfl rfl (Nat.le_of_ble_eq_true rfl) ⟨Nat.le_of_ble_eq_true rfl, Nat.le_of_ble_eq_true rfl⟩ (fun  _ w414 => ?_)
      refine r_ws [(h0, .inr (1, [.ref h1, .ref h6, .ref h7, .int 1, .long 0, .long 9223372036854775807, .int 0, .int 0, .long 0, .long 0])), (h3, .inl (gI g, 6, .inl fn0)), (h1, .inr (2, [.ref h4, .int 0, .int 0, .ref h2, .ref h3, .ref h5])), (h2, .inl (gI g, 6, .inl f1))] rfl ?_
      exact r_vret 105 Rt dX1_takeTop_105 f1 trivial [2, 3, 1, 0] (by decide) rfl (Nat.le_of_ble_eq_true rfl) (Nat.le_of_ble_eq_true rfl)
  obtain rfl := w342
  refine r_callVv 51 C dX1_takeTop_51 [] [] [(h3, .inl (gI g, 6, .inl fn0)), (h0, .inr (1, [.ref h1, .ref h6, .ref h7, .int 1, .long 0, .long 9223372036854775807, .int 0, .int 0, .long 0, .long 0])), (h1, .inr (2, [.ref h4, .int 0, .int 0, .ref h2, .ref h3, .ref h5])), (h2, .inl (gI g, 6, .inl f1))] (fun sz => c77_X1_want l g h0 sz) gX1_takeTop_X1_want rfl ⟨rfl, rfl⟩ 1 (by decide) ⟨Nat.le_of_ble_eq_true rfl, Nat.le_of_ble_eq_true rfl⟩ 1 rfl rfl [] [0, 1, 2, 3] rfl rfl (by decide) (by decide) (by decide) rfl rfl (Nat.le_of_ble_eq_true rfl) ⟨Nat.le_of_ble_eq_true rfl, Nat.le_of_ble_eq_true rfl⟩ (fun  _ w415 => ?_)
  refine r_ws [(h3, .inl (gI g, 6, .inl fn0)), (h0, .inr (1, [.ref h1, .ref h6, .ref h7, .int 1, .long 0, .long 9223372036854775807, .int 0, .int 0, .long 0, .long 0])), (h1, .inr (2, [.ref h4, .int 0, .int 0, .ref h2, .ref h3, .ref h5])), (h2, .inl (gI g, 6, .inl f1))] rfl ?_
  refine r_aload_n 54 0 C dX1_takeTop_54 rfl ?_
  refine r_aload_n 55 0 C dX1_takeTop_55 rfl ?_
  refine r_get 56 C dX1_takeTop_56 (k := 0) 1 rfl rfl hiX1 (by decide) rfl (mg 1 rfl) (Or.inl rfl) rfl ?_
  refine r_sipush 59 262 C dX1_takeTop_59 (by decide) ?_
  refine r_iconst 62 1 C dX1_takeTop_62 (by decide) ?_
  refine r_callVi 63 C dX1_takeTop_63 [.ref h0] [(h1, .inr (2, [.ref h4, .int 0, .int 0, .ref h2, .ref h3, .ref h5])), (h2, .inl (gI g, 6, .inl f1))] [(h3, .inl (gI g, 6, .inl fn0)), (h0, .inr (1, [.ref h1, .ref h6, .ref h7, .int 1, .long 0, .long 9223372036854775807, .int 0, .int 0, .long 0, .long 0]))] (fun sz => c89_X2_fits l g h1 h2 h4 h3 h5 f1 sz) gX1_takeTop_X2_fits rfl ⟨rfl, rfl⟩ 2 (by decide) ⟨Nat.le_of_ble_eq_true rfl, Nat.le_of_ble_eq_true rfl⟩ 2 rfl rfl [2, 3] [0, 1] rfl rfl (by decide) (by decide) (by decide) rfl rfl (Nat.le_of_ble_eq_true rfl) ⟨Nat.le_of_ble_eq_true rfl, Nat.le_of_ble_eq_true rfl⟩ (fun r416 _ w417 => ?_)
  refine r_ws [(h3, .inl (gI g, 6, .inl fn0)), (h0, .inr (1, [.ref h1, .ref h6, .ref h7, .int 1, .long 0, .long 9223372036854775807, .int 0, .int 0, .long 0, .long 0])), (h1, .inr (2, [.ref h4, .int 0, .int 0, .ref h2, .ref h3, .ref h5])), (h2, .inl (gI g, 6, .inl f1))] rfl ?_
  rcases w417 with rfl | w417
  · skip
    refine r_callVv 66 C dX1_takeTop_66 [] [] [(h3, .inl (gI g, 6, .inl fn0)), (h0, .inr (1, [.ref h1, .ref h6, .ref h7, .int 1, .long 0, .long 9223372036854775807, .int 0, .int 0, .long 0, .long 0])), (h1, .inr (2, [.ref h4, .int 0, .int 0, .ref h2, .ref h3, .ref h5])), (h2, .inl (gI g, 6, .inl f1))] (fun sz => c77_X1_want l g h0 sz) gX1_takeTop_X1_want rfl ⟨rfl, rfl⟩ 1 (by decide) ⟨Nat.le_of_ble_eq_true rfl, Nat.le_of_ble_eq_true rfl⟩ 1 rfl rfl [] [0, 1, 2, 3] rfl rfl (by decide) (by decide) (by decide) rfl rfl (Nat.le_of_ble_eq_true rfl) ⟨Nat.le_of_ble_eq_true rfl, Nat.le_of_ble_eq_true rfl⟩ (fun  _ w418 => ?_)
    refine r_ws [(h3, .inl (gI g, 6, .inl fn0)), (h0, .inr (1, [.ref h1, .ref h6, .ref h7, .int 1, .long 0, .long 9223372036854775807, .int 0, .int 0, .long 0, .long 0])), (h1, .inr (2, [.ref h4, .int 0, .int 0, .ref h2, .ref h3, .ref h5])), (h2, .inl (gI g, 6, .inl f1))] rfl ?_
    refine r_aload_n 69 0 C dX1_takeTop_69 rfl ?_
    refine r_aload_n 70 0 C dX1_takeTop_70 rfl ?_
    refine r_get 71 C dX1_takeTop_71 (k := 0) 1 rfl rfl hiX1 (by decide) rfl (mg 1 rfl) (Or.inl rfl) rfl ?_
    refine r_sipush 74 262 C dX1_takeTop_74 (by decide) ?_
    refine r_callVi 77 C dX1_takeTop_77 [.ref h0] [(h1, .inr (2, [.ref h4, .int 0, .int 0, .ref h2, .ref h3, .ref h5])), (h2, .inl (gI g, 6, .inl f1))] [(h3, .inl (gI g, 6, .inl fn0)), (h0, .inr (1, [.ref h1, .ref h6, .ref h7, .int 1, .long 0, .long 9223372036854775807, .int 0, .int 0, .long 0, .long 0]))] (fun sz => c90_X2_isTold l g h1 h2 h4 h3 h5 f1 sz) gX1_takeTop_X2_isTold rfl ⟨rfl, rfl⟩ 1 (by decide) ⟨Nat.le_of_ble_eq_true rfl, Nat.le_of_ble_eq_true rfl⟩ 2 rfl rfl [2, 3] [0, 1] rfl rfl (by decide) (by decide) (by decide) rfl rfl (Nat.le_of_ble_eq_true rfl) ⟨Nat.le_of_ble_eq_true rfl, Nat.le_of_ble_eq_true rfl⟩ (fun r419 _ w420 => ?_)
    refine r_ws [(h3, .inl (gI g, 6, .inl fn0)), (h0, .inr (1, [.ref h1, .ref h6, .ref h7, .int 1, .long 0, .long 9223372036854775807, .int 0, .int 0, .long 0, .long 0])), (h1, .inr (2, [.ref h4, .int 0, .int 0, .ref h2, .ref h3, .ref h5])), (h2, .inl (gI g, 6, .inl f1))] rfl ?_
    rcases w420 with rfl | w420
    · skip
      refine r_if_eq_t 80 97 C dX1_takeTop_80 (by decide) (by decide) ?_
      refine r_iconst 97 1 C dX1_takeTop_97 (by decide) ?_
      refine r_goto 98 102 C dX1_takeTop_98 (by decide) ?_
      refine r_callVv 102 C dX1_takeTop_102 [] [] [(h3, .inl (gI g, 6, .inl fn0)), (h0, .inr (1, [.ref h1, .ref h6, .ref h7, .int 1, .long 0, .long 9223372036854775807, .int 0, .int 0, .long 0, .long 0])), (h1, .inr (2, [.ref h4, .int 0, .int 0, .ref h2, .ref h3, .ref h5])), (h2, .inl (gI g, 6, .inl f1))] (fun sz => c77_X1_want l g h0 sz) gX1_takeTop_X1_want rfl ⟨rfl, rfl⟩ 1 (by decide) ⟨Nat.le_of_ble_eq_true rfl, Nat.le_of_ble_eq_true rfl⟩ 1 rfl rfl [] [0, 1, 2, 3] rfl rfl (by decide) (by decide) (by decide) rfl rfl (Nat.le_of_ble_eq_true rfl) ⟨Nat.le_of_ble_eq_true rfl, Nat.le_of_ble_eq_true rfl⟩ (fun  _ w421 => ?_)
      refine r_ws [(h3, .inl (gI g, 6, .inl fn0)), (h0, .inr (1, [.ref h1, .ref h6, .ref h7, .int 1, .long 0, .long 9223372036854775807, .int 0, .int 0, .long 0, .long 0])), (h1, .inr (2, [.ref h4, .int 0, .int 0, .ref h2, .ref h3, .ref h5])), (h2, .inl (gI g, 6, .inl f1))] rfl ?_
      exact r_vret 105 Rt dX1_takeTop_105 f1 trivial [2, 3, 0, 1] (by decide) rfl (Nat.le_of_ble_eq_true rfl) (Nat.le_of_ble_eq_true rfl)
    obtain rfl := w420
    refine r_if_eq_f 80 97 C dX1_takeTop_80 (by decide) (by decide) ?_
    refine r_aload_n 83 0 C dX1_takeTop_83 rfl ?_
    refine r_get 84 C dX1_takeTop_84 (k := 0) 1 rfl rfl hiX1 (by decide) rfl (mg 1 rfl) (Or.inl rfl) rfl ?_
    refine r_sipush 87 262 C dX1_takeTop_87 (by decide) ?_
    refine r_callVi 90 C dX1_takeTop_90 [.ref h0] [(h3, .inl (gI g, 6, .inl fn0)), (h1, .inr (2, [.ref h4, .int 0, .int 0, .ref h2, .ref h3, .ref h5])), (h2, .inl (gI g, 6, .inl f1))] [(h0, .inr (1, [.ref h1, .ref h6, .ref h7, .int 1, .long 0, .long 9223372036854775807, .int 0, .int 0, .long 0, .long 0]))] (fun sz => c91_X2_first l g h1 h3 h2 fn0 h4 h5 f1 sz) gX1_takeTop_X2_first rfl ⟨rfl, rfl⟩ 1 (by decide) ⟨Nat.le_of_ble_eq_true rfl, Nat.le_of_ble_eq_true rfl⟩ 2 rfl rfl [0, 2, 3] [1] rfl rfl (by decide) (by decide) (by decide) rfl rfl (Nat.le_of_ble_eq_true rfl) ⟨Nat.le_of_ble_eq_true rfl, Nat.le_of_ble_eq_true rfl⟩ (fun r422 _ w423 => ?_)
    refine r_ws [(h0, .inr (1, [.ref h1, .ref h6, .ref h7, .int 1, .long 0, .long 9223372036854775807, .int 0, .int 0, .long 0, .long 0])), (h3, .inl (gI g, 6, .inl fn0)), (h1, .inr (2, [.ref h4, .int 0, .int 0, .ref h2, .ref h3, .ref h5])), (h2, .inl (gI g, 6, .inl f1))] rfl ?_
    refine r_iconst 93 2 C dX1_takeTop_93 (by decide) ?_
    refine r_icmp_ne 94 101 C dX1_takeTop_94 (by decide) (fun c424 => ?_) (fun c424 => ?_)
    · skip
      have k425 : ¬ ((Int32.toInt r422) = 2) := fun h_9 => c424 ((fa_eq r422 2).mpr h_9)
      refine r_iconst 101 0 C dX1_takeTop_101 (by decide) ?_
      refine r_callVv 102 C dX1_takeTop_102 [] [(h0, .inr (1, [.ref h1, .ref h6, .ref h7, .int 1, .long 0, .long 9223372036854775807, .int 0, .int 0, .long 0, .long 0]))] [(h3, .inl (gI g, 6, .inl fn0)), (h1, .inr (2, [.ref h4, .int 0, .int 0, .ref h2, .ref h3, .ref h5])), (h2, .inl (gI g, 6, .inl f1))] (fun sz => c69_X1_want l g h0 h1 h6 h7 sz) gX1_takeTop_X1_want rfl ⟨rfl, rfl⟩ 1 (by decide) ⟨Nat.le_of_ble_eq_true rfl, Nat.le_of_ble_eq_true rfl⟩ 0 rfl rfl [0] [1, 2, 3] rfl rfl (by decide) (by decide) (by decide) rfl rfl (Nat.le_of_ble_eq_true rfl) ⟨Nat.le_of_ble_eq_true rfl, Nat.le_of_ble_eq_true rfl⟩ (fun  _ w426 => ?_)
      refine r_ws [(h3, .inl (gI g, 6, .inl fn0)), (h1, .inr (2, [.ref h4, .int 0, .int 0, .ref h2, .ref h3, .ref h5])), (h2, .inl (gI g, 6, .inl f1)), (h0, .inr (1, [.ref h1, .ref h6, .ref h7, .int 1, .long 0, .long 9223372036854775807, .int 0, .int 0, .long 0, .long 0]))] rfl ?_
      exact r_vret 105 Rt dX1_takeTop_105 f1 trivial [1, 2, 0, 3] (by decide) rfl (Nat.le_of_ble_eq_true rfl) (Nat.le_of_ble_eq_true rfl)
    · skip
      have k427 : (Int32.toInt r422) = 2 := (fa_eq r422 2).mp c424
      refine r_iconst 97 1 C dX1_takeTop_97 (by decide) ?_
      refine r_goto 98 102 C dX1_takeTop_98 (by decide) ?_
      refine r_callVv 102 C dX1_takeTop_102 [] [] [(h0, .inr (1, [.ref h1, .ref h6, .ref h7, .int 1, .long 0, .long 9223372036854775807, .int 0, .int 0, .long 0, .long 0])), (h3, .inl (gI g, 6, .inl fn0)), (h1, .inr (2, [.ref h4, .int 0, .int 0, .ref h2, .ref h3, .ref h5])), (h2, .inl (gI g, 6, .inl f1))] (fun sz => c77_X1_want l g h0 sz) gX1_takeTop_X1_want rfl ⟨rfl, rfl⟩ 1 (by decide) ⟨Nat.le_of_ble_eq_true rfl, Nat.le_of_ble_eq_true rfl⟩ 0 rfl rfl [] [0, 1, 2, 3] rfl rfl (by decide) (by decide) (by decide) rfl rfl (Nat.le_of_ble_eq_true rfl) ⟨Nat.le_of_ble_eq_true rfl, Nat.le_of_ble_eq_true rfl⟩ (fun  _ w428 => ?_)
      refine r_ws [(h0, .inr (1, [.ref h1, .ref h6, .ref h7, .int 1, .long 0, .long 9223372036854775807, .int 0, .int 0, .long 0, .long 0])), (h3, .inl (gI g, 6, .inl fn0)), (h1, .inr (2, [.ref h4, .int 0, .int 0, .ref h2, .ref h3, .ref h5])), (h2, .inl (gI g, 6, .inl f1))] rfl ?_
      exact r_vret 105 Rt dX1_takeTop_105 f1 trivial [2, 3, 1, 0] (by decide) rfl (Nat.le_of_ble_eq_true rfl) (Nat.le_of_ble_eq_true rfl)
  rcases w417 with rfl | w417
  · skip
    refine r_callVv 66 C dX1_takeTop_66 [] [(h0, .inr (1, [.ref h1, .ref h6, .ref h7, .int 1, .long 0, .long 9223372036854775807, .int 0, .int 0, .long 0, .long 0]))] [(h3, .inl (gI g, 6, .inl fn0)), (h1, .inr (2, [.ref h4, .int 0, .int 0, .ref h2, .ref h3, .ref h5])), (h2, .inl (gI g, 6, .inl f1))] (fun sz => c69_X1_want l g h0 h1 h6 h7 sz) gX1_takeTop_X1_want rfl ⟨rfl, rfl⟩ 1 (by decide) ⟨Nat.le_of_ble_eq_true rfl, Nat.le_of_ble_eq_true rfl⟩ 1 rfl rfl [1] [0, 2, 3] rfl rfl (by decide) (by decide) (by decide) rfl rfl (Nat.le_of_ble_eq_true rfl) ⟨Nat.le_of_ble_eq_true rfl, Nat.le_of_ble_eq_true rfl⟩ (fun  _ w429 => ?_)
    refine r_ws [(h3, .inl (gI g, 6, .inl fn0)), (h1, .inr (2, [.ref h4, .int 0, .int 0, .ref h2, .ref h3, .ref h5])), (h2, .inl (gI g, 6, .inl f1)), (h0, .inr (1, [.ref h1, .ref h6, .ref h7, .int 1, .long 0, .long 9223372036854775807, .int 0, .int 0, .long 0, .long 0]))] rfl ?_
    refine r_aload_n 69 0 C dX1_takeTop_69 rfl ?_
    refine r_aload_n 70 0 C dX1_takeTop_70 rfl ?_
    refine r_get 71 C dX1_takeTop_71 (k := 0) 3 rfl rfl hiX1 (by decide) rfl (mg 1 rfl) (Or.inl rfl) rfl ?_
    refine r_sipush 74 262 C dX1_takeTop_74 (by decide) ?_
    refine r_callVi 77 C dX1_takeTop_77 [.ref h0] [(h1, .inr (2, [.ref h4, .int 0, .int 0, .ref h2, .ref h3, .ref h5])), (h2, .inl (gI g, 6, .inl f1))] [(h3, .inl (gI g, 6, .inl fn0)), (h0, .inr (1, [.ref h1, .ref h6, .ref h7, .int 1, .long 0, .long 9223372036854775807, .int 0, .int 0, .long 0, .long 0]))] (fun sz => c90_X2_isTold l g h1 h2 h4 h3 h5 f1 sz) gX1_takeTop_X2_isTold rfl ⟨rfl, rfl⟩ 1 (by decide) ⟨Nat.le_of_ble_eq_true rfl, Nat.le_of_ble_eq_true rfl⟩ 1 rfl rfl [1, 2] [0, 3] rfl rfl (by decide) (by decide) (by decide) rfl rfl (Nat.le_of_ble_eq_true rfl) ⟨Nat.le_of_ble_eq_true rfl, Nat.le_of_ble_eq_true rfl⟩ (fun r430 _ w431 => ?_)
    refine r_ws [(h3, .inl (gI g, 6, .inl fn0)), (h0, .inr (1, [.ref h1, .ref h6, .ref h7, .int 1, .long 0, .long 9223372036854775807, .int 0, .int 0, .long 0, .long 0])), (h1, .inr (2, [.ref h4, .int 0, .int 0, .ref h2, .ref h3, .ref h5])), (h2, .inl (gI g, 6, .inl f1))] rfl ?_
    rcases w431 with rfl | w431
    · skip
      refine r_if_eq_t 80 97 C dX1_takeTop_80 (by decide) (by decide) ?_
      refine r_iconst 97 1 C dX1_takeTop_97 (by decide) ?_
      refine r_goto 98 102 C dX1_takeTop_98 (by decide) ?_
      refine r_callVv 102 C dX1_takeTop_102 [] [] [(h3, .inl (gI g, 6, .inl fn0)), (h0, .inr (1, [.ref h1, .ref h6, .ref h7, .int 1, .long 0, .long 9223372036854775807, .int 0, .int 0, .long 0, .long 0])), (h1, .inr (2, [.ref h4, .int 0, .int 0, .ref h2, .ref h3, .ref h5])), (h2, .inl (gI g, 6, .inl f1))] (fun sz => c77_X1_want l g h0 sz) gX1_takeTop_X1_want rfl ⟨rfl, rfl⟩ 1 (by decide) ⟨Nat.le_of_ble_eq_true rfl, Nat.le_of_ble_eq_true rfl⟩ 1 rfl rfl [] [0, 1, 2, 3] rfl rfl (by decide) (by decide) (by decide) rfl rfl (Nat.le_of_ble_eq_true rfl) ⟨Nat.le_of_ble_eq_true rfl, Nat.le_of_ble_eq_true rfl⟩ (fun  _ w432 => ?_)
      refine r_ws [(h3, .inl (gI g, 6, .inl fn0)), (h0, .inr (1, [.ref h1, .ref h6, .ref h7, .int 1, .long 0, .long 9223372036854775807, .int 0, .int 0, .long 0, .long 0])), (h1, .inr (2, [.ref h4, .int 0, .int 0, .ref h2, .ref h3, .ref h5])), (h2, .inl (gI g, 6, .inl f1))] rfl ?_
      exact r_vret 105 Rt dX1_takeTop_105 f1 trivial [2, 3, 0, 1] (by decide) rfl (Nat.le_of_ble_eq_true rfl) (Nat.le_of_ble_eq_true rfl)
    obtain rfl := w431
    refine r_if_eq_f 80 97 C dX1_takeTop_80 (by decide) (by decide) ?_
    refine r_aload_n 83 0 C dX1_takeTop_83 rfl ?_
    refine r_get 84 C dX1_takeTop_84 (k := 0) 1 rfl rfl hiX1 (by decide) rfl (mg 1 rfl) (Or.inl rfl) rfl ?_
    refine r_sipush 87 262 C dX1_takeTop_87 (by decide) ?_
    refine r_callVi 90 C dX1_takeTop_90 [.ref h0] [(h3, .inl (gI g, 6, .inl fn0)), (h1, .inr (2, [.ref h4, .int 0, .int 0, .ref h2, .ref h3, .ref h5])), (h2, .inl (gI g, 6, .inl f1))] [(h0, .inr (1, [.ref h1, .ref h6, .ref h7, .int 1, .long 0, .long 9223372036854775807, .int 0, .int 0, .long 0, .long 0]))] (fun sz => c91_X2_first l g h1 h3 h2 fn0 h4 h5 f1 sz) gX1_takeTop_X2_first rfl ⟨rfl, rfl⟩ 1 (by decide) ⟨Nat.le_of_ble_eq_true rfl, Nat.le_of_ble_eq_true rfl⟩ 2 rfl rfl [0, 2, 3] [1] rfl rfl (by decide) (by decide) (by decide) rfl rfl (Nat.le_of_ble_eq_true rfl) ⟨Nat.le_of_ble_eq_true rfl, Nat.le_of_ble_eq_true rfl⟩ (fun r433 _ w434 => ?_)
    refine r_ws [(h0, .inr (1, [.ref h1, .ref h6, .ref h7, .int 1, .long 0, .long 9223372036854775807, .int 0, .int 0, .long 0, .long 0])), (h3, .inl (gI g, 6, .inl fn0)), (h1, .inr (2, [.ref h4, .int 0, .int 0, .ref h2, .ref h3, .ref h5])), (h2, .inl (gI g, 6, .inl f1))] rfl ?_
    refine r_iconst 93 2 C dX1_takeTop_93 (by decide) ?_
    refine r_icmp_ne 94 101 C dX1_takeTop_94 (by decide) (fun c435 => ?_) (fun c435 => ?_)
    · skip
      have k436 : ¬ ((Int32.toInt r433) = 2) := fun h_9 => c435 ((fa_eq r433 2).mpr h_9)
      refine r_iconst 101 0 C dX1_takeTop_101 (by decide) ?_
      refine r_callVv 102 C dX1_takeTop_102 [] [(h0, .inr (1, [.ref h1, .ref h6, .ref h7, .int 1, .long 0, .long 9223372036854775807, .int 0, .int 0, .long 0, .long 0]))] [(h3, .inl (gI g, 6, .inl fn0)), (h1, .inr (2, [.ref h4, .int 0, .int 0, .ref h2, .ref h3, .ref h5])), (h2, .inl (gI g, 6, .inl f1))] (fun sz => c69_X1_want l g h0 h1 h6 h7 sz) gX1_takeTop_X1_want rfl ⟨rfl, rfl⟩ 1 (by decide) ⟨Nat.le_of_ble_eq_true rfl, Nat.le_of_ble_eq_true rfl⟩ 0 rfl rfl [0] [1, 2, 3] rfl rfl (by decide) (by decide) (by decide) rfl rfl (Nat.le_of_ble_eq_true rfl) ⟨Nat.le_of_ble_eq_true rfl, Nat.le_of_ble_eq_true rfl⟩ (fun  _ w437 => ?_)
      refine r_ws [(h3, .inl (gI g, 6, .inl fn0)), (h1, .inr (2, [.ref h4, .int 0, .int 0, .ref h2, .ref h3, .ref h5])), (h2, .inl (gI g, 6, .inl f1)), (h0, .inr (1, [.ref h1, .ref h6, .ref h7, .int 1, .long 0, .long 9223372036854775807, .int 0, .int 0, .long 0, .long 0]))] rfl ?_
      exact r_vret 105 Rt dX1_takeTop_105 f1 trivial [1, 2, 0, 3] (by decide) rfl (Nat.le_of_ble_eq_true rfl) (Nat.le_of_ble_eq_true rfl)
    · skip
      have k438 : (Int32.toInt r433) = 2 := (fa_eq r433 2).mp c435
      refine r_iconst 97 1 C dX1_takeTop_97 (by decide) ?_
      refine r_goto 98 102 C dX1_takeTop_98 (by decide) ?_
      refine r_callVv 102 C dX1_takeTop_102 [] [] [(h0, .inr (1, [.ref h1, .ref h6, .ref h7, .int 1, .long 0, .long 9223372036854775807, .int 0, .int 0, .long 0, .long 0])), (h3, .inl (gI g, 6, .inl fn0)), (h1, .inr (2, [.ref h4, .int 0, .int 0, .ref h2, .ref h3, .ref h5])), (h2, .inl (gI g, 6, .inl f1))] (fun sz => c77_X1_want l g h0 sz) gX1_takeTop_X1_want rfl ⟨rfl, rfl⟩ 1 (by decide) ⟨Nat.le_of_ble_eq_true rfl, Nat.le_of_ble_eq_true rfl⟩ 0 rfl rfl [] [0, 1, 2, 3] rfl rfl (by decide) (by decide) (by decide) rfl rfl (Nat.le_of_ble_eq_true rfl) ⟨Nat.le_of_ble_eq_true rfl, Nat.le_of_ble_eq_true rfl⟩ (fun  _ w439 => ?_)
      refine r_ws [(h0, .inr (1, [.ref h1, .ref h6, .ref h7, .int 1, .long 0, .long 9223372036854775807, .int 0, .int 0, .long 0, .long 0])), (h3, .inl (gI g, 6, .inl fn0)), (h1, .inr (2, [.ref h4, .int 0, .int 0, .ref h2, .ref h3, .ref h5])), (h2, .inl (gI g, 6, .inl f1))] rfl ?_
      exact r_vret 105 Rt dX1_takeTop_105 f1 trivial [2, 3, 1, 0] (by decide) rfl (Nat.le_of_ble_eq_true rfl) (Nat.le_of_ble_eq_true rfl)
  obtain rfl := w417
  refine r_callVv 66 C dX1_takeTop_66 [] [] [(h3, .inl (gI g, 6, .inl fn0)), (h0, .inr (1, [.ref h1, .ref h6, .ref h7, .int 1, .long 0, .long 9223372036854775807, .int 0, .int 0, .long 0, .long 0])), (h1, .inr (2, [.ref h4, .int 0, .int 0, .ref h2, .ref h3, .ref h5])), (h2, .inl (gI g, 6, .inl f1))] (fun sz => c77_X1_want l g h0 sz) gX1_takeTop_X1_want rfl ⟨rfl, rfl⟩ 1 (by decide) ⟨Nat.le_of_ble_eq_true rfl, Nat.le_of_ble_eq_true rfl⟩ 1 rfl rfl [] [0, 1, 2, 3] rfl rfl (by decide) (by decide) (by decide) rfl rfl (Nat.le_of_ble_eq_true rfl) ⟨Nat.le_of_ble_eq_true rfl, Nat.le_of_ble_eq_true rfl⟩ (fun  _ w440 => ?_)
  refine r_ws [(h3, .inl (gI g, 6, .inl fn0)), (h0, .inr (1, [.ref h1, .ref h6, .ref h7, .int 1, .long 0, .long 9223372036854775807, .int 0, .int 0, .long 0, .long 0])), (h1, .inr (2, [.ref h4, .int 0, .int 0, .ref h2, .ref h3, .ref h5])), (h2, .inl (gI g, 6, .inl f1))] rfl ?_
  refine r_aload_n 69 0 C dX1_takeTop_69 rfl ?_
  refine r_aload_n 70 0 C dX1_takeTop_70 rfl ?_
  refine r_get 71 C dX1_takeTop_71 (k := 0) 1 rfl rfl hiX1 (by decide) rfl (mg 1 rfl) (Or.inl rfl) rfl ?_
  refine r_sipush 74 262 C dX1_takeTop_74 (by decide) ?_
  refine r_callVi 77 C dX1_takeTop_77 [.ref h0] [(h1, .inr (2, [.ref h4, .int 0, .int 0, .ref h2, .ref h3, .ref h5])), (h2, .inl (gI g, 6, .inl f1))] [(h3, .inl (gI g, 6, .inl fn0)), (h0, .inr (1, [.ref h1, .ref h6, .ref h7, .int 1, .long 0, .long 9223372036854775807, .int 0, .int 0, .long 0, .long 0]))] (fun sz => c90_X2_isTold l g h1 h2 h4 h3 h5 f1 sz) gX1_takeTop_X2_isTold rfl ⟨rfl, rfl⟩ 1 (by decide) ⟨Nat.le_of_ble_eq_true rfl, Nat.le_of_ble_eq_true rfl⟩ 2 rfl rfl [2, 3] [0, 1] rfl rfl (by decide) (by decide) (by decide) rfl rfl (Nat.le_of_ble_eq_true rfl) ⟨Nat.le_of_ble_eq_true rfl, Nat.le_of_ble_eq_true rfl⟩ (fun r441 _ w442 => ?_)
  refine r_ws [(h3, .inl (gI g, 6, .inl fn0)), (h0, .inr (1, [.ref h1, .ref h6, .ref h7, .int 1, .long 0, .long 9223372036854775807, .int 0, .int 0, .long 0, .long 0])), (h1, .inr (2, [.ref h4, .int 0, .int 0, .ref h2, .ref h3, .ref h5])), (h2, .inl (gI g, 6, .inl f1))] rfl ?_
  rcases w442 with rfl | w442
  · skip
    refine r_if_eq_t 80 97 C dX1_takeTop_80 (by decide) (by decide) ?_
    refine r_iconst 97 1 C dX1_takeTop_97 (by decide) ?_
    refine r_goto 98 102 C dX1_takeTop_98 (by decide) ?_
    refine r_callVv 102 C dX1_takeTop_102 [] [] [(h3, .inl (gI g, 6, .inl fn0)), (h0, .inr (1, [.ref h1, .ref h6, .ref h7, .int 1, .long 0, .long 9223372036854775807, .int 0, .int 0, .long 0, .long 0])), (h1, .inr (2, [.ref h4, .int 0, .int 0, .ref h2, .ref h3, .ref h5])), (h2, .inl (gI g, 6, .inl f1))] (fun sz => c77_X1_want l g h0 sz) gX1_takeTop_X1_want rfl ⟨rfl, rfl⟩ 1 (by decide) ⟨Nat.le_of_ble_eq_true rfl, Nat.le_of_ble_eq_true rfl⟩ 1 rfl rfl [] [0, 1, 2, 3] rfl rfl (by decide) (by decide) (by decide) rfl rfl (Nat.le_of_ble_eq_true rfl) ⟨Nat.le_of_ble_eq_true rfl, Nat.le_of_ble_eq_true rfl⟩ (fun  _ w443 => ?_)
    refine r_ws [(h3, .inl (gI g, 6, .inl fn0)), (h0, .inr (1, [.ref h1, .ref h6, .ref h7, .int 1, .long 0, .long 9223372036854775807, .int 0, .int 0, .long 0, .long 0])), (h1, .inr (2, [.ref h4, .int 0, .int 0, .ref h2, .ref h3, .ref h5])), (h2, .inl (gI g, 6, .inl f1))] rfl ?_
    exact r_vret 105 Rt dX1_takeTop_105 f1 trivial [2, 3, 0, 1] (by decide) rfl (Nat.le_of_ble_eq_true rfl) (Nat.le_of_ble_eq_true rfl)
  obtain rfl := w442
  refine r_if_eq_f 80 97 C dX1_takeTop_80 (by decide) (by decide) ?_
  refine r_aload_n 83 0 C dX1_takeTop_83 rfl ?_
  refine r_get 84 C dX1_takeTop_84 (k := 0) 1 rfl rfl hiX1 (by decide) rfl (mg 1 rfl) (Or.inl rfl) rfl ?_
  refine r_sipush 87 262 C dX1_takeTop_87 (by decide) ?_
  refine r_callVi 90 C dX1_takeTop_90 [.ref h0] [(h3, .inl (gI g, 6, .inl fn0)), (h1, .inr (2, [.ref h4, .int 0, .int 0, .ref h2, .ref h3, .ref h5])), (h2, .inl (gI g, 6, .inl f1))] [(h0, .inr (1, [.ref h1, .ref h6, .ref h7, .int 1, .long 0, .long 9223372036854775807, .int 0, .int 0, .long 0, .long 0]))] (fun sz => c91_X2_first l g h1 h3 h2 fn0 h4 h5 f1 sz) gX1_takeTop_X2_first rfl ⟨rfl, rfl⟩ 1 (by decide) ⟨Nat.le_of_ble_eq_true rfl, Nat.le_of_ble_eq_true rfl⟩ 2 rfl rfl [0, 2, 3] [1] rfl rfl (by decide) (by decide) (by decide) rfl rfl (Nat.le_of_ble_eq_true rfl) ⟨Nat.le_of_ble_eq_true rfl, Nat.le_of_ble_eq_true rfl⟩ (fun r444 _ w445 => ?_)
  refine r_ws [(h0, .inr (1, [.ref h1, .ref h6, .ref h7, .int 1, .long 0, .long 9223372036854775807, .int 0, .int 0, .long 0, .long 0])), (h3, .inl (gI g, 6, .inl fn0)), (h1, .inr (2, [.ref h4, .int 0, .int 0, .ref h2, .ref h3, .ref h5])), (h2, .inl (gI g, 6, .inl f1))] rfl ?_
  refine r_iconst 93 2 C dX1_takeTop_93 (by decide) ?_
  refine r_icmp_ne 94 101 C dX1_takeTop_94 (by decide) (fun c446 => ?_) (fun c446 => ?_)
  · skip
    have k447 : ¬ ((Int32.toInt r444) = 2) := fun h_9 => c446 ((fa_eq r444 2).mpr h_9)
    refine r_iconst 101 0 C dX1_takeTop_101 (by decide) ?_
    refine r_callVv 102 C dX1_takeTop_102 [] [(h0, .inr (1, [.ref h1, .ref h6, .ref h7, .int 1, .long 0, .long 9223372036854775807, .int 0, .int 0, .long 0, .long 0]))] [(h3, .inl (gI g, 6, .inl fn0)), (h1, .inr (2, [.ref h4, .int 0, .int 0, .ref h2, .ref h3, .ref h5])), (h2, .inl (gI g, 6, .inl f1))] (fun sz => c69_X1_want l g h0 h1 h6 h7 sz) gX1_takeTop_X1_want rfl ⟨rfl, rfl⟩ 1 (by decide) ⟨Nat.le_of_ble_eq_true rfl, Nat.le_of_ble_eq_true rfl⟩ 0 rfl rfl [0] [1, 2, 3] rfl rfl (by decide) (by decide) (by decide) rfl rfl (Nat.le_of_ble_eq_true rfl) ⟨Nat.le_of_ble_eq_true rfl, Nat.le_of_ble_eq_true rfl⟩ (fun  _ w448 => ?_)
    refine r_ws [(h3, .inl (gI g, 6, .inl fn0)), (h1, .inr (2, [.ref h4, .int 0, .int 0, .ref h2, .ref h3, .ref h5])), (h2, .inl (gI g, 6, .inl f1)), (h0, .inr (1, [.ref h1, .ref h6, .ref h7, .int 1, .long 0, .long 9223372036854775807, .int 0, .int 0, .long 0, .long 0]))] rfl ?_
    exact r_vret 105 Rt dX1_takeTop_105 f1 trivial [1, 2, 0, 3] (by decide) rfl (Nat.le_of_ble_eq_true rfl) (Nat.le_of_ble_eq_true rfl)
  · skip
    have k449 : (Int32.toInt r444) = 2 := (fa_eq r444 2).mp c446
    refine r_iconst 97 1 C dX1_takeTop_97 (by decide) ?_
    refine r_goto 98 102 C dX1_takeTop_98 (by decide) ?_
    refine r_callVv 102 C dX1_takeTop_102 [] [] [(h0, .inr (1, [.ref h1, .ref h6, .ref h7, .int 1, .long 0, .long 9223372036854775807, .int 0, .int 0, .long 0, .long 0])), (h3, .inl (gI g, 6, .inl fn0)), (h1, .inr (2, [.ref h4, .int 0, .int 0, .ref h2, .ref h3, .ref h5])), (h2, .inl (gI g, 6, .inl f1))] (fun sz => c77_X1_want l g h0 sz) gX1_takeTop_X1_want rfl ⟨rfl, rfl⟩ 1 (by decide) ⟨Nat.le_of_ble_eq_true rfl, Nat.le_of_ble_eq_true rfl⟩ 0 rfl rfl [] [0, 1, 2, 3] rfl rfl (by decide) (by decide) (by decide) rfl rfl (Nat.le_of_ble_eq_true rfl) ⟨Nat.le_of_ble_eq_true rfl, Nat.le_of_ble_eq_true rfl⟩ (fun  _ w450 => ?_)
    refine r_ws [(h0, .inr (1, [.ref h1, .ref h6, .ref h7, .int 1, .long 0, .long 9223372036854775807, .int 0, .int 0, .long 0, .long 0])), (h3, .inl (gI g, 6, .inl fn0)), (h1, .inr (2, [.ref h4, .int 0, .int 0, .ref h2, .ref h3, .ref h5])), (h2, .inl (gI g, 6, .inl f1))] rfl ?_
    exact r_vret 105 Rt dX1_takeTop_105 f1 trivial [2, 3, 1, 0] (by decide) rfl (Nat.le_of_ble_eq_true rfl) (Nat.le_of_ble_eq_true rfl)
