set_option maxHeartbeats 4000000 in
set_option maxRecDepth 100000 in
theorem c58_X8_layIndex (l : Launch) (g : GD) (h0 : Nat) (x0 : Int32) (x1 : Int32) (x2 : Int32) (h1 : Nat) (h2 : Nat) (h3 : Nat) (x3 : Int32) (x4 : Int32) (x5 : Int32) (sz : Nat) : Met l yX8_layIndex wsX8_layIndex ({ frames := 0, cells := 0, slots := 0, locals := 0 }) (va_Pc [.ref h0, .int x0, .int x1, .int x2] (PW g [(h0, .inr (7, [.ref h1, .ref h2, .ref h3, .int x3, .int x4, .int x5]))] sz)) (va_Qv (fun (_ : Unit) => True) (BW g (va_A [(h0, .inr (7, [.ref h1, .ref h2, .ref h3, .int x3, .int x4, .int x5]))] sz) (fun _ : Unit => [(h0, .inr (7, [.ref h1, .ref h2, .ref h3, .int x0, .int x1, .int x2]))])) (va_A [(h0, .inr (7, [.ref h1, .ref h2, .ref h3, .int x3, .int x4, .int x5]))] sz)) 0 0 (va_A [(h0, .inr (7, [.ref h1, .ref h2, .ref h3, .int x3, .int x4, .int x5]))] sz) := by
  refine met_v RX8 (by decide) rfl rfl (Nat.le_of_ble_eq_true rfl) [(0, .ref h0), (1, .int x0), (2, .int x1), (3, .int x2)] rfl ?_
  intro p e s m args below meth c A Q C hnm Rt
  have hiX8 : ∀ w ∈ wsX80, w ∈ wsX8_layIndex := fun w h => List.mem_cons_of_mem _ (List.mem_append_right _ (h))
  refine r_aload_n 0 0 C dX8_layIndex_0 rfl ?_
  refine r_iload_n 1 1 C dX8_layIndex_1 rfl ?_
  refine r_put 2 C dX8_layIndex_2 (k := 3) 0 rfl rfl hiX8 tyX8 tyX8_ok nmX8 (by decide) rfl (mg 1 rfl) (Or.inl rfl) rfl rfl rfl rfl (Nat.le_of_ble_eq_true rfl) [(h0, .inr (7, [.ref h1, .ref h2, .ref h3, .int x0, .int x4, .int x5]))] rfl ?_
  refine r_aload_n 5 0 C dX8_layIndex_5 rfl ?_
  refine r_iload_n 6 2 C dX8_layIndex_6 rfl ?_
  refine r_put 7 C dX8_layIndex_7 (k := 4) 0 rfl rfl hiX8 tyX8 tyX8_ok nmX8 (by decide) rfl (mg 2 rfl) (Or.inl rfl) rfl rfl rfl rfl (Nat.le_of_ble_eq_true rfl) [(h0, .inr (7, [.ref h1, .ref h2, .ref h3, .int x0, .int x1, .int x5]))] rfl ?_
  refine r_aload_n 10 0 C dX8_layIndex_10 rfl ?_
  refine r_iload_n 11 3 C dX8_layIndex_11 rfl ?_
  refine r_put 12 C dX8_layIndex_12 (k := 5) 0 rfl rfl hiX8 tyX8 tyX8_ok nmX8 (by decide) rfl (mg 3 rfl) (Or.inl rfl) rfl rfl rfl rfl (Nat.le_of_ble_eq_true rfl) [(h0, .inr (7, [.ref h1, .ref h2, .ref h3, .int x0, .int x1, .int x2]))] rfl ?_
  exact r_vret 15 Rt dX8_layIndex_15 () trivial [0] (by decide) rfl (Nat.le_of_ble_eq_true rfl) (Nat.le_of_ble_eq_true rfl)
set_option maxHeartbeats 4000000 in
set_option maxRecDepth 100000 in
theorem c59_X1_shelve (l : Launch) (g : GD) (h0 : Nat) (h1 : Nat) (h2 : Nat) (h3 : Nat) (h4 : Nat) (x0 : Int32) (y0 : Int64) (y1 : Int64) (x1 : Int32) (x2 : Int32) (y2 : Int64) (y3 : Int64) (h5 : Nat) (h6 : Nat) (x3 : Int32) (x4 : Int32) (x5 : Int32) (i_x1 : (-257 ≤ (Int32.toInt x1) ∧ (Int32.toInt x1) ≤ 65535)) (sz : Nat) : Met l yX1_shelve wsX1_shelve ({ frames := 1, cells := 0, slots := 0, locals := 23 }) (va_Pc [.ref h0, .ref h1] (PW g [(h0, .inr (1, [.ref h2, .ref h3, .ref h4, .int x0, .long y0, .long y1, .int x1, .int x2, .long y2, .long y3])), (h1, .inr (7, [.ref h4, .ref h5, .ref h6, .int x3, .int x4, .int x5]))] sz)) (va_Qv (fun (u : (Int32) × (Int32) × (Int32)) => True) (BW g (va_A [(h0, .inr (1, [.ref h2, .ref h3, .ref h4, .int x0, .long y0, .long y1, .int x1, .int x2, .long y2, .long y3])), (h1, .inr (7, [.ref h4, .ref h5, .ref h6, .int x3, .int x4, .int x5]))] sz) (fun u : (Int32) × (Int32) × (Int32) => [(h0, .inr (1, [.ref h2, .ref h3, .ref h4, .int x0, .long y0, .long y1, .int x1, .int x2, .long y2, .long y3])), (h1, .inr (7, [.ref h4, .ref h5, .ref h6, .int u.1, .int u.2.1, .int u.2.2]))])) (va_A [(h0, .inr (1, [.ref h2, .ref h3, .ref h4, .int x0, .long y0, .long y1, .int x1, .int x2, .long y2, .long y3])), (h1, .inr (7, [.ref h4, .ref h5, .ref h6, .int x3, .int x4, .int x5]))] sz)) 0 0 (va_A [(h0, .inr (1, [.ref h2, .ref h3, .ref h4, .int x0, .long y0, .long y1, .int x1, .int x2, .long y2, .long y3])), (h1, .inr (7, [.ref h4, .ref h5, .ref h6, .int x3, .int x4, .int x5]))] sz) := by
  refine met_v RX1 (by decide) rfl rfl (Nat.le_of_ble_eq_true rfl) [(0, .ref h0), (1, .ref h1)] rfl ?_
  intro p e s m args below meth c A Q C hnm Rt
  have gx0 := fb_rng x0
  have hiX1 : ∀ w ∈ wsX10, w ∈ wsX1_shelve := fun w h => List.mem_cons_of_mem _ (List.mem_append_left _ (List.mem_append_right _ (h)))
  refine r_aload_n 0 0 C dX1_shelve_0 rfl ?_
  refine r_get 1 C dX1_shelve_1 (k := 3) 0 rfl rfl hiX1 (by decide) rfl (mg 1 rfl) (Or.inl rfl) rfl ?_
  refine r_if_ne 4 31 C dX1_shelve_4 (by decide) (fun c1 => ?_) (fun c1 => ?_)
  · skip
    have k2 : ¬ ((Int32.toInt x0) = 0) := fun h_9 => c1 ((fa_eq x0 0).mpr h_9)
    exact r_vret 31 Rt dX1_shelve_31 (x3, x4, x5) trivial [0, 1] (by decide) rfl (Nat.le_of_ble_eq_true rfl) (Nat.le_of_ble_eq_true rfl)
  · skip
    have k3 : (Int32.toInt x0) = 0 := (fa_eq x0 0).mp c1
    refine r_aload_n 7 0 C dX1_shelve_7 rfl ?_
    refine r_get 8 C dX1_shelve_8 (k := 6) 0 rfl rfl hiX1 (by decide) rfl (mg 2 rfl) (Or.inl rfl) rfl ?_
    refine r_if_le 11 31 C dX1_shelve_11 (by decide) (fun c4 => ?_) (fun c4 => ?_)
    · skip
      have k5 : (Int32.toInt x1) ≤ 0 := (fa_le x1 0).mp c4
      exact r_vret 31 Rt dX1_shelve_31 (x3, x4, x5) trivial [0, 1] (by decide) rfl (Nat.le_of_ble_eq_true rfl) (Nat.le_of_ble_eq_true rfl)
    · skip
      have k6 : ¬ ((Int32.toInt x1) ≤ 0) := fun h_9 => c4 ((fa_le x1 0).mpr h_9)
      refine r_aload_n 14 1 C dX1_shelve_14 rfl ?_
      refine r_aload_n 15 0 C dX1_shelve_15 rfl ?_
      refine r_get 16 C dX1_shelve_16 (k := 6) 0 rfl rfl hiX1 (by decide) rfl (mg 2 rfl) (Or.inl rfl) rfl ?_
      refine r_aload_n 19 0 C dX1_shelve_19 rfl ?_
      refine r_get 20 C dX1_shelve_20 (k := 8) 0 rfl rfl hiX1 (by decide) rfl (mg 3 rfl) (Or.inl rfl) rfl ?_
      obtain ⟨z7, ez7⟩ : ∃ z_9, Int64.toInt32 y2 = z_9 := ⟨_, rfl⟩
      have gz7 := fb_rng z7
      refine r_l2i 23 z7 C dX1_shelve_23 ez7 ?_
      refine r_aload_n 24 0 C dX1_shelve_24 rfl ?_
      refine r_get 25 C dX1_shelve_25 (k := 7) 0 rfl rfl hiX1 (by decide) rfl (mg 4 rfl) (Or.inl rfl) rfl ?_
      refine r_callVv 28 C dX1_shelve_28 [] [(h1, .inr (7, [.ref h4, .ref h5, .ref h6, .int x3, .int x4, .int x5]))] [(h0, .inr (1, [.ref h2, .ref h3, .ref h4, .int x0, .long y0, .long y1, .int x1, .int x2, .long y2, .long y3]))] (fun sz => c58_X8_layIndex l g h1 x1 z7 x2 h4 h5 h6 x3 x4 x5  sz) gX1_shelve_X8_layIndex rfl ⟨rfl, rfl⟩ 3 (by decide) ⟨Nat.le_of_ble_eq_true rfl, Nat.le_of_ble_eq_true rfl⟩ 1 rfl rfl [1] [0] rfl rfl (by decide) (by decide) (by decide) rfl rfl (Nat.le_of_ble_eq_true rfl) ⟨Nat.le_of_ble_eq_true rfl, Nat.le_of_ble_eq_true rfl⟩ (fun  _ w8 => ?_)
      refine r_ws [(h0, .inr (1, [.ref h2, .ref h3, .ref h4, .int x0, .long y0, .long y1, .int x1, .int x2, .long y2, .long y3])), (h1, .inr (7, [.ref h4, .ref h5, .ref h6, .int x1, .int z7, .int x2]))] rfl ?_
      exact r_vret 31 Rt dX1_shelve_31 (x1, z7, x2) trivial [0, 1] (by decide) rfl (Nat.le_of_ble_eq_true rfl) (Nat.le_of_ble_eq_true rfl)
set_option maxHeartbeats 4000000 in
set_option maxRecDepth 100000 in
theorem c60_J7_fill_53178 (l : Launch) (g : GD) (h0 : Nat) (fn0 : Nat → Int32) (sz : Nat) : Met l yJ7_fill_53178 wsJ7_fill_53178 ({ frames := 0, cells := 0, slots := 0, locals := 0 }) (va_Pc [.ref h0, .int (-1)] (PW g [(h0, .inl (gI g, 6, .inl fn0))] sz)) (va_Qv (fun (u : (Nat → Int32)) => True) (BW g (va_A [(h0, .inl (gI g, 6, .inl fn0))] sz) (fun u : (Nat → Int32) => [(h0, .inl (gI g, 6, .inl u))])) (va_A [(h0, .inl (gI g, 6, .inl fn0))] sz)) 0 0 (va_A [(h0, .inl (gI g, 6, .inl fn0))] sz) := by
  refine met_v RJ7 (by decide) rfl rfl (Nat.le_of_ble_eq_true rfl) [(0, .ref h0), (1, .int (-1))] rfl ?_
  intro p e s m args below meth c A Q C hnm Rt
  refine r_iconst 0 0 C dJ7_fill_53178_0 (by decide) ?_
  refine r_istore_n 1 C dJ7_fill_53178_1 [(2, .int 0), (0, .ref h0), (1, .int (-1))] (by decide) rfl ?_
  refine r_aload_n 2 1 C dJ7_fill_53178_2 rfl ?_
  refine r_ialen 3 6 C dJ7_fill_53178_3 0 rfl (by decide) ?_
  refine r_istore_n 4 C dJ7_fill_53178_4 [(3, .int 6), (2, .int 0), (0, .ref h0), (1, .int (-1))] (by decide) rfl ?_
  have lp4 : ∀ (n3 : Nat) (z1 : Int32) (f2 : Nat → Int32), (0 ≤ (Int32.toInt z1) ∧ (Int32.toInt z1) ≤ 6) → Int.toNat (6 - (Int32.toInt z1)) < n3 → WW p l e ({ frames := 0, cells := 0, slots := 0, locals := 0 } : Room) s m args below meth c A Q g 4 0 0 [(h0, .inl (gI g, 6, .inl f2))] 5 [(3, .int 6), (2, .int z1), (0, .ref h0), (1, .int (-1))] [] := by
    intro n3
    induction n3 with
    | zero => intro z1 f2 i7 hm6; exact absurd hm6 (Nat.not_lt_zero _)
    | succ n3 ih5 =>
      intro z1 f2 i7 hm6
      obtain ⟨i7a, i7b⟩ := i7
      refine r_iload_n 5 1 C dJ7_fill_53178_5 rfl ?_
      refine r_iload_n 6 0 C dJ7_fill_53178_6 rfl ?_
      refine r_icmp_ge 7 20 C dJ7_fill_53178_7 (by decide) (fun c8 => ?_) (fun c8 => ?_)
      · skip
        have k9 : 6 ≤ (Int32.toInt z1) := (fa_le 6 z1).mp c8
        exact r_vret 20 Rt dJ7_fill_53178_20 f2 trivial [0] (by decide) rfl (Nat.le_of_ble_eq_true rfl) (Nat.le_of_ble_eq_true rfl)
      · skip
        have k10 : ¬ (6 ≤ (Int32.toInt z1)) := fun h_9 => c8 ((fa_le 6 z1).mpr h_9)
        refine r_aload_n 10 2 C dJ7_fill_53178_10 rfl ?_
        refine r_iload_n 11 1 C dJ7_fill_53178_11 rfl ?_
        refine r_iload_n 12 3 C dJ7_fill_53178_12 rfl ?_
        obtain ⟨f11, ef11⟩ : ∃ f_9, upd f2 (Int32.toNatClampNeg z1) (-1) = f_9 := ⟨_, rfl⟩
        refine r_iast 13 C dJ7_fill_53178_13 0 rfl (vinI (by omega) (by omega)) f11 ef11 [(h0, .inl (gI g, 6, .inl f11))] rfl ?_
        obtain ⟨z12, ez12⟩ : ∃ z_9, z1 + Int32.ofInt 1 = z_9 := ⟨_, rfl⟩
        have tz12 : (Int32.toInt z12) = (Int32.toInt z1) + 1 := by rw [← ez12]; exact fb_addIv (a := 0) (b := 6) (c := 1) (d := 1) ⟨i7a, i7b⟩ ⟨by decide, by decide⟩ (by decide) (by decide)
        refine r_iinc 14 1 z12 C dJ7_fill_53178_14 rfl ez12 [(2, .int z12), (3, .int 6), (0, .ref h0), (1, .int (-1))] (by decide) rfl ?_
        refine r_goto 17 5 C dJ7_fill_53178_17 (by decide) ?_
        refine r_lv [(3, .int 6), (2, .int z12), (0, .ref h0), (1, .int (-1))] [1, 0, 2, 3] rfl ?_
        exact ih5 z12 f11 ⟨by omega, by omega⟩ (by omega)
  exact lp4 _ 0 fn0 (by decide) (Nat.lt_succ_self _)
set_option maxHeartbeats 4000000 in
set_option maxRecDepth 100000 in
theorem c61_X2_clear (l : Launch) (g : GD) (h0 : Nat) (h1 : Nat) (h2 : Nat) (x0 : Int32) (x1 : Int32) (h3 : Nat) (h4 : Nat) (fn0 : Nat → Int32) (i_x0 : (0 ≤ (Int32.toInt x0) ∧ (Int32.toInt x0) ≤ 48)) (i_x1 : (0 ≤ (Int32.toInt x1) ∧ (Int32.toInt x1) ≤ 1)) (sz : Nat) : Met l yX2_clear wsX2_clear ({ frames := 1, cells := 0, slots := 0, locals := 23 }) (va_Pc [.ref h0] (PW g [(h0, .inr (2, [.ref h2, .int x0, .int x1, .ref h1, .ref h3, .ref h4])), (h1, .inl (gI g, 6, .inl fn0))] sz)) (va_Qv (fun (u : (Nat → Int32)) => True) (BW g (va_A [(h0, .inr (2, [.ref h2, .int x0, .int x1, .ref h1, .ref h3, .ref h4])), (h1, .inl (gI g, 6, .inl fn0))] sz) (fun u : (Nat → Int32) => [(h0, .inr (2, [.ref h2, .int 0, .int 0, .ref h1, .ref h3, .ref h4])), (h1, .inl (gI g, 6, .inl u))])) (va_A [(h0, .inr (2, [.ref h2, .int x0, .int x1, .ref h1, .ref h3, .ref h4])), (h1, .inl (gI g, 6, .inl fn0))] sz)) 0 0 (va_A [(h0, .inr (2, [.ref h2, .int x0, .int x1, .ref h1, .ref h3, .ref h4])), (h1, .inl (gI g, 6, .inl fn0))] sz) := by
  refine met_v RX2 (by decide) rfl rfl (Nat.le_of_ble_eq_true rfl) [(0, .ref h0)] rfl ?_
  intro p e s m args below meth c A Q C hnm Rt
  have hiX2 : ∀ w ∈ wsX20, w ∈ wsX2_clear := fun w h => List.mem_cons_of_mem _ (List.mem_append_right _ (h))
  refine r_aload_n 0 0 C dX2_clear_0 rfl ?_
  refine r_iconst 1 0 C dX2_clear_1 (by decide) ?_
  refine r_put 2 C dX2_clear_2 (k := 1) 0 rfl rfl hiX2 tyX2 tyX2_ok nmX2 (by decide) rfl (mg 1 rfl) (Or.inl rfl) rfl rfl rfl rfl (Nat.le_of_ble_eq_true rfl) [(h0, .inr (2, [.ref h2, .int 0, .int x1, .ref h1, .ref h3, .ref h4])), (h1, .inl (gI g, 6, .inl fn0))] rfl ?_
  refine r_aload_n 5 0 C dX2_clear_5 rfl ?_
  refine r_iconst 6 0 C dX2_clear_6 (by decide) ?_
  refine r_put 7 C dX2_clear_7 (k := 2) 0 rfl rfl hiX2 tyX2 tyX2_ok nmX2 (by decide) rfl (mg 2 rfl) (Or.inl rfl) rfl rfl rfl rfl (Nat.le_of_ble_eq_true rfl) [(h0, .inr (2, [.ref h2, .int 0, .int 0, .ref h1, .ref h3, .ref h4])), (h1, .inl (gI g, 6, .inl fn0))] rfl ?_
  refine r_aload_n 10 0 C dX2_clear_10 rfl ?_
  refine r_get 11 C dX2_clear_11 (k := 3) 0 rfl rfl hiX2 (by decide) rfl (mg 3 rfl) (Or.inl rfl) rfl ?_
  refine r_iconst 14 (-1) C dX2_clear_14 (by decide) ?_
  refine r_callSv 15 C dX2_clear_15 [] [(h1, .inl (gI g, 6, .inl fn0))] [(h0, .inr (2, [.ref h2, .int 0, .int 0, .ref h1, .ref h3, .ref h4]))] (fun sz => c60_J7_fill_53178 l g h1 fn0  sz) gX2_clear_J7_fill_53178 rfl ⟨rfl, rfl⟩ 2 (by decide) ⟨Nat.le_of_ble_eq_true rfl, Nat.le_of_ble_eq_true rfl⟩ [1] [0] rfl rfl (by decide) (by decide) (by decide) rfl rfl (Nat.le_of_ble_eq_true rfl) ⟨Nat.le_of_ble_eq_true rfl, Nat.le_of_ble_eq_true rfl⟩ (fun  f1 w2 => ?_)
  refine r_ws [(h0, .inr (2, [.ref h2, .int 0, .int 0, .ref h1, .ref h3, .ref h4])), (h1, .inl (gI g, 6, .inl f1))] rfl ?_
  exact r_vret 18 Rt dX2_clear_18 f1 trivial [0, 1] (by decide) rfl (Nat.le_of_ble_eq_true rfl) (Nat.le_of_ble_eq_true rfl)
set_option maxHeartbeats 4000000 in
set_option maxRecDepth 100000 in
theorem c62_X2_isBetween (l : Launch) (g : GD) (h0 : Nat) (h1 : Nat) (x0 : Int32) (x1 : Int32) (h2 : Nat) (h3 : Nat) (h4 : Nat) (i_x0 : (0 ≤ (Int32.toInt x0) ∧ (Int32.toInt x0) ≤ 48)) (i_x1 : (0 ≤ (Int32.toInt x1) ∧ (Int32.toInt x1) ≤ 1)) (sz : Nat) : Met l yX2_isBetween wsX2_isBetween ({ frames := 0, cells := 0, slots := 0, locals := 0 }) (va_Pc [.ref h0] (PW g [(h0, .inr (2, [.ref h1, .int x0, .int x1, .ref h2, .ref h3, .ref h4]))] sz)) (va_Qi (fun (r : Int32) (_ : Unit) => 0 ≤ (Int32.toInt r) ∧ (Int32.toInt r) ≤ 1) (BW g (va_A [(h0, .inr (2, [.ref h1, .int x0, .int x1, .ref h2, .ref h3, .ref h4]))] sz) (fun _ : Unit => [(h0, .inr (2, [.ref h1, .int x0, .int x1, .ref h2, .ref h3, .ref h4]))])) (va_A [(h0, .inr (2, [.ref h1, .int x0, .int x1, .ref h2, .ref h3, .ref h4]))] sz)) 0 0 (va_A [(h0, .inr (2, [.ref h1, .int x0, .int x1, .ref h2, .ref h3, .ref h4]))] sz) := by
  refine met_z RX2 (by decide) rfl rfl (Nat.le_of_ble_eq_true rfl) [(0, .ref h0)] rfl ?_
  intro p e s m args below meth c A Q C hnm Rt
  have hiX2 : ∀ w ∈ wsX20, w ∈ wsX2_isBetween := fun w h => List.mem_cons_of_mem _ (List.mem_append_right _ (h))
  refine r_aload_n 0 0 C dX2_isBetween_0 rfl ?_
  refine r_get 1 C dX2_isBetween_1 (k := 1) 0 rfl rfl hiX2 (by decide) rfl (mg 1 rfl) (Or.inl rfl) rfl ?_
  refine r_if_ne 4 11 C dX2_isBetween_4 (by decide) (fun c1 => ?_) (fun c1 => ?_)
  · skip
    have k2 : ¬ ((Int32.toInt x0) = 0) := fun h_9 => c1 ((fa_eq x0 0).mpr h_9)
    refine r_iconst 11 0 C dX2_isBetween_11 (by decide) ?_
    exact r_zret 12 Rt dX2_isBetween_12 (by decide) () (show 0 ≤ (Int32.toInt 0) ∧ (Int32.toInt 0) ≤ 1 from ⟨(by ((repeat' apply And.intro) <;> first | trivial | rfl | assumption | omega | decide | exact Or.inl rfl | exact Or.inr (Or.inl rfl) | exact Or.inr (Or.inr rfl))), (by ((repeat' apply And.intro) <;> first | trivial | rfl | assumption | omega | decide | exact Or.inl rfl | exact Or.inr (Or.inl rfl) | exact Or.inr (Or.inr rfl)))⟩) [0] (by decide) rfl (Nat.le_of_ble_eq_true rfl) (Nat.le_of_ble_eq_true rfl)
  · skip
    have k3 : (Int32.toInt x0) = 0 := (fa_eq x0 0).mp c1
    refine r_iconst 7 1 C dX2_isBetween_7 (by decide) ?_
    refine r_goto 8 12 C dX2_isBetween_8 (by decide) ?_
    exact r_zret 12 Rt dX2_isBetween_12 (by decide) () (show 0 ≤ (Int32.toInt 1) ∧ (Int32.toInt 1) ≤ 1 from ⟨(by ((repeat' apply And.intro) <;> first | trivial | rfl | assumption | omega | decide | exact Or.inl rfl | exact Or.inr (Or.inl rfl) | exact Or.inr (Or.inr rfl))), (by ((repeat' apply And.intro) <;> first | trivial | rfl | assumption | omega | decide | exact Or.inl rfl | exact Or.inr (Or.inl rfl) | exact Or.inr (Or.inr rfl)))⟩) [0] (by decide) rfl (Nat.le_of_ble_eq_true rfl) (Nat.le_of_ble_eq_true rfl)
set_option maxHeartbeats 4000000 in
set_option maxRecDepth 100000 in
theorem c63_X2_isFull (l : Launch) (g : GD) (h0 : Nat) (h1 : Nat) (x0 : Int32) (x1 : Int32) (h2 : Nat) (h3 : Nat) (h4 : Nat) (i_x0 : (0 ≤ (Int32.toInt x0) ∧ (Int32.toInt x0) ≤ 48)) (i_x1 : (0 ≤ (Int32.toInt x1) ∧ (Int32.toInt x1) ≤ 1)) (sz : Nat) : Met l yX2_isFull wsX2_isFull ({ frames := 0, cells := 0, slots := 0, locals := 0 }) (va_Pc [.ref h0] (PW g [(h0, .inr (2, [.ref h1, .int x0, .int x1, .ref h2, .ref h3, .ref h4]))] sz)) (va_Qi (fun (r : Int32) (_ : Unit) => (((Int32.toInt x0) < 48 ∧ r = 0) ∨ (¬ ((Int32.toInt x0) < 48) ∧ r = 1))) (BW g (va_A [(h0, .inr (2, [.ref h1, .int x0, .int x1, .ref h2, .ref h3, .ref h4]))] sz) (fun _ : Unit => [(h0, .inr (2, [.ref h1, .int x0, .int x1, .ref h2, .ref h3, .ref h4]))])) (va_A [(h0, .inr (2, [.ref h1, .int x0, .int x1, .ref h2, .ref h3, .ref h4]))] sz)) 0 0 (va_A [(h0, .inr (2, [.ref h1, .int x0, .int x1, .ref h2, .ref h3, .ref h4]))] sz) := by
  refine met_z RX2 (by decide) rfl rfl (Nat.le_of_ble_eq_true rfl) [(0, .ref h0)] rfl ?_
  intro p e s m args below meth c A Q C hnm Rt
  have hiX2 : ∀ w ∈ wsX20, w ∈ wsX2_isFull := fun w h => List.mem_cons_of_mem _ (List.mem_append_right _ (h))
  refine r_aload_n 0 0 C dX2_isFull_0 rfl ?_
  refine r_get 1 C dX2_isFull_1 (k := 1) 0 rfl rfl hiX2 (by decide) rfl (mg 1 rfl) (Or.inl rfl) rfl ?_
  refine r_bipush 4 48 C dX2_isFull_4 (by decide) ?_
  refine r_icmp_lt 6 13 C dX2_isFull_6 (by decide) (fun c1 => ?_) (fun c1 => ?_)
  · skip
    have k2 : (Int32.toInt x0) < 48 := (fa_lt x0 48).mp c1
    refine r_iconst 13 0 C dX2_isFull_13 (by decide) ?_
    exact r_zret 14 Rt dX2_isFull_14 (by decide) () (show (((Int32.toInt x0) < 48 ∧ 0 = 0) ∨ (¬ ((Int32.toInt x0) < 48) ∧ 0 = 1)) from by refine Or.inl ?_ <;> ((repeat' apply And.intro) <;> first | trivial | rfl | assumption | omega | decide | exact Or.inl rfl | exact Or.inr (Or.inl rfl) | exact Or.inr (Or.inr rfl))) [0] (by decide) rfl (Nat.le_of_ble_eq_true rfl) (Nat.le_of_ble_eq_true rfl)
  · skip
    have k3 : ¬ ((Int32.toInt x0) < 48) := fun h_9 => c1 ((fa_lt x0 48).mpr h_9)
    refine r_iconst 9 1 C dX2_isFull_9 (by decide) ?_
    refine r_goto 10 14 C dX2_isFull_10 (by decide) ?_
    exact r_zret 14 Rt dX2_isFull_14 (by decide) () (show (((Int32.toInt x0) < 48 ∧ 1 = 0) ∨ (¬ ((Int32.toInt x0) < 48) ∧ 1 = 1)) from by refine Or.inr (?_) <;> ((repeat' apply And.intro) <;> first | trivial | rfl | assumption | omega | decide | exact Or.inl rfl | exact Or.inr (Or.inl rfl) | exact Or.inr (Or.inr rfl))) [0] (by decide) rfl (Nat.le_of_ble_eq_true rfl) (Nat.le_of_ble_eq_true rfl)
set_option maxHeartbeats 4000000 in
set_option maxRecDepth 100000 in
theorem c64_X1_isOperand (l : Launch) (g : GD) (x0 : Int32) (sz : Nat) : Met l yX1_isOperand wsX1_isOperand ({ frames := 0, cells := 0, slots := 0, locals := 0 }) (va_Pc [.int x0] (PW g [] sz)) (va_Qi (fun (r : Int32) (_ : Unit) => 0 ≤ (Int32.toInt r) ∧ (Int32.toInt r) ≤ 1) (BW g (va_A [] sz) (fun _ : Unit => [])) (va_A [] sz)) 0 0 (va_A [] sz) := by
  refine met_z RX1 (by decide) rfl rfl (Nat.le_of_ble_eq_true rfl) [(0, .int x0)] rfl ?_
  intro p e s m args below meth c A Q C hnm Rt
  have gx0 := fb_rng x0
  refine r_iload_n 0 0 C dX1_isOperand_0 rfl ?_
  refine r_bipush 1 28 C dX1_isOperand_1 (by decide) ?_
  refine r_icmp_lt 3 12 C dX1_isOperand_3 (by decide) (fun c1 => ?_) (fun c1 => ?_)
  · skip
    have k2 : (Int32.toInt x0) < 28 := (fa_lt x0 28).mp c1
    refine r_iload_n 12 0 C dX1_isOperand_12 rfl ?_
    refine r_bipush 13 32 C dX1_isOperand_13 (by decide) ?_
    refine r_icmp_lt_t 15 29 C dX1_isOperand_15 (by decide) ((fa_lt x0 32).mpr (by show (Int32.toInt x0) < 32; omega)) ?_
    refine r_iconst 29 0 C dX1_isOperand_29 (by decide) ?_
    exact r_zret 30 Rt dX1_isOperand_30 (by decide) () (show 0 ≤ (Int32.toInt 0) ∧ (Int32.toInt 0) ≤ 1 from ⟨(by ((repeat' apply And.intro) <;> first | trivial | rfl | assumption | omega | decide | exact Or.inl rfl | exact Or.inr (Or.inl rfl) | exact Or.inr (Or.inr rfl))), (by ((repeat' apply And.intro) <;> first | trivial | rfl | assumption | omega | decide | exact Or.inl rfl | exact Or.inr (Or.inl rfl) | exact Or.inr (Or.inr rfl)))⟩) [] (by decide) rfl (Nat.le_of_ble_eq_true rfl) (Nat.le_of_ble_eq_true rfl)
  · skip
    have k3 : ¬ ((Int32.toInt x0) < 28) := fun h_9 => c1 ((fa_lt x0 28).mpr h_9)
    refine r_iload_n 6 0 C dX1_isOperand_6 rfl ?_
    refine r_bipush 7 30 C dX1_isOperand_7 (by decide) ?_
    refine r_icmp_le 9 25 C dX1_isOperand_9 (by decide) (fun c4 => ?_) (fun c4 => ?_)
    · skip
      have k5 : (Int32.toInt x0) ≤ 30 := (fa_le x0 30).mp c4
      refine r_iconst 25 1 C dX1_isOperand_25 (by decide) ?_
      refine r_goto 26 30 C dX1_isOperand_26 (by decide) ?_
      exact r_zret 30 Rt dX1_isOperand_30 (by decide) () (show 0 ≤ (Int32.toInt 1) ∧ (Int32.toInt 1) ≤ 1 from ⟨(by ((repeat' apply And.intro) <;> first | trivial | rfl | assumption | omega | decide | exact Or.inl rfl | exact Or.inr (Or.inl rfl) | exact Or.inr (Or.inr rfl))), (by ((repeat' apply And.intro) <;> first | trivial | rfl | assumption | omega | decide | exact Or.inl rfl | exact Or.inr (Or.inl rfl) | exact Or.inr (Or.inr rfl)))⟩) [] (by decide) rfl (Nat.le_of_ble_eq_true rfl) (Nat.le_of_ble_eq_true rfl)
    · skip
      have k6 : ¬ ((Int32.toInt x0) ≤ 30) := fun h_9 => c4 ((fa_le x0 30).mpr h_9)
      refine r_iload_n 12 0 C dX1_isOperand_12 rfl ?_
      refine r_bipush 13 32 C dX1_isOperand_13 (by decide) ?_
      refine r_icmp_lt 15 29 C dX1_isOperand_15 (by decide) (fun c7 => ?_) (fun c7 => ?_)
      · skip
        have k8 : (Int32.toInt x0) < 32 := (fa_lt x0 32).mp c7
        refine r_iconst 29 0 C dX1_isOperand_29 (by decide) ?_
        exact r_zret 30 Rt dX1_isOperand_30 (by decide) () (show 0 ≤ (Int32.toInt 0) ∧ (Int32.toInt 0) ≤ 1 from ⟨(by ((repeat' apply And.intro) <;> first | trivial | rfl | assumption | omega | decide | exact Or.inl rfl | exact Or.inr (Or.inl rfl) | exact Or.inr (Or.inr rfl))), (by ((repeat' apply And.intro) <;> first | trivial | rfl | assumption | omega | decide | exact Or.inl rfl | exact Or.inr (Or.inl rfl) | exact Or.inr (Or.inr rfl)))⟩) [] (by decide) rfl (Nat.le_of_ble_eq_true rfl) (Nat.le_of_ble_eq_true rfl)
      · skip
        have k9 : ¬ ((Int32.toInt x0) < 32) := fun h_9 => c7 ((fa_lt x0 32).mpr h_9)
        refine r_iload_n 18 0 C dX1_isOperand_18 rfl ?_
        refine r_sipush 19 254 C dX1_isOperand_19 (by decide) ?_
        refine r_icmp_gt 22 29 C dX1_isOperand_22 (by decide) (fun c10 => ?_) (fun c10 => ?_)
        · skip
          have k11 : 254 < (Int32.toInt x0) := (fa_lt 254 x0).mp c10
          refine r_iconst 29 0 C dX1_isOperand_29 (by decide) ?_
          exact r_zret 30 Rt dX1_isOperand_30 (by decide) () (show 0 ≤ (Int32.toInt 0) ∧ (Int32.toInt 0) ≤ 1 from ⟨(by ((repeat' apply And.intro) <;> first | trivial | rfl | assumption | omega | decide | exact Or.inl rfl | exact Or.inr (Or.inl rfl) | exact Or.inr (Or.inr rfl))), (by ((repeat' apply And.intro) <;> first | trivial | rfl | assumption | omega | decide | exact Or.inl rfl | exact Or.inr (Or.inl rfl) | exact Or.inr (Or.inr rfl)))⟩) [] (by decide) rfl (Nat.le_of_ble_eq_true rfl) (Nat.le_of_ble_eq_true rfl)
        · skip
          have k12 : ¬ (254 < (Int32.toInt x0)) := fun h_9 => c10 ((fa_lt 254 x0).mpr h_9)
          refine r_iconst 25 1 C dX1_isOperand_25 (by decide) ?_
          refine r_goto 26 30 C dX1_isOperand_26 (by decide) ?_
          exact r_zret 30 Rt dX1_isOperand_30 (by decide) () (show 0 ≤ (Int32.toInt 1) ∧ (Int32.toInt 1) ≤ 1 from ⟨(by ((repeat' apply And.intro) <;> first | trivial | rfl | assumption | omega | decide | exact Or.inl rfl | exact Or.inr (Or.inl rfl) | exact Or.inr (Or.inr rfl))), (by ((repeat' apply And.intro) <;> first | trivial | rfl | assumption | omega | decide | exact Or.inl rfl | exact Or.inr (Or.inl rfl) | exact Or.inr (Or.inr rfl)))⟩) [] (by decide) rfl (Nat.le_of_ble_eq_true rfl) (Nat.le_of_ble_eq_true rfl)
set_option maxHeartbeats 4000000 in
set_option maxRecDepth 100000 in
theorem c65_X11_bytesBehind (l : Launch) (g : GD) (x0 : Int32) (sz : Nat) : Met l yX11_bytesBehind wsX11_bytesBehind ({ frames := 0, cells := 0, slots := 0, locals := 0 }) (va_Pc [.int x0] (PW g [] sz)) (va_Qi (fun (r : Int32) (_ : Unit) => 0 ≤ (Int32.toInt r) ∧ (Int32.toInt r) ≤ 4) (BW g (va_A [] sz) (fun _ : Unit => [])) (va_A [] sz)) 0 0 (va_A [] sz) := by
  refine met_i RX11 (by decide) rfl rfl (Nat.le_of_ble_eq_true rfl) [(0, .int x0)] rfl ?_
  intro p e s m args below meth c A Q C hnm Rt
  have gx0 := fb_rng x0
  refine r_iload_n 0 0 C dX11_bytesBehind_0 rfl ?_
  refine r_bipush 1 28 C dX11_bytesBehind_1 (by decide) ?_
  refine r_icmp_ne 3 8 C dX11_bytesBehind_3 (by decide) (fun c1 => ?_) (fun c1 => ?_)
  · skip
    have k2 : ¬ ((Int32.toInt x0) = 28) := fun h_9 => c1 ((fa_eq x0 28).mpr h_9)
    refine r_iload_n 8 0 C dX11_bytesBehind_8 rfl ?_
    refine r_bipush 9 29 C dX11_bytesBehind_9 (by decide) ?_
    refine r_icmp_eq 11 21 C dX11_bytesBehind_11 (by decide) (fun c3 => ?_) (fun c3 => ?_)
    · skip
      have k4 : (Int32.toInt x0) = 29 := (fa_eq x0 29).mp c3
      refine r_iconst 21 4 C dX11_bytesBehind_21 (by decide) ?_
      exact r_iret 22 Rt dX11_bytesBehind_22 () (show 0 ≤ (Int32.toInt 4) ∧ (Int32.toInt 4) ≤ 4 from ⟨(by ((repeat' apply And.intro) <;> first | trivial | rfl | assumption | omega | decide | exact Or.inl rfl | exact Or.inr (Or.inl rfl) | exact Or.inr (Or.inr rfl))), (by ((repeat' apply And.intro) <;> first | trivial | rfl | assumption | omega | decide | exact Or.inl rfl | exact Or.inr (Or.inl rfl) | exact Or.inr (Or.inr rfl)))⟩) [] (by decide) rfl (Nat.le_of_ble_eq_true rfl) (Nat.le_of_ble_eq_true rfl)
    · skip
      have k5 : ¬ ((Int32.toInt x0) = 29) := fun h_9 => c3 ((fa_eq x0 29).mpr h_9)
      refine r_iload_n 14 0 C dX11_bytesBehind_14 rfl ?_
      refine r_sipush 15 255 C dX11_bytesBehind_15 (by decide) ?_
      refine r_icmp_ne 18 23 C dX11_bytesBehind_18 (by decide) (fun c6 => ?_) (fun c6 => ?_)
      · skip
        have k7 : ¬ ((Int32.toInt x0) = 255) := fun h_9 => c6 ((fa_eq x0 255).mpr h_9)
        refine r_iload_n 23 0 C dX11_bytesBehind_23 rfl ?_
        refine r_sipush 24 247 C dX11_bytesBehind_24 (by decide) ?_
        refine r_icmp_lt 27 34 C dX11_bytesBehind_27 (by decide) (fun c8 => ?_) (fun c8 => ?_)
        · skip
          have k9 : (Int32.toInt x0) < 247 := (fa_lt x0 247).mp c8
          refine r_iconst 34 0 C dX11_bytesBehind_34 (by decide) ?_
          exact r_iret 35 Rt dX11_bytesBehind_35 () (show 0 ≤ (Int32.toInt 0) ∧ (Int32.toInt 0) ≤ 4 from ⟨(by ((repeat' apply And.intro) <;> first | trivial | rfl | assumption | omega | decide | exact Or.inl rfl | exact Or.inr (Or.inl rfl) | exact Or.inr (Or.inr rfl))), (by ((repeat' apply And.intro) <;> first | trivial | rfl | assumption | omega | decide | exact Or.inl rfl | exact Or.inr (Or.inl rfl) | exact Or.inr (Or.inr rfl)))⟩) [] (by decide) rfl (Nat.le_of_ble_eq_true rfl) (Nat.le_of_ble_eq_true rfl)
        · skip
          have k10 : ¬ ((Int32.toInt x0) < 247) := fun h_9 => c8 ((fa_lt x0 247).mpr h_9)
          refine r_iconst 30 1 C dX11_bytesBehind_30 (by decide) ?_
          refine r_goto 31 35 C dX11_bytesBehind_31 (by decide) ?_
          exact r_iret 35 Rt dX11_bytesBehind_35 () (show 0 ≤ (Int32.toInt 1) ∧ (Int32.toInt 1) ≤ 4 from ⟨(by ((repeat' apply And.intro) <;> first | trivial | rfl | assumption | omega | decide | exact Or.inl rfl | exact Or.inr (Or.inl rfl) | exact Or.inr (Or.inr rfl))), (by ((repeat' apply And.intro) <;> first | trivial | rfl | assumption | omega | decide | exact Or.inl rfl | exact Or.inr (Or.inl rfl) | exact Or.inr (Or.inr rfl)))⟩) [] (by decide) rfl (Nat.le_of_ble_eq_true rfl) (Nat.le_of_ble_eq_true rfl)
      · skip
        have k11 : (Int32.toInt x0) = 255 := (fa_eq x0 255).mp c6
        refine r_iconst 21 4 C dX11_bytesBehind_21 (by decide) ?_
        exact r_iret 22 Rt dX11_bytesBehind_22 () (show 0 ≤ (Int32.toInt 4) ∧ (Int32.toInt 4) ≤ 4 from ⟨(by ((repeat' apply And.intro) <;> first | trivial | rfl | assumption | omega | decide | exact Or.inl rfl | exact Or.inr (Or.inl rfl) | exact Or.inr (Or.inr rfl))), (by ((repeat' apply And.intro) <;> first | trivial | rfl | assumption | omega | decide | exact Or.inl rfl | exact Or.inr (Or.inl rfl) | exact Or.inr (Or.inr rfl)))⟩) [] (by decide) rfl (Nat.le_of_ble_eq_true rfl) (Nat.le_of_ble_eq_true rfl)
  · skip
    have k12 : (Int32.toInt x0) = 28 := (fa_eq x0 28).mp c1
    refine r_iconst 6 2 C dX11_bytesBehind_6 (by decide) ?_
    exact r_iret 7 Rt dX11_bytesBehind_7 () (show 0 ≤ (Int32.toInt 2) ∧ (Int32.toInt 2) ≤ 4 from ⟨(by ((repeat' apply And.intro) <;> first | trivial | rfl | assumption | omega | decide | exact Or.inl rfl | exact Or.inr (Or.inl rfl) | exact Or.inr (Or.inr rfl))), (by ((repeat' apply And.intro) <;> first | trivial | rfl | assumption | omega | decide | exact Or.inl rfl | exact Or.inr (Or.inl rfl) | exact Or.inr (Or.inr rfl)))⟩) [] (by decide) rfl (Nat.le_of_ble_eq_true rfl) (Nat.le_of_ble_eq_true rfl)
set_option maxHeartbeats 4000000 in
set_option maxRecDepth 100000 in
theorem c66_X11_wholeNumber (l : Launch) (g : GD) (x0 : Int32) (x1 : Int32) (sz : Nat) : Met l yX11_wholeNumber wsX11_wholeNumber ({ frames := 0, cells := 0, slots := 0, locals := 0 }) (va_Pc [.int x0, .int x1] (PW g [] sz)) (va_Qi (fun (r : Int32) (_ : Unit) => True) (BW g (va_A [] sz) (fun _ : Unit => [])) (va_A [] sz)) 0 0 (va_A [] sz) := by
  refine met_i RX11 (by decide) rfl rfl (Nat.le_of_ble_eq_true rfl) [(0, .int x0), (1, .int x1)] rfl ?_
  intro p e s m args below meth c A Q C hnm Rt
  have gx0 := fb_rng x0
  refine r_iload_n 0 0 C dX11_wholeNumber_0 rfl ?_
  refine r_bipush 1 28 C dX11_wholeNumber_1 (by decide) ?_
  refine r_icmp_ne 3 9 C dX11_wholeNumber_3 (by decide) (fun c1 => ?_) (fun c1 => ?_)
  · skip
    have k2 : ¬ ((Int32.toInt x0) = 28) := fun h_9 => c1 ((fa_eq x0 28).mpr h_9)
    refine r_iload_n 9 0 C dX11_wholeNumber_9 rfl ?_
    refine r_bipush 10 29 C dX11_wholeNumber_10 (by decide) ?_
    refine r_icmp_ne 12 17 C dX11_wholeNumber_12 (by decide) (fun c3 => ?_) (fun c3 => ?_)
    · skip
      have k4 : ¬ ((Int32.toInt x0) = 29) := fun h_9 => c3 ((fa_eq x0 29).mpr h_9)
      refine r_iload_n 17 0 C dX11_wholeNumber_17 rfl ?_
      refine r_sipush 18 246 C dX11_wholeNumber_18 (by decide) ?_
      refine r_icmp_gt 21 30 C dX11_wholeNumber_21 (by decide) (fun c5 => ?_) (fun c5 => ?_)
      · skip
        have k6 : 246 < (Int32.toInt x0) := (fa_lt 246 x0).mp c5
        refine r_iload_n 30 0 C dX11_wholeNumber_30 rfl ?_
        refine r_sipush 31 250 C dX11_wholeNumber_31 (by decide) ?_
        refine r_icmp_gt 34 52 C dX11_wholeNumber_34 (by decide) (fun c7 => ?_) (fun c7 => ?_)
        · skip
          have k8 : 250 < (Int32.toInt x0) := (fa_lt 250 x0).mp c7
          refine r_iload_n 52 0 C dX11_wholeNumber_52 rfl ?_
          refine r_sipush 53 251 C dX11_wholeNumber_53 (by decide) ?_
          obtain ⟨z9, ez9⟩ : ∃ z_9, x0 - 251 = z_9 := ⟨_, rfl⟩
          have tz9 : (Int32.toInt z9) = (Int32.toInt x0) - 251 := by rw [← ez9]; exact fb_subI (by show -2147483648 ≤ (Int32.toInt x0) - 251; omega) (by show (Int32.toInt x0) - 251 < 2147483648; omega)
          refine r_isub 56 z9 C dX11_wholeNumber_56 ez9 ?_
          obtain ⟨z10, ez10⟩ : ∃ z_9, -z9 = z_9 := ⟨_, rfl⟩
          have tz10 : (Int32.toInt z10) = -(Int32.toInt z9) := by rw [← ez10]; exact neg_in (by omega)
          refine r_ineg 57 z10 C dX11_wholeNumber_57 ez10 ?_
          refine r_sipush 58 256 C dX11_wholeNumber_58 (by decide) ?_
          obtain ⟨z11, ez11⟩ : ∃ z_9, z10 * 256 = z_9 := ⟨_, rfl⟩
          have gz11 := fb_rng z11
          refine r_imul 61 z11 C dX11_wholeNumber_61 ez11 ?_
          refine r_iload_n 62 1 C dX11_wholeNumber_62 rfl ?_
          obtain ⟨z12, ez12⟩ : ∃ z_9, z11 - x1 = z_9 := ⟨_, rfl⟩
          have gz12 := fb_rng z12
          refine r_isub 63 z12 C dX11_wholeNumber_63 ez12 ?_
          refine r_bipush 64 108 C dX11_wholeNumber_64 (by decide) ?_
          obtain ⟨z13, ez13⟩ : ∃ z_9, z12 - 108 = z_9 := ⟨_, rfl⟩
          have gz13 := fb_rng z13
          refine r_isub 66 z13 C dX11_wholeNumber_66 ez13 ?_
          exact r_iret 67 Rt dX11_wholeNumber_67 () trivial [] (by decide) rfl (Nat.le_of_ble_eq_true rfl) (Nat.le_of_ble_eq_true rfl)
        · skip
          have k14 : ¬ (250 < (Int32.toInt x0)) := fun h_9 => c7 ((fa_lt 250 x0).mpr h_9)
          refine r_iload_n 37 0 C dX11_wholeNumber_37 rfl ?_
          refine r_sipush 38 247 C dX11_wholeNumber_38 (by decide) ?_
          obtain ⟨z15, ez15⟩ : ∃ z_9, x0 - 247 = z_9 := ⟨_, rfl⟩
          have tz15 : (Int32.toInt z15) = (Int32.toInt x0) - 247 := by rw [← ez15]; exact fb_subI (by show -2147483648 ≤ (Int32.toInt x0) - 247; omega) (by show (Int32.toInt x0) - 247 < 2147483648; omega)
          refine r_isub 41 z15 C dX11_wholeNumber_41 ez15 ?_
          refine r_sipush 42 256 C dX11_wholeNumber_42 (by decide) ?_
          obtain ⟨z16, ez16⟩ : ∃ z_9, z15 * 256 = z_9 := ⟨_, rfl⟩
          have tz16 : (Int32.toInt z16) = (Int32.toInt z15) * 256 := by rw [← ez16]; exact fb_mulI (by show -2147483648 ≤ (Int32.toInt z15) * 256; omega) (by show (Int32.toInt z15) * 256 < 2147483648; omega)
          refine r_imul 45 z16 C dX11_wholeNumber_45 ez16 ?_
          refine r_iload_n 46 1 C dX11_wholeNumber_46 rfl ?_
          obtain ⟨z17, ez17⟩ : ∃ z_9, z16 + x1 = z_9 := ⟨_, rfl⟩
          have gz17 := fb_rng z17
          refine r_iadd 47 z17 C dX11_wholeNumber_47 ez17 ?_
          refine r_bipush 48 108 C dX11_wholeNumber_48 (by decide) ?_
          obtain ⟨z18, ez18⟩ : ∃ z_9, z17 + 108 = z_9 := ⟨_, rfl⟩
          have gz18 := fb_rng z18
          refine r_iadd 50 z18 C dX11_wholeNumber_50 ez18 ?_
          exact r_iret 51 Rt dX11_wholeNumber_51 () trivial [] (by decide) rfl (Nat.le_of_ble_eq_true rfl) (Nat.le_of_ble_eq_true rfl)
      · skip
        have k19 : ¬ (246 < (Int32.toInt x0)) := fun h_9 => c5 ((fa_lt 246 x0).mpr h_9)
        refine r_iload_n 24 0 C dX11_wholeNumber_24 rfl ?_
        refine r_sipush 25 139 C dX11_wholeNumber_25 (by decide) ?_
        obtain ⟨z20, ez20⟩ : ∃ z_9, x0 - 139 = z_9 := ⟨_, rfl⟩
        have gz20 := fb_rng z20
        refine r_isub 28 z20 C dX11_wholeNumber_28 ez20 ?_
        exact r_iret 29 Rt dX11_wholeNumber_29 () trivial [] (by decide) rfl (Nat.le_of_ble_eq_true rfl) (Nat.le_of_ble_eq_true rfl)
    · skip
      have k21 : (Int32.toInt x0) = 29 := (fa_eq x0 29).mp c3
      refine r_iload_n 15 1 C dX11_wholeNumber_15 rfl ?_
      exact r_iret 16 Rt dX11_wholeNumber_16 () trivial [] (by decide) rfl (Nat.le_of_ble_eq_true rfl) (Nat.le_of_ble_eq_true rfl)
  · skip
    have k22 : (Int32.toInt x0) = 28 := (fa_eq x0 28).mp c1
    refine r_iload_n 6 1 C dX11_wholeNumber_6 rfl ?_
    obtain ⟨z23, ez23⟩ : ∃ z_9, (Int32.toInt16 x1).toInt32 = z_9 := ⟨_, rfl⟩
    have gz23 := fb_rng z23
    refine r_i2s 7 z23 C dX11_wholeNumber_7 ez23 ?_
    exact r_iret 8 Rt dX11_wholeNumber_8 () trivial [] (by decide) rfl (Nat.le_of_ble_eq_true rfl) (Nat.le_of_ble_eq_true rfl)
set_option maxHeartbeats 4000000 in
set_option maxRecDepth 100000 in
theorem c67_X2_add (l : Launch) (g : GD) (h0 : Nat) (h1 : Nat) (x0 : Int32) (x1 : Int32) (x2 : Int32) (h2 : Nat) (h3 : Nat) (h4 : Nat) (fn0 : Nat → Int32) (i_x1 : (0 ≤ (Int32.toInt x1) ∧ (Int32.toInt x1) ≤ 48)) (i_x2 : (0 ≤ (Int32.toInt x2) ∧ (Int32.toInt x2) ≤ 1)) (sz : Nat) : Met l yX2_add wsX2_add ({ frames := 1, cells := 0, slots := 0, locals := 20 }) (va_Pc [.ref h0, .int x0] (PW g [(h0, .inr (2, [.ref h1, .int x1, .int x2, .ref h2, .ref h3, .ref h4])), (h1, .inl (gI g, 48, .inl fn0))] sz)) (va_Qv (fun (u : (Int32) × (Nat → Int32)) => 0 ≤ (Int32.toInt (u.1)) ∧ (Int32.toInt (u.1)) ≤ 48) (BW g (va_A [(h0, .inr (2, [.ref h1, .int x1, .int x2, .ref h2, .ref h3, .ref h4])), (h1, .inl (gI g, 48, .inl fn0))] sz) (fun u : (Int32) × (Nat → Int32) => [(h0, .inr (2, [.ref h1, .int u.1, .int x2, .ref h2, .ref h3, .ref h4])), (h1, .inl (gI g, 48, .inl u.2))])) (va_A [(h0, .inr (2, [.ref h1, .int x1, .int x2, .ref h2, .ref h3, .ref h4])), (h1, .inl (gI g, 48, .inl fn0))] sz)) 0 0 (va_A [(h0, .inr (2, [.ref h1, .int x1, .int x2, .ref h2, .ref h3, .ref h4])), (h1, .inl (gI g, 48, .inl fn0))] sz) := by
  refine met_v RX2 (by decide) rfl rfl (Nat.le_of_ble_eq_true rfl) [(0, .ref h0), (1, .int x0)] rfl ?_
  intro p e s m args below meth c A Q C hnm Rt
  have hiX2 : ∀ w ∈ wsX20, w ∈ wsX2_add := fun w h => List.mem_cons_of_mem _ (List.mem_append_right _ (h))
  refine r_aload_n 0 0 C dX2_add_0 rfl ?_
  refine r_callVi 1 C dX2_add_1 [] [(h0, .inr (2, [.ref h1, .int x1, .int x2, .ref h2, .ref h3, .ref h4]))] [(h1, .inl (gI g, 48, .inl fn0))] (fun sz => c63_X2_isFull l g h0 h1 x1 x2 h2 h3 h4 i_x1 i_x2 sz) gX2_add_X2_isFull rfl ⟨rfl, rfl⟩ 0 (by decide) ⟨Nat.le_of_ble_eq_true rfl, Nat.le_of_ble_eq_true rfl⟩ 0 rfl rfl [0] [1] rfl rfl (by decide) (by decide) (by decide) rfl rfl (Nat.le_of_ble_eq_true rfl) ⟨Nat.le_of_ble_eq_true rfl, Nat.le_of_ble_eq_true rfl⟩ (fun r1 _ w2 => ?_)
  refine r_ws [(h1, .inl (gI g, 48, .inl fn0)), (h0, .inr (2, [.ref h1, .int x1, .int x2, .ref h2, .ref h3, .ref h4]))] rfl ?_
  have w3 : (((Int32.toInt x1) < 48 ∧ r1 = 0) ∨ (¬ ((Int32.toInt x1) < 48) ∧ r1 = 1)) := w2
  rcases w3 with ⟨k4, k5⟩ | w3
  · skip
    have k5 := k5.symm
    subst k5
    refine r_if_ne_f 4 27 C dX2_add_4 (by decide) (by decide) ?_
    refine r_aload_n 7 0 C dX2_add_7 rfl ?_
    refine r_get 8 C dX2_add_8 (k := 0) 1 rfl rfl hiX2 (by decide) rfl (mg 1 rfl) (Or.inl rfl) rfl ?_
    refine r_aload_n 11 0 C dX2_add_11 rfl ?_
    refine r_get 12 C dX2_add_12 (k := 1) 1 rfl rfl hiX2 (by decide) rfl (mg 2 rfl) (Or.inl rfl) rfl ?_
    refine r_iload_n 15 1 C dX2_add_15 rfl ?_
    obtain ⟨f6, ef6⟩ : ∃ f_9, upd fn0 (Int32.toNatClampNeg x1) x0 = f_9 := ⟨_, rfl⟩
    refine r_iast 16 C dX2_add_16 0 rfl (vinI (by omega) (by omega)) f6 ef6 [(h1, .inl (gI g, 48, .inl f6)), (h0, .inr (2, [.ref h1, .int x1, .int x2, .ref h2, .ref h3, .ref h4]))] rfl ?_
    refine r_aload_n 17 0 C dX2_add_17 rfl ?_
    refine r_dup 18 C dX2_add_18 rfl ?_
    refine r_get 19 C dX2_add_19 (k := 1) 1 rfl rfl hiX2 (by decide) rfl (mg 2 rfl) (Or.inl rfl) rfl ?_
    refine r_iconst 22 1 C dX2_add_22 (by decide) ?_
    obtain ⟨z7, ez7⟩ : ∃ z_9, x1 + 1 = z_9 := ⟨_, rfl⟩
    have tz7 : (Int32.toInt z7) = (Int32.toInt x1) + 1 := by rw [← ez7]; exact fb_addIv (a := 0) (b := 48) (c := 1) (d := 1) i_x1 ⟨by decide, by decide⟩ (by decide) (by decide)
    refine r_iadd 23 z7 C dX2_add_23 ez7 ?_
    refine r_put 24 C dX2_add_24 (k := 1) 1 rfl rfl hiX2 tyX2 tyX2_ok nmX2 (by decide) rfl (mg 2 rfl) (Or.inl rfl) rfl rfl rfl rfl (Nat.le_of_ble_eq_true rfl) [(h1, .inl (gI g, 48, .inl f6)), (h0, .inr (2, [.ref h1, .int z7, .int x2, .ref h2, .ref h3, .ref h4]))] rfl ?_
    exact r_vret 27 Rt dX2_add_27 (z7, f6) (show 0 ≤ (Int32.toInt z7) ∧ (Int32.toInt z7) ≤ 48 from ⟨(by ((repeat' apply And.intro) <;> first | trivial | rfl | assumption | omega | decide | exact Or.inl rfl | exact Or.inr (Or.inl rfl) | exact Or.inr (Or.inr rfl))), (by ((repeat' apply And.intro) <;> first | trivial | rfl | assumption | omega | decide | exact Or.inl rfl | exact Or.inr (Or.inl rfl) | exact Or.inr (Or.inr rfl)))⟩) [1, 0] (by decide) rfl (Nat.le_of_ble_eq_true rfl) (Nat.le_of_ble_eq_true rfl)
  obtain ⟨k8, k9⟩ := w3
  have k9 := k9.symm
  subst k9
  refine r_if_ne_t 4 27 C dX2_add_4 (by decide) (by decide) ?_
  exact r_vret 27 Rt dX2_add_27 (x1, fn0) (show 0 ≤ (Int32.toInt x1) ∧ (Int32.toInt x1) ≤ 48 from ⟨i_x1.1, i_x1.2⟩) [1, 0] (by decide) rfl (Nat.le_of_ble_eq_true rfl) (Nat.le_of_ble_eq_true rfl)
set_option maxHeartbeats 4000000 in
set_option maxRecDepth 100000 in
theorem c68_X1_takeReal (l : Launch) (g : GD) (h0 : Nat) (h1 : Nat) (h2 : Nat) (h3 : Nat) (h4 : Nat) (x0 : Int32) (y0 : Int64) (y1 : Int64) (x1 : Int32) (x2 : Int32) (y2 : Int64) (y3 : Int64) (x3 : Int32) (fn0 : Nat → Int32) (i_x1 : (-257 ≤ (Int32.toInt x1) ∧ (Int32.toInt x1) ≤ 65535)) (i_x3 : (0 ≤ (Int32.toInt x3) ∧ (Int32.toInt x3) ≤ 1500)) (sz : Nat) : Met l yX1_takeReal wsX1_takeReal ({ frames := 2, cells := 0, slots := 0, locals := 43 }) (va_Pc [.ref h0] (PW g [(h0, .inr (1, [.ref h3, .ref h4, .ref h1, .int x0, .long y0, .long y1, .int x1, .int x2, .long y2, .long y3])), (h1, .inr (4, [.ref h2, .int x3])), (h2, .inl (gB g, 1500, .inl fn0))] sz)) (va_Qv (fun (u : (Int32) × (Int64)) => True) (BW g (va_A [(h0, .inr (1, [.ref h3, .ref h4, .ref h1, .int x0, .long y0, .long y1, .int x1, .int x2, .long y2, .long y3])), (h1, .inr (4, [.ref h2, .int x3])), (h2, .inl (gB g, 1500, .inl fn0))] sz) (fun u : (Int32) × (Int64) => [(h0, .inr (1, [.ref h3, .ref h4, .ref h1, .int u.1, .long u.2, .long y1, .int x1, .int x2, .long y2, .long y3])), (h1, .inr (4, [.ref h2, .int x3])), (h2, .inl (gB g, 1500, .inl fn0))])) (va_A [(h0, .inr (1, [.ref h3, .ref h4, .ref h1, .int x0, .long y0, .long y1, .int x1, .int x2, .long y2, .long y3])), (h1, .inr (4, [.ref h2, .int x3])), (h2, .inl (gB g, 1500, .inl fn0))] sz)) 0 0 (va_A [(h0, .inr (1, [.ref h3, .ref h4, .ref h1, .int x0, .long y0, .long y1, .int x1, .int x2, .long y2, .long y3])), (h1, .inr (4, [.ref h2, .int x3])), (h2, .inl (gB g, 1500, .inl fn0))] sz) := by
  refine met_v RX1 (by decide) rfl rfl (Nat.le_of_ble_eq_true rfl) [(0, .ref h0)] rfl ?_
  intro p e s m args below meth c A Q C hnm Rt
  have hiX1 : ∀ w ∈ wsX10, w ∈ wsX1_takeReal := fun w h => List.mem_cons_of_mem _ (List.mem_append_left _ (List.mem_append_right _ (h)))
  refine r_iconst 0 1 C dX1_takeReal_0 (by decide) ?_
  refine r_istore_n 1 C dX1_takeReal_1 [(1, .int 1), (0, .ref h0)] (by decide) rfl ?_
  refine r_iconst 2 0 C dX1_takeReal_2 (by decide) ?_
  refine r_istore_n 3 C dX1_takeReal_3 [(2, .int 0), (1, .int 1), (0, .ref h0)] (by decide) rfl ?_
  have lp6 : ∀ (n5 : Nat) (z1 : Int32) (z2 : Int32) (z3 : Int32) (z4 : Int64), (0 ≤ (Int32.toInt z1) ∧ (Int32.toInt z1) ≤ 1501) → (0 ≤ (Int32.toInt z2) ∧ (Int32.toInt z2) ≤ 1) → Int.toNat (1501 - (Int32.toInt z1)) < n5 → WW p l e ({ frames := 2, cells := 0, slots := 0, locals := 43 } : Room) s m args below meth c A Q g 6 0 0 [(h0, .inr (1, [.ref h3, .ref h4, .ref h1, .int z3, .long z4, .long y1, .int x1, .int x2, .long y2, .long y3])), (h1, .inr (4, [.ref h2, .int x3])), (h2, .inl (gB g, 1500, .inl fn0))] 4 [(2, .int z1), (1, .int z2), (0, .ref h0)] [] := by
    intro n5
    induction n5 with
    | zero => intro z1 z2 z3 z4 i9 i10 hm8; exact absurd hm8 (Nat.not_lt_zero _)
    | succ n5 ih7 =>
      intro z1 z2 z3 z4 i9 i10 hm8
      obtain ⟨i9a, i9b⟩ := i9
      obtain ⟨i10a, i10b⟩ := i10
      have gz3 := fb_rng z3
      have gz4 := fb_rngL z4
      refine r_iload_n 4 0 C dX1_takeReal_4 rfl ?_
      refine r_sipush 5 1500 C dX1_takeReal_5 (by decide) ?_
      refine r_icmp_gt 8 94 C dX1_takeReal_8 (by decide) (fun c11 => ?_) (fun c11 => ?_)
      · skip
        have k12 : 1500 < (Int32.toInt z1) := (fa_lt 1500 z1).mp c11
        exact r_vret 94 Rt dX1_takeReal_94 (z3, z4) trivial [0, 1, 2] (by decide) rfl (Nat.le_of_ble_eq_true rfl) (Nat.le_of_ble_eq_true rfl)
      · skip
        have k13 : ¬ (1500 < (Int32.toInt z1)) := fun h_9 => c11 ((fa_lt 1500 z1).mpr h_9)
        refine r_iload_n 11 1 C dX1_takeReal_11 rfl ?_
        refine r_if_eq 12 94 C dX1_takeReal_12 (by decide) (fun c14 => ?_) (fun c14 => ?_)
        · skip
          have k15 : (Int32.toInt z2) = 0 := (fa_eq z2 0).mp c14
          exact r_vret 94 Rt dX1_takeReal_94 (z3, z4) trivial [0, 1, 2] (by decide) rfl (Nat.le_of_ble_eq_true rfl) (Nat.le_of_ble_eq_true rfl)
        · skip
          have k16 : ¬ ((Int32.toInt z2) = 0) := fun h_9 => c14 ((fa_eq z2 0).mpr h_9)
          refine r_aload_n 15 2 C dX1_takeReal_15 rfl ?_
          refine r_get 16 C dX1_takeReal_16 (k := 3) 0 rfl rfl hiX1 (by decide) rfl (mg 1 rfl) (Or.inl rfl) rfl ?_
          refine r_if_ne 19 94 C dX1_takeReal_19 (by decide) (fun c17 => ?_) (fun c17 => ?_)
          · skip
            have k18 : ¬ ((Int32.toInt z3) = 0) := fun h_9 => c17 ((fa_eq z3 0).mpr h_9)
            exact r_vret 94 Rt dX1_takeReal_94 (z3, z4) trivial [0, 1, 2] (by decide) rfl (Nat.le_of_ble_eq_true rfl) (Nat.le_of_ble_eq_true rfl)
          · skip
            have k19 : (Int32.toInt z3) = 0 := (fa_eq z3 0).mp c17
            refine r_aload_n 22 2 C dX1_takeReal_22 rfl ?_
            refine r_callVi 23 C dX1_takeReal_23 [] [(h0, .inr (1, [.ref h3, .ref h4, .ref h1, .int z3, .long z4, .long y1, .int x1, .int x2, .long y2, .long y3])), (h1, .inr (4, [.ref h2, .int x3])), (h2, .inl (gB g, 1500, .inl fn0))] [] (fun sz => c52_X1_take l g h0 h1 h2 h3 h4 z3 z4 y1 x1 x2 y2 y3 x3 fn0 i_x1 i_x3 sz) gX1_takeReal_X1_take rfl ⟨rfl, rfl⟩ 0 (by decide) ⟨Nat.le_of_ble_eq_true rfl, Nat.le_of_ble_eq_true rfl⟩ 0 rfl rfl [0, 1, 2] [] rfl rfl (by decide) (by decide) (by decide) rfl rfl (Nat.le_of_ble_eq_true rfl) ⟨Nat.le_of_ble_eq_true rfl, Nat.le_of_ble_eq_true rfl⟩ (fun r22 u24 w23 => ?_)
            obtain ⟨z20, z21⟩ := u24
            refine r_ws [(h0, .inr (1, [.ref h3, .ref h4, .ref h1, .int z20, .long z21, .long y1, .int x1, .int x2, .long y2, .long y3])), (h1, .inr (4, [.ref h2, .int x3])), (h2, .inl (gB g, 1500, .inl fn0))] rfl ?_
            have gz20 := fb_rng z20
            have gz21 := fb_rngL z21
            have p25 : -1 ≤ (Int32.toInt r22) := w23.1
            have p26 : (Int32.toInt r22) ≤ 255 := w23.2
            refine r_istore_n 26 C dX1_takeReal_26 [(3, .int r22), (2, .int z1), (1, .int z2), (0, .ref h0)] (by decide) rfl ?_
            refine r_iload_n 27 0 C dX1_takeReal_27 rfl ?_
            refine r_iconst 28 4 C dX1_takeReal_28 (by decide) ?_
            obtain ⟨z27, ez27⟩ : ∃ z_9, r22 >>> (4 &&& 31) = z_9 := ⟨_, rfl⟩
            have tz27 : (Int32.toInt z27) = (Int32.toInt r22) / 16 := by rw [← ez27]; exact shr_4 r22
            refine r_ishr 29 z27 C dX1_takeReal_29 ez27 ?_
            refine r_istore 30 C dX1_takeReal_30 [(4, .int z27), (3, .int r22), (2, .int z1), (1, .int z2), (0, .ref h0)] (by decide) rfl ?_
            refine r_iload_n 32 1 C dX1_takeReal_32 rfl ?_
            refine r_bipush 33 15 C dX1_takeReal_33 (by decide) ?_
            obtain ⟨z28, ez28⟩ : ∃ z_9, r22 &&& 15 = z_9 := ⟨_, rfl⟩
            have tz28 : 0 ≤ (Int32.toInt z28) ∧ (Int32.toInt z28) ≤ 15 := by rw [← ez28]; exact and_15 r22
            refine r_iand 35 z28 C dX1_takeReal_35 ez28 ?_
            refine r_istore 36 C dX1_takeReal_36 [(5, .int z28), (4, .int z27), (3, .int r22), (2, .int z1), (1, .int z2), (0, .ref h0)] (by decide) rfl ?_
            refine r_iload 38 1 C dX1_takeReal_38 rfl ?_
            refine r_bipush 40 15 C dX1_takeReal_40 (by decide) ?_
            refine r_icmp_eq 42 56 C dX1_takeReal_42 (by decide) (fun c29 => ?_) (fun c29 => ?_)
            · skip
              have k30 : (Int32.toInt z27) = 15 := (fa_eq z27 15).mp c29
              refine r_iconst 56 0 C dX1_takeReal_56 (by decide) ?_
              refine r_istore_n 57 C dX1_takeReal_57 [(1, .int 0), (5, .int z28), (4, .int z27), (3, .int r22), (2, .int z1), (0, .ref h0)] (by decide) rfl ?_
              refine r_aload_n 58 5 C dX1_takeReal_58 rfl ?_
              refine r_iload 59 2 C dX1_takeReal_59 rfl ?_
              refine r_bipush 61 13 C dX1_takeReal_61 (by decide) ?_
              refine r_icmp_eq_f 63 84 C dX1_takeReal_63 (by decide) (fun h_9 => by have h_8 : (Int32.toInt z27) = 13 := (fa_eq z27 13).mp h_9; omega) ?_
              refine r_iload 66 2 C dX1_takeReal_66 rfl ?_
              refine r_bipush 68 15 C dX1_takeReal_68 (by decide) ?_
              refine r_icmp_eq_t 70 80 C dX1_takeReal_70 (by decide) ((fa_eq z27 15).mpr (by show (Int32.toInt z27) = 15; omega)) ?_
              refine r_iconst 80 1 C dX1_takeReal_80 (by decide) ?_
              refine r_goto 81 85 C dX1_takeReal_81 (by decide) ?_
              refine r_callVv 85 C dX1_takeReal_85 [] [(h0, .inr (1, [.ref h3, .ref h4, .ref h1, .int z20, .long z21, .long y1, .int x1, .int x2, .long y2, .long y3]))] [(h1, .inr (4, [.ref h2, .int x3])), (h2, .inl (gB g, 1500, .inl fn0))] (fun sz => c53_X1_want l g h0 1 h3 h4 h1 z20 z21 y1 x1 x2 y2 y3 (by decide) i_x1 sz) gX1_takeReal_X1_want rfl ⟨rfl, rfl⟩ 1 (by decide) ⟨Nat.le_of_ble_eq_true rfl, Nat.le_of_ble_eq_true rfl⟩ 0 rfl rfl [0] [1, 2] rfl rfl (by decide) (by decide) (by decide) rfl rfl (Nat.le_of_ble_eq_true rfl) ⟨Nat.le_of_ble_eq_true rfl, Nat.le_of_ble_eq_true rfl⟩ (fun  z31 w32 => ?_)
              refine r_ws [(h1, .inr (4, [.ref h2, .int x3])), (h2, .inl (gB g, 1500, .inl fn0)), (h0, .inr (1, [.ref h3, .ref h4, .ref h1, .int z31, .long z21, .long y1, .int x1, .int x2, .long y2, .long y3]))] rfl ?_
              have gz31 := fb_rng z31
              obtain ⟨z33, ez33⟩ : ∃ z_9, z1 + Int32.ofInt 1 = z_9 := ⟨_, rfl⟩
              have tz33 : (Int32.toInt z33) = (Int32.toInt z1) + 1 := by rw [← ez33]; exact fb_addIv (a := 0) (b := 1501) (c := 1) (d := 1) ⟨i9a, i9b⟩ ⟨by decide, by decide⟩ (by decide) (by decide)
              refine r_iinc 88 4 z33 C dX1_takeReal_88 rfl ez33 [(2, .int z33), (1, .int 0), (5, .int z28), (4, .int z27), (3, .int r22), (0, .ref h0)] (by decide) rfl ?_
              refine r_goto 91 4 C dX1_takeReal_91 (by decide) ?_
              refine r_lv [(2, .int z33), (1, .int 0), (0, .ref h0)] [0, 1, 5] rfl ?_
              refine r_pick [(h0, .inr (1, [.ref h3, .ref h4, .ref h1, .int z31, .long z21, .long y1, .int x1, .int x2, .long y2, .long y3])), (h1, .inr (4, [.ref h2, .int x3])), (h2, .inl (gB g, 1500, .inl fn0))] [2, 0, 1] (by decide) rfl ?_
              exact ih7 z33 0 z31 z21 ⟨by omega, by omega⟩ (by decide) (by omega)
            · skip
              have k34 : ¬ ((Int32.toInt z27) = 15) := fun h_9 => c29 ((fa_eq z27 15).mpr h_9)
              refine r_iload 45 0 C dX1_takeReal_45 rfl ?_
              refine r_bipush 47 15 C dX1_takeReal_47 (by decide) ?_
              refine r_icmp_eq 49 56 C dX1_takeReal_49 (by decide) (fun c35 => ?_) (fun c35 => ?_)
              · skip
                have k36 : (Int32.toInt z28) = 15 := (fa_eq z28 15).mp c35
                refine r_iconst 56 0 C dX1_takeReal_56 (by decide) ?_
                refine r_istore_n 57 C dX1_takeReal_57 [(1, .int 0), (5, .int z28), (4, .int z27), (3, .int r22), (2, .int z1), (0, .ref h0)] (by decide) rfl ?_
                refine r_aload_n 58 5 C dX1_takeReal_58 rfl ?_
                refine r_iload 59 2 C dX1_takeReal_59 rfl ?_
                refine r_bipush 61 13 C dX1_takeReal_61 (by decide) ?_
                refine r_icmp_eq 63 84 C dX1_takeReal_63 (by decide) (fun c37 => ?_) (fun c37 => ?_)
                · skip
                  have k38 : (Int32.toInt z27) = 13 := (fa_eq z27 13).mp c37
                  refine r_iconst 84 0 C dX1_takeReal_84 (by decide) ?_
                  refine r_callVv 85 C dX1_takeReal_85 [] [(h0, .inr (1, [.ref h3, .ref h4, .ref h1, .int z20, .long z21, .long y1, .int x1, .int x2, .long y2, .long y3]))] [(h1, .inr (4, [.ref h2, .int x3])), (h2, .inl (gB g, 1500, .inl fn0))] (fun sz => c53_X1_want l g h0 0 h3 h4 h1 z20 z21 y1 x1 x2 y2 y3 (by decide) i_x1 sz) gX1_takeReal_X1_want rfl ⟨rfl, rfl⟩ 1 (by decide) ⟨Nat.le_of_ble_eq_true rfl, Nat.le_of_ble_eq_true rfl⟩ 0 rfl rfl [0] [1, 2] rfl rfl (by decide) (by decide) (by decide) rfl rfl (Nat.le_of_ble_eq_true rfl) ⟨Nat.le_of_ble_eq_true rfl, Nat.le_of_ble_eq_true rfl⟩ (fun  z39 w40 => ?_)
                  refine r_ws [(h1, .inr (4, [.ref h2, .int x3])), (h2, .inl (gB g, 1500, .inl fn0)), (h0, .inr (1, [.ref h3, .ref h4, .ref h1, .int z39, .long z21, .long y1, .int x1, .int x2, .long y2, .long y3]))] rfl ?_
                  have gz39 := fb_rng z39
                  obtain ⟨z41, ez41⟩ : ∃ z_9, z1 + Int32.ofInt 1 = z_9 := ⟨_, rfl⟩
                  have tz41 : (Int32.toInt z41) = (Int32.toInt z1) + 1 := by rw [← ez41]; exact fb_addIv (a := 0) (b := 1501) (c := 1) (d := 1) ⟨i9a, i9b⟩ ⟨by decide, by decide⟩ (by decide) (by decide)
                  refine r_iinc 88 4 z41 C dX1_takeReal_88 rfl ez41 [(2, .int z41), (1, .int 0), (5, .int z28), (4, .int z27), (3, .int r22), (0, .ref h0)] (by decide) rfl ?_
                  refine r_goto 91 4 C dX1_takeReal_91 (by decide) ?_
                  refine r_lv [(2, .int z41), (1, .int 0), (0, .ref h0)] [0, 1, 5] rfl ?_
                  refine r_pick [(h0, .inr (1, [.ref h3, .ref h4, .ref h1, .int z39, .long z21, .long y1, .int x1, .int x2, .long y2, .long y3])), (h1, .inr (4, [.ref h2, .int x3])), (h2, .inl (gB g, 1500, .inl fn0))] [2, 0, 1] (by decide) rfl ?_
                  exact ih7 z41 0 z39 z21 ⟨by omega, by omega⟩ (by decide) (by omega)
                · skip
                  have k42 : ¬ ((Int32.toInt z27) = 13) := fun h_9 => c37 ((fa_eq z27 13).mpr h_9)
                  refine r_iload 66 2 C dX1_takeReal_66 rfl ?_
                  refine r_bipush 68 15 C dX1_takeReal_68 (by decide) ?_
                  refine r_icmp_eq_f 70 80 C dX1_takeReal_70 (by decide) (fun h_9 => by have h_8 : (Int32.toInt z27) = 15 := (fa_eq z27 15).mp h_9; omega) ?_
                  refine r_iload 73 1 C dX1_takeReal_73 rfl ?_
                  refine r_bipush 75 13 C dX1_takeReal_75 (by decide) ?_
                  refine r_icmp_eq_f 77 84 C dX1_takeReal_77 (by decide) (fun h_9 => by have h_8 : (Int32.toInt z28) = 13 := (fa_eq z28 13).mp h_9; omega) ?_
                  refine r_iconst 80 1 C dX1_takeReal_80 (by decide) ?_
                  refine r_goto 81 85 C dX1_takeReal_81 (by decide) ?_
                  refine r_callVv 85 C dX1_takeReal_85 [] [(h0, .inr (1, [.ref h3, .ref h4, .ref h1, .int z20, .long z21, .long y1, .int x1, .int x2, .long y2, .long y3]))] [(h1, .inr (4, [.ref h2, .int x3])), (h2, .inl (gB g, 1500, .inl fn0))] (fun sz => c53_X1_want l g h0 1 h3 h4 h1 z20 z21 y1 x1 x2 y2 y3 (by decide) i_x1 sz) gX1_takeReal_X1_want rfl ⟨rfl, rfl⟩ 1 (by decide) ⟨Nat.le_of_ble_eq_true rfl, Nat.le_of_ble_eq_true rfl⟩ 0 rfl rfl [0] [1, 2] rfl rfl (by decide) (by decide) (by decide) rfl rfl (Nat.le_of_ble_eq_true rfl) ⟨Nat.le_of_ble_eq_true rfl, Nat.le_of_ble_eq_true rfl⟩ (fun  z43 w44 => ?_)
                  refine r_ws [(h1, .inr (4, [.ref h2, .int x3])), (h2, .inl (gB g, 1500, .inl fn0)), (h0, .inr (1, [.ref h3, .ref h4, .ref h1, .int z43, .long z21, .long y1, .int x1, .int x2, .long y2, .long y3]))] rfl ?_
                  have gz43 := fb_rng z43
                  obtain ⟨z45, ez45⟩ : ∃ z_9, z1 + Int32.ofInt 1 = z_9 := ⟨_, rfl⟩
                  have tz45 : (Int32.toInt z45) = (Int32.toInt z1) + 1 := by rw [← ez45]; exact fb_addIv (a := 0) (b := 1501) (c := 1) (d := 1) ⟨i9a, i9b⟩ ⟨by decide, by decide⟩ (by decide) (by decide)
                  refine r_iinc 88 4 z45 C dX1_takeReal_88 rfl ez45 [(2, .int z45), (1, .int 0), (5, .int z28), (4, .int z27), (3, .int r22), (0, .ref h0)] (by decide) rfl ?_
                  refine r_goto 91 4 C dX1_takeReal_91 (by decide) ?_
                  refine r_lv [(2, .int z45), (1, .int 0), (0, .ref h0)] [0, 1, 5] rfl ?_
                  refine r_pick [(h0, .inr (1, [.ref h3, .ref h4, .ref h1, .int z43, .long z21, .long y1, .int x1, .int x2, .long y2, .long y3])), (h1, .inr (4, [.ref h2, .int x3])), (h2, .inl (gB g, 1500, .inl fn0))] [2, 0, 1] (by decide) rfl ?_
                  exact ih7 z45 0 z43 z21 ⟨by omega, by omega⟩ (by decide) (by omega)
              · skip
                have k46 : ¬ ((Int32.toInt z28) = 15) := fun h_9 => c35 ((fa_eq z28 15).mpr h_9)
                refine r_iconst 52 1 C dX1_takeReal_52 (by decide) ?_
                refine r_goto 53 57 C dX1_takeReal_53 (by decide) ?_
                refine r_istore_n 57 C dX1_takeReal_57 [(1, .int 1), (5, .int z28), (4, .int z27), (3, .int r22), (2, .int z1), (0, .ref h0)] (by decide) rfl ?_
                refine r_aload_n 58 5 C dX1_takeReal_58 rfl ?_
                refine r_iload 59 2 C dX1_takeReal_59 rfl ?_
                refine r_bipush 61 13 C dX1_takeReal_61 (by decide) ?_
                refine r_icmp_eq 63 84 C dX1_takeReal_63 (by decide) (fun c47 => ?_) (fun c47 => ?_)
                · skip
                  have k48 : (Int32.toInt z27) = 13 := (fa_eq z27 13).mp c47
                  refine r_iconst 84 0 C dX1_takeReal_84 (by decide) ?_
                  refine r_callVv 85 C dX1_takeReal_85 [] [(h0, .inr (1, [.ref h3, .ref h4, .ref h1, .int z20, .long z21, .long y1, .int x1, .int x2, .long y2, .long y3]))] [(h1, .inr (4, [.ref h2, .int x3])), (h2, .inl (gB g, 1500, .inl fn0))] (fun sz => c53_X1_want l g h0 0 h3 h4 h1 z20 z21 y1 x1 x2 y2 y3 (by decide) i_x1 sz) gX1_takeReal_X1_want rfl ⟨rfl, rfl⟩ 1 (by decide) ⟨Nat.le_of_ble_eq_true rfl, Nat.le_of_ble_eq_true rfl⟩ 0 rfl rfl [0] [1, 2] rfl rfl (by decide) (by decide) (by decide) rfl rfl (Nat.le_of_ble_eq_true rfl) ⟨Nat.le_of_ble_eq_true rfl, Nat.le_of_ble_eq_true rfl⟩ (fun  z49 w50 => ?_)
                  refine r_ws [(h1, .inr (4, [.ref h2, .int x3])), (h2, .inl (gB g, 1500, .inl fn0)), (h0, .inr (1, [.ref h3, .ref h4, .ref h1, .int z49, .long z21, .long y1, .int x1, .int x2, .long y2, .long y3]))] rfl ?_
                  have gz49 := fb_rng z49
                  obtain ⟨z51, ez51⟩ : ∃ z_9, z1 + Int32.ofInt 1 = z_9 := ⟨_, rfl⟩
                  have tz51 : (Int32.toInt z51) = (Int32.toInt z1) + 1 := by rw [← ez51]; exact fb_addIv (a := 0) (b := 1501) (c := 1) (d := 1) ⟨i9a, i9b⟩ ⟨by decide, by decide⟩ (by decide) (by decide)
                  refine r_iinc 88 4 z51 C dX1_takeReal_88 rfl ez51 [(2, .int z51), (1, .int 1), (5, .int z28), (4, .int z27), (3, .int r22), (0, .ref h0)] (by decide) rfl ?_
                  refine r_goto 91 4 C dX1_takeReal_91 (by decide) ?_
                  refine r_lv [(2, .int z51), (1, .int 1), (0, .ref h0)] [0, 1, 5] rfl ?_
                  refine r_pick [(h0, .inr (1, [.ref h3, .ref h4, .ref h1, .int z49, .long z21, .long y1, .int x1, .int x2, .long y2, .long y3])), (h1, .inr (4, [.ref h2, .int x3])), (h2, .inl (gB g, 1500, .inl fn0))] [2, 0, 1] (by decide) rfl ?_
                  exact ih7 z51 1 z49 z21 ⟨by omega, by omega⟩ (by decide) (by omega)
                · skip
                  have k52 : ¬ ((Int32.toInt z27) = 13) := fun h_9 => c47 ((fa_eq z27 13).mpr h_9)
                  refine r_iload 66 2 C dX1_takeReal_66 rfl ?_
                  refine r_bipush 68 15 C dX1_takeReal_68 (by decide) ?_
                  refine r_icmp_eq_f 70 80 C dX1_takeReal_70 (by decide) (fun h_9 => by have h_8 : (Int32.toInt z27) = 15 := (fa_eq z27 15).mp h_9; omega) ?_
                  refine r_iload 73 1 C dX1_takeReal_73 rfl ?_
                  refine r_bipush 75 13 C dX1_takeReal_75 (by decide) ?_
                  refine r_icmp_eq 77 84 C dX1_takeReal_77 (by decide) (fun c53 => ?_) (fun c53 => ?_)
                  · skip
                    have k54 : (Int32.toInt z28) = 13 := (fa_eq z28 13).mp c53
                    refine r_iconst 84 0 C dX1_takeReal_84 (by decide) ?_
                    refine r_callVv 85 C dX1_takeReal_85 [] [(h0, .inr (1, [.ref h3, .ref h4, .ref h1, .int z20, .long z21, .long y1, .int x1, .int x2, .long y2, .long y3]))] [(h1, .inr (4, [.ref h2, .int x3])), (h2, .inl (gB g, 1500, .inl fn0))] (fun sz => c53_X1_want l g h0 0 h3 h4 h1 z20 z21 y1 x1 x2 y2 y3 (by decide) i_x1 sz) gX1_takeReal_X1_want rfl ⟨rfl, rfl⟩ 1 (by decide) ⟨Nat.le_of_ble_eq_true rfl, Nat.le_of_ble_eq_true rfl⟩ 0 rfl rfl [0] [1, 2] rfl rfl (by decide) (by decide) (by decide) rfl rfl (Nat.le_of_ble_eq_true rfl) ⟨Nat.le_of_ble_eq_true rfl, Nat.le_of_ble_eq_true rfl⟩ (fun  z55 w56 => ?_)
                    refine r_ws [(h1, .inr (4, [.ref h2, .int x3])), (h2, .inl (gB g, 1500, .inl fn0)), (h0, .inr (1, [.ref h3, .ref h4, .ref h1, .int z55, .long z21, .long y1, .int x1, .int x2, .long y2, .long y3]))] rfl ?_
                    have gz55 := fb_rng z55
                    obtain ⟨z57, ez57⟩ : ∃ z_9, z1 + Int32.ofInt 1 = z_9 := ⟨_, rfl⟩
                    have tz57 : (Int32.toInt z57) = (Int32.toInt z1) + 1 := by rw [← ez57]; exact fb_addIv (a := 0) (b := 1501) (c := 1) (d := 1) ⟨i9a, i9b⟩ ⟨by decide, by decide⟩ (by decide) (by decide)
                    refine r_iinc 88 4 z57 C dX1_takeReal_88 rfl ez57 [(2, .int z57), (1, .int 1), (5, .int z28), (4, .int z27), (3, .int r22), (0, .ref h0)] (by decide) rfl ?_
                    refine r_goto 91 4 C dX1_takeReal_91 (by decide) ?_
                    refine r_lv [(2, .int z57), (1, .int 1), (0, .ref h0)] [0, 1, 5] rfl ?_
                    refine r_pick [(h0, .inr (1, [.ref h3, .ref h4, .ref h1, .int z55, .long z21, .long y1, .int x1, .int x2, .long y2, .long y3])), (h1, .inr (4, [.ref h2, .int x3])), (h2, .inl (gB g, 1500, .inl fn0))] [2, 0, 1] (by decide) rfl ?_
                    exact ih7 z57 1 z55 z21 ⟨by omega, by omega⟩ (by decide) (by omega)
                  · skip
                    have k58 : ¬ ((Int32.toInt z28) = 13) := fun h_9 => c53 ((fa_eq z28 13).mpr h_9)
                    refine r_iconst 80 1 C dX1_takeReal_80 (by decide) ?_
                    refine r_goto 81 85 C dX1_takeReal_81 (by decide) ?_
                    refine r_callVv 85 C dX1_takeReal_85 [] [(h0, .inr (1, [.ref h3, .ref h4, .ref h1, .int z20, .long z21, .long y1, .int x1, .int x2, .long y2, .long y3]))] [(h1, .inr (4, [.ref h2, .int x3])), (h2, .inl (gB g, 1500, .inl fn0))] (fun sz => c53_X1_want l g h0 1 h3 h4 h1 z20 z21 y1 x1 x2 y2 y3 (by decide) i_x1 sz) gX1_takeReal_X1_want rfl ⟨rfl, rfl⟩ 1 (by decide) ⟨Nat.le_of_ble_eq_true rfl, Nat.le_of_ble_eq_true rfl⟩ 0 rfl rfl [0] [1, 2] rfl rfl (by decide) (by decide) (by decide) rfl rfl (Nat.le_of_ble_eq_true rfl) ⟨Nat.le_of_ble_eq_true rfl, Nat.le_of_ble_eq_true rfl⟩ (fun  z59 w60 => ?_)
                    refine r_ws [(h1, .inr (4, [.ref h2, .int x3])), (h2, .inl (gB g, 1500, .inl fn0)), (h0, .inr (1, [.ref h3, .ref h4, .ref h1, .int z59, .long z21, .long y1, .int x1, .int x2, .long y2, .long y3]))] rfl ?_
                    have gz59 := fb_rng z59
                    obtain ⟨z61, ez61⟩ : ∃ z_9, z1 + Int32.ofInt 1 = z_9 := ⟨_, rfl⟩
                    have tz61 : (Int32.toInt z61) = (Int32.toInt z1) + 1 := by rw [← ez61]; exact fb_addIv (a := 0) (b := 1501) (c := 1) (d := 1) ⟨i9a, i9b⟩ ⟨by decide, by decide⟩ (by decide) (by decide)
                    refine r_iinc 88 4 z61 C dX1_takeReal_88 rfl ez61 [(2, .int z61), (1, .int 1), (5, .int z28), (4, .int z27), (3, .int r22), (0, .ref h0)] (by decide) rfl ?_
                    refine r_goto 91 4 C dX1_takeReal_91 (by decide) ?_
                    refine r_lv [(2, .int z61), (1, .int 1), (0, .ref h0)] [0, 1, 5] rfl ?_
                    refine r_pick [(h0, .inr (1, [.ref h3, .ref h4, .ref h1, .int z59, .long z21, .long y1, .int x1, .int x2, .long y2, .long y3])), (h1, .inr (4, [.ref h2, .int x3])), (h2, .inl (gB g, 1500, .inl fn0))] [2, 0, 1] (by decide) rfl ?_
                    exact ih7 z61 1 z59 z21 ⟨by omega, by omega⟩ (by decide) (by omega)
  exact lp6 _ 0 1 x0 y0 (by decide) (by decide) (Nat.lt_succ_self _)
set_option maxHeartbeats 4000000 in
set_option maxRecDepth 100000 in
theorem c69_X2_addReal (l : Launch) (g : GD) (h0 : Nat) (h1 : Nat) (x0 : Int32) (x1 : Int32) (h2 : Nat) (h3 : Nat) (h4 : Nat) (fn0 : Nat → Int32) (i_x0 : (0 ≤ (Int32.toInt x0) ∧ (Int32.toInt x0) ≤ 48)) (i_x1 : (0 ≤ (Int32.toInt x1) ∧ (Int32.toInt x1) ≤ 1)) (sz : Nat) : Met l yX2_addReal wsX2_addReal ({ frames := 2, cells := 0, slots := 0, locals := 41 }) (va_Pc [.ref h0] (PW g [(h0, .inr (2, [.ref h1, .int x0, .int x1, .ref h2, .ref h3, .ref h4])), (h1, .inl (gI g, 48, .inl fn0))] sz)) (va_Qv (fun (u : (Int32) × (Nat → Int32)) => 0 ≤ (Int32.toInt (u.1)) ∧ (Int32.toInt (u.1)) ≤ 48) (BW g (va_A [(h0, .inr (2, [.ref h1, .int x0, .int x1, .ref h2, .ref h3, .ref h4])), (h1, .inl (gI g, 48, .inl fn0))] sz) (fun u : (Int32) × (Nat → Int32) => [(h0, .inr (2, [.ref h1, .int u.1, .int 1, .ref h2, .ref h3, .ref h4])), (h1, .inl (gI g, 48, .inl u.2))])) (va_A [(h0, .inr (2, [.ref h1, .int x0, .int x1, .ref h2, .ref h3, .ref h4])), (h1, .inl (gI g, 48, .inl fn0))] sz)) 0 0 (va_A [(h0, .inr (2, [.ref h1, .int x0, .int x1, .ref h2, .ref h3, .ref h4])), (h1, .inl (gI g, 48, .inl fn0))] sz) := by
  refine met_v RX2 (by decide) rfl rfl (Nat.le_of_ble_eq_true rfl) [(0, .ref h0)] rfl ?_
  intro p e s m args below meth c A Q C hnm Rt
  have hiX2 : ∀ w ∈ wsX20, w ∈ wsX2_addReal := fun w h => List.mem_cons_of_mem _ (List.mem_append_right _ (h))
  refine r_aload_n 0 0 C dX2_addReal_0 rfl ?_
  refine r_iconst 1 0 C dX2_addReal_1 (by decide) ?_
  refine r_callVv 2 C dX2_addReal_2 [] [(h0, .inr (2, [.ref h1, .int x0, .int x1, .ref h2, .ref h3, .ref h4])), (h1, .inl (gI g, 48, .inl fn0))] [] (fun sz => c67_X2_add l g h0 h1 0 x0 x1 h2 h3 h4 fn0 i_x0 i_x1 sz) gX2_addReal_X2_add rfl ⟨rfl, rfl⟩ 1 (by decide) ⟨Nat.le_of_ble_eq_true rfl, Nat.le_of_ble_eq_true rfl⟩ 0 rfl rfl [0, 1] [] rfl rfl (by decide) (by decide) (by decide) rfl rfl (Nat.le_of_ble_eq_true rfl) ⟨Nat.le_of_ble_eq_true rfl, Nat.le_of_ble_eq_true rfl⟩ (fun  u4 w3 => ?_)
  obtain ⟨z1, f2⟩ := u4
  refine r_ws [(h0, .inr (2, [.ref h1, .int z1, .int x1, .ref h2, .ref h3, .ref h4])), (h1, .inl (gI g, 48, .inl f2))] rfl ?_
  have p5 : 0 ≤ (Int32.toInt z1) := w3.1
  have p6 : (Int32.toInt z1) ≤ 48 := w3.2
  refine r_aload_n 5 0 C dX2_addReal_5 rfl ?_
  refine r_iconst 6 1 C dX2_addReal_6 (by decide) ?_
  refine r_put 7 C dX2_addReal_7 (k := 2) 0 rfl rfl hiX2 tyX2 tyX2_ok nmX2 (by decide) rfl (mg 1 rfl) (Or.inl rfl) rfl rfl rfl rfl (Nat.le_of_ble_eq_true rfl) [(h0, .inr (2, [.ref h1, .int z1, .int 1, .ref h2, .ref h3, .ref h4])), (h1, .inl (gI g, 48, .inl f2))] rfl ?_
  exact r_vret 10 Rt dX2_addReal_10 (z1, f2) (show 0 ≤ (Int32.toInt z1) ∧ (Int32.toInt z1) ≤ 48 from ⟨(show _ ∧ _ from ⟨p5, p6⟩).1, (show _ ∧ _ from ⟨p5, p6⟩).2⟩) [0, 1] (by decide) rfl (Nat.le_of_ble_eq_true rfl) (Nat.le_of_ble_eq_true rfl)
set_option maxHeartbeats 4000000 in
set_option maxRecDepth 100000 in
theorem c70_X2_slotOf (l : Launch) (g : GD) (x0 : Int32) (sz : Nat) : Met l yX2_slotOf wsX2_slotOf ({ frames := 0, cells := 0, slots := 0, locals := 0 }) (va_Pc [.int x0] (PW g [] sz)) (va_Qi (fun (r : Int32) (_ : Unit) => -1 ≤ (Int32.toInt r) ∧ (Int32.toInt r) ≤ 5) (BW g (va_A [] sz) (fun _ : Unit => [])) (va_A [] sz)) 0 0 (va_A [] sz) := by
  refine met_i RX2 (by decide) rfl rfl (Nat.le_of_ble_eq_true rfl) [(0, .int x0)] rfl ?_
  intro p e s m args below meth c A Q C hnm Rt
  have gx0 := fb_rng x0
  refine r_iload_n 0 0 C dX2_slotOf_0 rfl ?_
  by_cases c1 : x0 = 17
  · skip
    have k2 : (Int32.toInt x0) = 17 := (fa_eq x0 17).mp c1
    refine r_lookup 1 60 (off := 59) C dX2_slotOf_1 (by decide) (by rw [c1]; decide) (by decide) ?_
    refine r_iconst 60 0 C dX2_slotOf_60 (by decide) ?_
    exact r_iret 61 Rt dX2_slotOf_61 () (show -1 ≤ (Int32.toInt 0) ∧ (Int32.toInt 0) ≤ 5 from ⟨(by ((repeat' apply And.intro) <;> first | trivial | rfl | assumption | omega | decide | exact Or.inl rfl | exact Or.inr (Or.inl rfl) | exact Or.inr (Or.inr rfl))), (by ((repeat' apply And.intro) <;> first | trivial | rfl | assumption | omega | decide | exact Or.inl rfl | exact Or.inr (Or.inl rfl) | exact Or.inr (Or.inr rfl)))⟩) [] (by decide) rfl (Nat.le_of_ble_eq_true rfl) (Nat.le_of_ble_eq_true rfl)
  · skip
    have k3 : ¬ ((Int32.toInt x0) = 17) := fun h_9 => c1 ((fa_eq x0 17).mpr h_9)
    by_cases c4 : x0 = 18
    · skip
      have k5 : (Int32.toInt x0) = 18 := (fa_eq x0 18).mp c4
      refine r_lookup 1 62 (off := 61) C dX2_slotOf_1 (by decide) (by rw [c4]; decide) (by decide) ?_
      refine r_iconst 62 1 C dX2_slotOf_62 (by decide) ?_
      exact r_iret 63 Rt dX2_slotOf_63 () (show -1 ≤ (Int32.toInt 1) ∧ (Int32.toInt 1) ≤ 5 from ⟨(by ((repeat' apply And.intro) <;> first | trivial | rfl | assumption | omega | decide | exact Or.inl rfl | exact Or.inr (Or.inl rfl) | exact Or.inr (Or.inr rfl))), (by ((repeat' apply And.intro) <;> first | trivial | rfl | assumption | omega | decide | exact Or.inl rfl | exact Or.inr (Or.inl rfl) | exact Or.inr (Or.inr rfl)))⟩) [] (by decide) rfl (Nat.le_of_ble_eq_true rfl) (Nat.le_of_ble_eq_true rfl)
    · skip
      have k6 : ¬ ((Int32.toInt x0) = 18) := fun h_9 => c4 ((fa_eq x0 18).mpr h_9)
      by_cases c7 : x0 = 19
      · skip
        have k8 : (Int32.toInt x0) = 19 := (fa_eq x0 19).mp c7
        refine r_lookup 1 66 (off := 65) C dX2_slotOf_1 (by decide) (by rw [c7]; decide) (by decide) ?_
        refine r_iconst 66 3 C dX2_slotOf_66 (by decide) ?_
        exact r_iret 67 Rt dX2_slotOf_67 () (show -1 ≤ (Int32.toInt 3) ∧ (Int32.toInt 3) ≤ 5 from ⟨(by ((repeat' apply And.intro) <;> first | trivial | rfl | assumption | omega | decide | exact Or.inl rfl | exact Or.inr (Or.inl rfl) | exact Or.inr (Or.inr rfl))), (by ((repeat' apply And.intro) <;> first | trivial | rfl | assumption | omega | decide | exact Or.inl rfl | exact Or.inr (Or.inl rfl) | exact Or.inr (Or.inr rfl)))⟩) [] (by decide) rfl (Nat.le_of_ble_eq_true rfl) (Nat.le_of_ble_eq_true rfl)
      · skip
        have k9 : ¬ ((Int32.toInt x0) = 19) := fun h_9 => c7 ((fa_eq x0 19).mpr h_9)
        by_cases c10 : x0 = 20
        · skip
          have k11 : (Int32.toInt x0) = 20 := (fa_eq x0 20).mp c10
          refine r_lookup 1 68 (off := 67) C dX2_slotOf_1 (by decide) (by rw [c10]; decide) (by decide) ?_
          refine r_iconst 68 4 C dX2_slotOf_68 (by decide) ?_
          exact r_iret 69 Rt dX2_slotOf_69 () (show -1 ≤ (Int32.toInt 4) ∧ (Int32.toInt 4) ≤ 5 from ⟨(by ((repeat' apply And.intro) <;> first | trivial | rfl | assumption | omega | decide | exact Or.inl rfl | exact Or.inr (Or.inl rfl) | exact Or.inr (Or.inr rfl))), (by ((repeat' apply And.intro) <;> first | trivial | rfl | assumption | omega | decide | exact Or.inl rfl | exact Or.inr (Or.inl rfl) | exact Or.inr (Or.inr rfl)))⟩) [] (by decide) rfl (Nat.le_of_ble_eq_true rfl) (Nat.le_of_ble_eq_true rfl)
        · skip
          have k12 : ¬ ((Int32.toInt x0) = 20) := fun h_9 => c10 ((fa_eq x0 20).mpr h_9)
          by_cases c13 : x0 = 21
          · skip
            have k14 : (Int32.toInt x0) = 21 := (fa_eq x0 21).mp c13
            refine r_lookup 1 70 (off := 69) C dX2_slotOf_1 (by decide) (by rw [c13]; decide) (by decide) ?_
            refine r_iconst 70 5 C dX2_slotOf_70 (by decide) ?_
            exact r_iret 71 Rt dX2_slotOf_71 () (show -1 ≤ (Int32.toInt 5) ∧ (Int32.toInt 5) ≤ 5 from ⟨(by ((repeat' apply And.intro) <;> first | trivial | rfl | assumption | omega | decide | exact Or.inl rfl | exact Or.inr (Or.inl rfl) | exact Or.inr (Or.inr rfl))), (by ((repeat' apply And.intro) <;> first | trivial | rfl | assumption | omega | decide | exact Or.inl rfl | exact Or.inr (Or.inl rfl) | exact Or.inr (Or.inr rfl)))⟩) [] (by decide) rfl (Nat.le_of_ble_eq_true rfl) (Nat.le_of_ble_eq_true rfl)
          · skip
            have k15 : ¬ ((Int32.toInt x0) = 21) := fun h_9 => c13 ((fa_eq x0 21).mpr h_9)
            by_cases c16 : x0 = 262
            · skip
              have k17 : (Int32.toInt x0) = 262 := (fa_eq x0 262).mp c16
              refine r_lookup 1 64 (off := 63) C dX2_slotOf_1 (by decide) (by rw [c16]; decide) (by decide) ?_
              refine r_iconst 64 2 C dX2_slotOf_64 (by decide) ?_
              exact r_iret 65 Rt dX2_slotOf_65 () (show -1 ≤ (Int32.toInt 2) ∧ (Int32.toInt 2) ≤ 5 from ⟨(by ((repeat' apply And.intro) <;> first | trivial | rfl | assumption | omega | decide | exact Or.inl rfl | exact Or.inr (Or.inl rfl) | exact Or.inr (Or.inr rfl))), (by ((repeat' apply And.intro) <;> first | trivial | rfl | assumption | omega | decide | exact Or.inl rfl | exact Or.inr (Or.inl rfl) | exact Or.inr (Or.inr rfl)))⟩) [] (by decide) rfl (Nat.le_of_ble_eq_true rfl) (Nat.le_of_ble_eq_true rfl)
            · skip
              have k18 : ¬ ((Int32.toInt x0) = 262) := fun h_9 => c16 ((fa_eq x0 262).mpr h_9)
              refine r_lookup 1 72 (off := 71) C dX2_slotOf_1 (by decide) ((lv_osw c1 rfl).trans ((lv_osw c4 rfl).trans ((lv_osw c7 rfl).trans ((lv_osw c10 rfl).trans ((lv_osw c13 rfl).trans ((lv_osw c16 rfl).trans rfl)))))) (by decide) ?_
              refine r_iconst 72 (-1) C dX2_slotOf_72 (by decide) ?_
              exact r_iret 73 Rt dX2_slotOf_73 () (show -1 ≤ (Int32.toInt (-1)) ∧ (Int32.toInt (-1)) ≤ 5 from ⟨(by ((repeat' apply And.intro) <;> first | trivial | rfl | assumption | omega | decide | exact Or.inl rfl | exact Or.inr (Or.inl rfl) | exact Or.inr (Or.inr rfl))), (by ((repeat' apply And.intro) <;> first | trivial | rfl | assumption | omega | decide | exact Or.inl rfl | exact Or.inr (Or.inl rfl) | exact Or.inr (Or.inr rfl)))⟩) [] (by decide) rfl (Nat.le_of_ble_eq_true rfl) (Nat.le_of_ble_eq_true rfl)
set_option maxHeartbeats 4000000 in
set_option maxRecDepth 100000 in
theorem c71_X2_tell (l : Launch) (g : GD) (h0 : Nat) (h1 : Nat) (h2 : Nat) (h3 : Nat) (h4 : Nat) (x0 : Int32) (x1 : Int32) (x2 : Int32) (fn0 : Nat → Int32) (fn1 : Nat → Int32) (fn2 : Nat → Int32) (fn3 : Nat → Int32) (i_x1 : (0 ≤ (Int32.toInt x1) ∧ (Int32.toInt x1) ≤ 48)) (i_x2 : (0 ≤ (Int32.toInt x2) ∧ (Int32.toInt x2) ≤ 1)) (sz : Nat) : Met l yX2_tell wsX2_tell ({ frames := 1, cells := 0, slots := 0, locals := 20 }) (va_Pc [.ref h0, .int x0] (PW g [(h0, .inr (2, [.ref h1, .int x1, .int x2, .ref h2, .ref h3, .ref h4])), (h1, .inl (gI g, 48, .inl fn0)), (h2, .inl (gI g, 6, .inl fn1)), (h3, .inl (gI g, 6, .inl fn2)), (h4, .inl (gI g, 6, .inl fn3))] sz)) (va_Qv (fun (u : (Nat → Int32) × (Nat → Int32) × (Nat → Int32)) => True) (BW g (va_A [(h0, .inr (2, [.ref h1, .int x1, .int x2, .ref h2, .ref h3, .ref h4])), (h1, .inl (gI g, 48, .inl fn0)), (h2, .inl (gI g, 6, .inl fn1)), (h3, .inl (gI g, 6, .inl fn2)), (h4, .inl (gI g, 6, .inl fn3))] sz) (fun u : (Nat → Int32) × (Nat → Int32) × (Nat → Int32) => [(h0, .inr (2, [.ref h1, .int 0, .int 0, .ref h2, .ref h3, .ref h4])), (h1, .inl (gI g, 48, .inl fn0)), (h2, .inl (gI g, 6, .inl u.1)), (h3, .inl (gI g, 6, .inl u.2.1)), (h4, .inl (gI g, 6, .inl u.2.2))])) (va_A [(h0, .inr (2, [.ref h1, .int x1, .int x2, .ref h2, .ref h3, .ref h4])), (h1, .inl (gI g, 48, .inl fn0)), (h2, .inl (gI g, 6, .inl fn1)), (h3, .inl (gI g, 6, .inl fn2)), (h4, .inl (gI g, 6, .inl fn3))] sz)) 0 0 (va_A [(h0, .inr (2, [.ref h1, .int x1, .int x2, .ref h2, .ref h3, .ref h4])), (h1, .inl (gI g, 48, .inl fn0)), (h2, .inl (gI g, 6, .inl fn1)), (h3, .inl (gI g, 6, .inl fn2)), (h4, .inl (gI g, 6, .inl fn3))] sz) := by
  refine met_v RX2 (by decide) rfl rfl (Nat.le_of_ble_eq_true rfl) [(0, .ref h0), (1, .int x0)] rfl ?_
  intro p e s m args below meth c A Q C hnm Rt
  have hiX2 : ∀ w ∈ wsX20, w ∈ wsX2_tell := fun w h => List.mem_cons_of_mem _ (List.mem_append_right _ (h))
  refine r_iload_n 0 1 C dX2_tell_0 rfl ?_
  refine r_callSi 1 C dX2_tell_1 [] [] [(h0, .inr (2, [.ref h1, .int x1, .int x2, .ref h2, .ref h3, .ref h4])), (h1, .inl (gI g, 48, .inl fn0)), (h2, .inl (gI g, 6, .inl fn1)), (h3, .inl (gI g, 6, .inl fn2)), (h4, .inl (gI g, 6, .inl fn3))] (fun sz => c70_X2_slotOf l g x0  sz) gX2_tell_X2_slotOf rfl ⟨rfl, rfl⟩ 1 (by decide) ⟨Nat.le_of_ble_eq_true rfl, Nat.le_of_ble_eq_true rfl⟩ [] [0, 1, 2, 3, 4] rfl rfl (by decide) (by decide) (by decide) rfl rfl (Nat.le_of_ble_eq_true rfl) ⟨Nat.le_of_ble_eq_true rfl, Nat.le_of_ble_eq_true rfl⟩ (fun r1 _ w2 => ?_)
  refine r_ws [(h0, .inr (2, [.ref h1, .int x1, .int x2, .ref h2, .ref h3, .ref h4])), (h1, .inl (gI g, 48, .inl fn0)), (h2, .inl (gI g, 6, .inl fn1)), (h3, .inl (gI g, 6, .inl fn2)), (h4, .inl (gI g, 6, .inl fn3))] rfl ?_
  have p3 : -1 ≤ (Int32.toInt r1) := w2.1
  have p4 : (Int32.toInt r1) ≤ 5 := w2.2
  refine r_istore_n 4 C dX2_tell_4 [(2, .int r1), (0, .ref h0), (1, .int x0)] (by decide) rfl ?_
  refine r_iload_n 5 0 C dX2_tell_5 rfl ?_
  refine r_iconst 6 (-1) C dX2_tell_6 (by decide) ?_
  refine r_icmp_eq 7 79 C dX2_tell_7 (by decide) (fun c5 => ?_) (fun c5 => ?_)
  · skip
    have k6 : (Int32.toInt r1) = (-1) := (fa_eq r1 (-1)).mp c5
    refine r_aload_n 79 1 C dX2_tell_79 rfl ?_
    refine r_iconst 80 0 C dX2_tell_80 (by decide) ?_
    refine r_put 81 C dX2_tell_81 (k := 1) 0 rfl rfl hiX2 tyX2 tyX2_ok nmX2 (by decide) rfl (mg 3 rfl) (Or.inl rfl) rfl rfl rfl rfl (Nat.le_of_ble_eq_true rfl) [(h0, .inr (2, [.ref h1, .int 0, .int x2, .ref h2, .ref h3, .ref h4])), (h1, .inl (gI g, 48, .inl fn0)), (h2, .inl (gI g, 6, .inl fn1)), (h3, .inl (gI g, 6, .inl fn2)), (h4, .inl (gI g, 6, .inl fn3))] rfl ?_
    refine r_aload_n 84 1 C dX2_tell_84 rfl ?_
    refine r_iconst 85 0 C dX2_tell_85 (by decide) ?_
    refine r_put 86 C dX2_tell_86 (k := 2) 0 rfl rfl hiX2 tyX2 tyX2_ok nmX2 (by decide) rfl (mg 2 rfl) (Or.inl rfl) rfl rfl rfl rfl (Nat.le_of_ble_eq_true rfl) [(h0, .inr (2, [.ref h1, .int 0, .int 0, .ref h2, .ref h3, .ref h4])), (h1, .inl (gI g, 48, .inl fn0)), (h2, .inl (gI g, 6, .inl fn1)), (h3, .inl (gI g, 6, .inl fn2)), (h4, .inl (gI g, 6, .inl fn3))] rfl ?_
    exact r_vret 89 Rt dX2_tell_89 (fn1, fn2, fn3) trivial [0, 1, 2, 3, 4] (by decide) rfl (Nat.le_of_ble_eq_true rfl) (Nat.le_of_ble_eq_true rfl)
  · skip
    have k7 : ¬ ((Int32.toInt r1) = (-1)) := fun h_9 => c5 ((fa_eq r1 (-1)).mpr h_9)
    refine r_aload_n 10 1 C dX2_tell_10 rfl ?_
    refine r_get 11 C dX2_tell_11 (k := 3) 0 rfl rfl hiX2 (by decide) rfl (mg 1 rfl) (Or.inl rfl) rfl ?_
    refine r_iload_n 14 0 C dX2_tell_14 rfl ?_
    refine r_aload_n 15 1 C dX2_tell_15 rfl ?_
    refine r_get 16 C dX2_tell_16 (k := 2) 0 rfl rfl hiX2 (by decide) rfl (mg 2 rfl) (Or.inl rfl) rfl ?_
    refine r_if_eq 19 27 C dX2_tell_19 (by decide) (fun c8 => ?_) (fun c8 => ?_)
    · skip
      have k9 : (Int32.toInt x2) = 0 := (fa_eq x2 0).mp c8
      refine r_aload_n 27 1 C dX2_tell_27 rfl ?_
      refine r_get 28 C dX2_tell_28 (k := 1) 0 rfl rfl hiX2 (by decide) rfl (mg 3 rfl) (Or.inl rfl) rfl ?_
      obtain ⟨f10, ef10⟩ : ∃ f_9, upd fn1 (Int32.toNatClampNeg r1) x1 = f_9 := ⟨_, rfl⟩
      refine r_iast 31 C dX2_tell_31 2 rfl (vinI (by omega) (by omega)) f10 ef10 [(h0, .inr (2, [.ref h1, .int x1, .int x2, .ref h2, .ref h3, .ref h4])), (h1, .inl (gI g, 48, .inl fn0)), (h2, .inl (gI g, 6, .inl f10)), (h3, .inl (gI g, 6, .inl fn2)), (h4, .inl (gI g, 6, .inl fn3))] rfl ?_
      refine r_aload_n 32 1 C dX2_tell_32 rfl ?_
      refine r_get 33 C dX2_tell_33 (k := 4) 0 rfl rfl hiX2 (by decide) rfl (mg 4 rfl) (Or.inl rfl) rfl ?_
      refine r_iload_n 36 0 C dX2_tell_36 rfl ?_
      refine r_aload_n 37 1 C dX2_tell_37 rfl ?_
      refine r_get 38 C dX2_tell_38 (k := 1) 0 rfl rfl hiX2 (by decide) rfl (mg 3 rfl) (Or.inl rfl) rfl ?_
      refine r_if_le 41 53 C dX2_tell_41 (by decide) (fun c11 => ?_) (fun c11 => ?_)
      · skip
        have k12 : (Int32.toInt x1) ≤ 0 := (fa_le x1 0).mp c11
        refine r_iconst 53 0 C dX2_tell_53 (by decide) ?_
        obtain ⟨f13, ef13⟩ : ∃ f_9, upd fn2 (Int32.toNatClampNeg r1) 0 = f_9 := ⟨_, rfl⟩
        refine r_iast 54 C dX2_tell_54 3 rfl (vinI (by omega) (by omega)) f13 ef13 [(h0, .inr (2, [.ref h1, .int x1, .int x2, .ref h2, .ref h3, .ref h4])), (h1, .inl (gI g, 48, .inl fn0)), (h2, .inl (gI g, 6, .inl f10)), (h3, .inl (gI g, 6, .inl f13)), (h4, .inl (gI g, 6, .inl fn3))] rfl ?_
        refine r_aload_n 55 1 C dX2_tell_55 rfl ?_
        refine r_get 56 C dX2_tell_56 (k := 5) 0 rfl rfl hiX2 (by decide) rfl (mg 6 rfl) (Or.inl rfl) rfl ?_
        refine r_iload_n 59 0 C dX2_tell_59 rfl ?_
        refine r_aload_n 60 1 C dX2_tell_60 rfl ?_
        refine r_get 61 C dX2_tell_61 (k := 1) 0 rfl rfl hiX2 (by decide) rfl (mg 3 rfl) (Or.inl rfl) rfl ?_
        refine r_iconst 64 1 C dX2_tell_64 (by decide) ?_
        refine r_icmp_le_t 65 77 C dX2_tell_65 (by decide) ((fa_le x1 1).mpr (by show (Int32.toInt x1) ≤ 1; omega)) ?_
        refine r_iconst 77 0 C dX2_tell_77 (by decide) ?_
        obtain ⟨f14, ef14⟩ : ∃ f_9, upd fn3 (Int32.toNatClampNeg r1) 0 = f_9 := ⟨_, rfl⟩
        refine r_iast 78 C dX2_tell_78 4 rfl (vinI (by omega) (by omega)) f14 ef14 [(h0, .inr (2, [.ref h1, .int x1, .int x2, .ref h2, .ref h3, .ref h4])), (h1, .inl (gI g, 48, .inl fn0)), (h2, .inl (gI g, 6, .inl f10)), (h3, .inl (gI g, 6, .inl f13)), (h4, .inl (gI g, 6, .inl f14))] rfl ?_
        refine r_aload_n 79 1 C dX2_tell_79 rfl ?_
        refine r_iconst 80 0 C dX2_tell_80 (by decide) ?_
        refine r_put 81 C dX2_tell_81 (k := 1) 0 rfl rfl hiX2 tyX2 tyX2_ok nmX2 (by decide) rfl (mg 3 rfl) (Or.inl rfl) rfl rfl rfl rfl (Nat.le_of_ble_eq_true rfl) [(h0, .inr (2, [.ref h1, .int 0, .int x2, .ref h2, .ref h3, .ref h4])), (h1, .inl (gI g, 48, .inl fn0)), (h2, .inl (gI g, 6, .inl f10)), (h3, .inl (gI g, 6, .inl f13)), (h4, .inl (gI g, 6, .inl f14))] rfl ?_
        refine r_aload_n 84 1 C dX2_tell_84 rfl ?_
        refine r_iconst 85 0 C dX2_tell_85 (by decide) ?_
        refine r_put 86 C dX2_tell_86 (k := 2) 0 rfl rfl hiX2 tyX2 tyX2_ok nmX2 (by decide) rfl (mg 2 rfl) (Or.inl rfl) rfl rfl rfl rfl (Nat.le_of_ble_eq_true rfl) [(h0, .inr (2, [.ref h1, .int 0, .int 0, .ref h2, .ref h3, .ref h4])), (h1, .inl (gI g, 48, .inl fn0)), (h2, .inl (gI g, 6, .inl f10)), (h3, .inl (gI g, 6, .inl f13)), (h4, .inl (gI g, 6, .inl f14))] rfl ?_
        exact r_vret 89 Rt dX2_tell_89 (f10, f13, f14) trivial [0, 1, 2, 3, 4] (by decide) rfl (Nat.le_of_ble_eq_true rfl) (Nat.le_of_ble_eq_true rfl)
      · skip
        have k15 : ¬ ((Int32.toInt x1) ≤ 0) := fun h_9 => c11 ((fa_le x1 0).mpr h_9)
        refine r_aload_n 44 1 C dX2_tell_44 rfl ?_
        refine r_get 45 C dX2_tell_45 (k := 0) 0 rfl rfl hiX2 (by decide) rfl (mg 5 rfl) (Or.inl rfl) rfl ?_
        refine r_iconst 48 0 C dX2_tell_48 (by decide) ?_
        obtain ⟨z16, ez16⟩ : ∃ z_9, fn0 (Int32.toNatClampNeg 0) = z_9 := ⟨_, rfl⟩
        refine r_iald 49 z16 C dX2_tell_49 1 rfl (vin (by decide)) ez16 ?_
        have gz16 := fb_rng z16
        refine r_goto 50 54 C dX2_tell_50 (by decide) ?_
        obtain ⟨f17, ef17⟩ : ∃ f_9, upd fn2 (Int32.toNatClampNeg r1) z16 = f_9 := ⟨_, rfl⟩
        refine r_iast 54 C dX2_tell_54 3 rfl (vinI (by omega) (by omega)) f17 ef17 [(h0, .inr (2, [.ref h1, .int x1, .int x2, .ref h2, .ref h3, .ref h4])), (h1, .inl (gI g, 48, .inl fn0)), (h2, .inl (gI g, 6, .inl f10)), (h3, .inl (gI g, 6, .inl f17)), (h4, .inl (gI g, 6, .inl fn3))] rfl ?_
        refine r_aload_n 55 1 C dX2_tell_55 rfl ?_
        refine r_get 56 C dX2_tell_56 (k := 5) 0 rfl rfl hiX2 (by decide) rfl (mg 6 rfl) (Or.inl rfl) rfl ?_
        refine r_iload_n 59 0 C dX2_tell_59 rfl ?_
        refine r_aload_n 60 1 C dX2_tell_60 rfl ?_
        refine r_get 61 C dX2_tell_61 (k := 1) 0 rfl rfl hiX2 (by decide) rfl (mg 3 rfl) (Or.inl rfl) rfl ?_
        refine r_iconst 64 1 C dX2_tell_64 (by decide) ?_
        refine r_icmp_le 65 77 C dX2_tell_65 (by decide) (fun c18 => ?_) (fun c18 => ?_)
        · skip
          have k19 : (Int32.toInt x1) ≤ 1 := (fa_le x1 1).mp c18
          refine r_iconst 77 0 C dX2_tell_77 (by decide) ?_
          obtain ⟨f20, ef20⟩ : ∃ f_9, upd fn3 (Int32.toNatClampNeg r1) 0 = f_9 := ⟨_, rfl⟩
          refine r_iast 78 C dX2_tell_78 4 rfl (vinI (by omega) (by omega)) f20 ef20 [(h0, .inr (2, [.ref h1, .int x1, .int x2, .ref h2, .ref h3, .ref h4])), (h1, .inl (gI g, 48, .inl fn0)), (h2, .inl (gI g, 6, .inl f10)), (h3, .inl (gI g, 6, .inl f17)), (h4, .inl (gI g, 6, .inl f20))] rfl ?_
          refine r_aload_n 79 1 C dX2_tell_79 rfl ?_
          refine r_iconst 80 0 C dX2_tell_80 (by decide) ?_
          refine r_put 81 C dX2_tell_81 (k := 1) 0 rfl rfl hiX2 tyX2 tyX2_ok nmX2 (by decide) rfl (mg 3 rfl) (Or.inl rfl) rfl rfl rfl rfl (Nat.le_of_ble_eq_true rfl) [(h0, .inr (2, [.ref h1, .int 0, .int x2, .ref h2, .ref h3, .ref h4])), (h1, .inl (gI g, 48, .inl fn0)), (h2, .inl (gI g, 6, .inl f10)), (h3, .inl (gI g, 6, .inl f17)), (h4, .inl (gI g, 6, .inl f20))] rfl ?_
          refine r_aload_n 84 1 C dX2_tell_84 rfl ?_
          refine r_iconst 85 0 C dX2_tell_85 (by decide) ?_
          refine r_put 86 C dX2_tell_86 (k := 2) 0 rfl rfl hiX2 tyX2 tyX2_ok nmX2 (by decide) rfl (mg 2 rfl) (Or.inl rfl) rfl rfl rfl rfl (Nat.le_of_ble_eq_true rfl) [(h0, .inr (2, [.ref h1, .int 0, .int 0, .ref h2, .ref h3, .ref h4])), (h1, .inl (gI g, 48, .inl fn0)), (h2, .inl (gI g, 6, .inl f10)), (h3, .inl (gI g, 6, .inl f17)), (h4, .inl (gI g, 6, .inl f20))] rfl ?_
          exact r_vret 89 Rt dX2_tell_89 (f10, f17, f20) trivial [0, 1, 2, 3, 4] (by decide) rfl (Nat.le_of_ble_eq_true rfl) (Nat.le_of_ble_eq_true rfl)
        · skip
          have k21 : ¬ ((Int32.toInt x1) ≤ 1) := fun h_9 => c18 ((fa_le x1 1).mpr h_9)
          refine r_aload_n 68 1 C dX2_tell_68 rfl ?_
          refine r_get 69 C dX2_tell_69 (k := 0) 0 rfl rfl hiX2 (by decide) rfl (mg 5 rfl) (Or.inl rfl) rfl ?_
          refine r_iconst 72 1 C dX2_tell_72 (by decide) ?_
          obtain ⟨z22, ez22⟩ : ∃ z_9, fn0 (Int32.toNatClampNeg 1) = z_9 := ⟨_, rfl⟩
          refine r_iald 73 z22 C dX2_tell_73 1 rfl (vin (by decide)) ez22 ?_
          have gz22 := fb_rng z22
          refine r_goto 74 78 C dX2_tell_74 (by decide) ?_
          obtain ⟨f23, ef23⟩ : ∃ f_9, upd fn3 (Int32.toNatClampNeg r1) z22 = f_9 := ⟨_, rfl⟩
          refine r_iast 78 C dX2_tell_78 4 rfl (vinI (by omega) (by omega)) f23 ef23 [(h0, .inr (2, [.ref h1, .int x1, .int x2, .ref h2, .ref h3, .ref h4])), (h1, .inl (gI g, 48, .inl fn0)), (h2, .inl (gI g, 6, .inl f10)), (h3, .inl (gI g, 6, .inl f17)), (h4, .inl (gI g, 6, .inl f23))] rfl ?_
          refine r_aload_n 79 1 C dX2_tell_79 rfl ?_
          refine r_iconst 80 0 C dX2_tell_80 (by decide) ?_
          refine r_put 81 C dX2_tell_81 (k := 1) 0 rfl rfl hiX2 tyX2 tyX2_ok nmX2 (by decide) rfl (mg 3 rfl) (Or.inl rfl) rfl rfl rfl rfl (Nat.le_of_ble_eq_true rfl) [(h0, .inr (2, [.ref h1, .int 0, .int x2, .ref h2, .ref h3, .ref h4])), (h1, .inl (gI g, 48, .inl fn0)), (h2, .inl (gI g, 6, .inl f10)), (h3, .inl (gI g, 6, .inl f17)), (h4, .inl (gI g, 6, .inl f23))] rfl ?_
          refine r_aload_n 84 1 C dX2_tell_84 rfl ?_
          refine r_iconst 85 0 C dX2_tell_85 (by decide) ?_
          refine r_put 86 C dX2_tell_86 (k := 2) 0 rfl rfl hiX2 tyX2 tyX2_ok nmX2 (by decide) rfl (mg 2 rfl) (Or.inl rfl) rfl rfl rfl rfl (Nat.le_of_ble_eq_true rfl) [(h0, .inr (2, [.ref h1, .int 0, .int 0, .ref h2, .ref h3, .ref h4])), (h1, .inl (gI g, 48, .inl fn0)), (h2, .inl (gI g, 6, .inl f10)), (h3, .inl (gI g, 6, .inl f17)), (h4, .inl (gI g, 6, .inl f23))] rfl ?_
          exact r_vret 89 Rt dX2_tell_89 (f10, f17, f23) trivial [0, 1, 2, 3, 4] (by decide) rfl (Nat.le_of_ble_eq_true rfl) (Nat.le_of_ble_eq_true rfl)
    · skip
      have k24 : ¬ ((Int32.toInt x2) = 0) := fun h_9 => c8 ((fa_eq x2 0).mpr h_9)
      refine r_bipush 22 49 C dX2_tell_22 (by decide) ?_
      refine r_goto 24 31 C dX2_tell_24 (by decide) ?_
      obtain ⟨f25, ef25⟩ : ∃ f_9, upd fn1 (Int32.toNatClampNeg r1) 49 = f_9 := ⟨_, rfl⟩
      refine r_iast 31 C dX2_tell_31 2 rfl (vinI (by omega) (by omega)) f25 ef25 [(h0, .inr (2, [.ref h1, .int x1, .int x2, .ref h2, .ref h3, .ref h4])), (h1, .inl (gI g, 48, .inl fn0)), (h2, .inl (gI g, 6, .inl f25)), (h3, .inl (gI g, 6, .inl fn2)), (h4, .inl (gI g, 6, .inl fn3))] rfl ?_
      refine r_aload_n 32 1 C dX2_tell_32 rfl ?_
      refine r_get 33 C dX2_tell_33 (k := 4) 0 rfl rfl hiX2 (by decide) rfl (mg 4 rfl) (Or.inl rfl) rfl ?_
      refine r_iload_n 36 0 C dX2_tell_36 rfl ?_
      refine r_aload_n 37 1 C dX2_tell_37 rfl ?_
      refine r_get 38 C dX2_tell_38 (k := 1) 0 rfl rfl hiX2 (by decide) rfl (mg 3 rfl) (Or.inl rfl) rfl ?_
      refine r_if_le 41 53 C dX2_tell_41 (by decide) (fun c26 => ?_) (fun c26 => ?_)
      · skip
        have k27 : (Int32.toInt x1) ≤ 0 := (fa_le x1 0).mp c26
        refine r_iconst 53 0 C dX2_tell_53 (by decide) ?_
        obtain ⟨f28, ef28⟩ : ∃ f_9, upd fn2 (Int32.toNatClampNeg r1) 0 = f_9 := ⟨_, rfl⟩
        refine r_iast 54 C dX2_tell_54 3 rfl (vinI (by omega) (by omega)) f28 ef28 [(h0, .inr (2, [.ref h1, .int x1, .int x2, .ref h2, .ref h3, .ref h4])), (h1, .inl (gI g, 48, .inl fn0)), (h2, .inl (gI g, 6, .inl f25)), (h3, .inl (gI g, 6, .inl f28)), (h4, .inl (gI g, 6, .inl fn3))] rfl ?_
        refine r_aload_n 55 1 C dX2_tell_55 rfl ?_
        refine r_get 56 C dX2_tell_56 (k := 5) 0 rfl rfl hiX2 (by decide) rfl (mg 6 rfl) (Or.inl rfl) rfl ?_
        refine r_iload_n 59 0 C dX2_tell_59 rfl ?_
        refine r_aload_n 60 1 C dX2_tell_60 rfl ?_
        refine r_get 61 C dX2_tell_61 (k := 1) 0 rfl rfl hiX2 (by decide) rfl (mg 3 rfl) (Or.inl rfl) rfl ?_
        refine r_iconst 64 1 C dX2_tell_64 (by decide) ?_
        refine r_icmp_le_t 65 77 C dX2_tell_65 (by decide) ((fa_le x1 1).mpr (by show (Int32.toInt x1) ≤ 1; omega)) ?_
        refine r_iconst 77 0 C dX2_tell_77 (by decide) ?_
        obtain ⟨f29, ef29⟩ : ∃ f_9, upd fn3 (Int32.toNatClampNeg r1) 0 = f_9 := ⟨_, rfl⟩
        refine r_iast 78 C dX2_tell_78 4 rfl (vinI (by omega) (by omega)) f29 ef29 [(h0, .inr (2, [.ref h1, .int x1, .int x2, .ref h2, .ref h3, .ref h4])), (h1, .inl (gI g, 48, .inl fn0)), (h2, .inl (gI g, 6, .inl f25)), (h3, .inl (gI g, 6, .inl f28)), (h4, .inl (gI g, 6, .inl f29))] rfl ?_
        refine r_aload_n 79 1 C dX2_tell_79 rfl ?_
        refine r_iconst 80 0 C dX2_tell_80 (by decide) ?_
        refine r_put 81 C dX2_tell_81 (k := 1) 0 rfl rfl hiX2 tyX2 tyX2_ok nmX2 (by decide) rfl (mg 3 rfl) (Or.inl rfl) rfl rfl rfl rfl (Nat.le_of_ble_eq_true rfl) [(h0, .inr (2, [.ref h1, .int 0, .int x2, .ref h2, .ref h3, .ref h4])), (h1, .inl (gI g, 48, .inl fn0)), (h2, .inl (gI g, 6, .inl f25)), (h3, .inl (gI g, 6, .inl f28)), (h4, .inl (gI g, 6, .inl f29))] rfl ?_
        refine r_aload_n 84 1 C dX2_tell_84 rfl ?_
        refine r_iconst 85 0 C dX2_tell_85 (by decide) ?_
        refine r_put 86 C dX2_tell_86 (k := 2) 0 rfl rfl hiX2 tyX2 tyX2_ok nmX2 (by decide) rfl (mg 2 rfl) (Or.inl rfl) rfl rfl rfl rfl (Nat.le_of_ble_eq_true rfl) [(h0, .inr (2, [.ref h1, .int 0, .int 0, .ref h2, .ref h3, .ref h4])), (h1, .inl (gI g, 48, .inl fn0)), (h2, .inl (gI g, 6, .inl f25)), (h3, .inl (gI g, 6, .inl f28)), (h4, .inl (gI g, 6, .inl f29))] rfl ?_
        exact r_vret 89 Rt dX2_tell_89 (f25, f28, f29) trivial [0, 1, 2, 3, 4] (by decide) rfl (Nat.le_of_ble_eq_true rfl) (Nat.le_of_ble_eq_true rfl)
      · skip
        have k30 : ¬ ((Int32.toInt x1) ≤ 0) := fun h_9 => c26 ((fa_le x1 0).mpr h_9)
        refine r_aload_n 44 1 C dX2_tell_44 rfl ?_
        refine r_get 45 C dX2_tell_45 (k := 0) 0 rfl rfl hiX2 (by decide) rfl (mg 5 rfl) (Or.inl rfl) rfl ?_
        refine r_iconst 48 0 C dX2_tell_48 (by decide) ?_
        obtain ⟨z31, ez31⟩ : ∃ z_9, fn0 (Int32.toNatClampNeg 0) = z_9 := ⟨_, rfl⟩
        refine r_iald 49 z31 C dX2_tell_49 1 rfl (vin (by decide)) ez31 ?_
        have gz31 := fb_rng z31
        refine r_goto 50 54 C dX2_tell_50 (by decide) ?_
        obtain ⟨f32, ef32⟩ : ∃ f_9, upd fn2 (Int32.toNatClampNeg r1) z31 = f_9 := ⟨_, rfl⟩
        refine r_iast 54 C dX2_tell_54 3 rfl (vinI (by omega) (by omega)) f32 ef32 [(h0, .inr (2, [.ref h1, .int x1, .int x2, .ref h2, .ref h3, .ref h4])), (h1, .inl (gI g, 48, .inl fn0)), (h2, .inl (gI g, 6, .inl f25)), (h3, .inl (gI g, 6, .inl f32)), (h4, .inl (gI g, 6, .inl fn3))] rfl ?_
        refine r_aload_n 55 1 C dX2_tell_55 rfl ?_
        refine r_get 56 C dX2_tell_56 (k := 5) 0 rfl rfl hiX2 (by decide) rfl (mg 6 rfl) (Or.inl rfl) rfl ?_
        refine r_iload_n 59 0 C dX2_tell_59 rfl ?_
        refine r_aload_n 60 1 C dX2_tell_60 rfl ?_
        refine r_get 61 C dX2_tell_61 (k := 1) 0 rfl rfl hiX2 (by decide) rfl (mg 3 rfl) (Or.inl rfl) rfl ?_
        refine r_iconst 64 1 C dX2_tell_64 (by decide) ?_
        refine r_icmp_le 65 77 C dX2_tell_65 (by decide) (fun c33 => ?_) (fun c33 => ?_)
        · skip
          have k34 : (Int32.toInt x1) ≤ 1 := (fa_le x1 1).mp c33
          refine r_iconst 77 0 C dX2_tell_77 (by decide) ?_
          obtain ⟨f35, ef35⟩ : ∃ f_9, upd fn3 (Int32.toNatClampNeg r1) 0 = f_9 := ⟨_, rfl⟩
          refine r_iast 78 C dX2_tell_78 4 rfl (vinI (by omega) (by omega)) f35 ef35 [(h0, .inr (2, [.ref h1, .int x1, .int x2, .ref h2, .ref h3, .ref h4])), (h1, .inl (gI g, 48, .inl fn0)), (h2, .inl (gI g, 6, .inl f25)), (h3, .inl (gI g, 6, .inl f32)), (h4, .inl (gI g, 6, .inl f35))] rfl ?_
          refine r_aload_n 79 1 C dX2_tell_79 rfl ?_
          refine r_iconst 80 0 C dX2_tell_80 (by decide) ?_
          refine r_put 81 C dX2_tell_81 (k := 1) 0 rfl rfl hiX2 tyX2 tyX2_ok nmX2 (by decide) rfl (mg 3 rfl) (Or.inl rfl) rfl rfl rfl rfl (Nat.le_of_ble_eq_true rfl) [(h0, .inr (2, [.ref h1, .int 0, .int x2, .ref h2, .ref h3, .ref h4])), (h1, .inl (gI g, 48, .inl fn0)), (h2, .inl (gI g, 6, .inl f25)), (h3, .inl (gI g, 6, .inl f32)), (h4, .inl (gI g, 6, .inl f35))] rfl ?_
          refine r_aload_n 84 1 C dX2_tell_84 rfl ?_
          refine r_iconst 85 0 C dX2_tell_85 (by decide) ?_
          refine r_put 86 C dX2_tell_86 (k := 2) 0 rfl rfl hiX2 tyX2 tyX2_ok nmX2 (by decide) rfl (mg 2 rfl) (Or.inl rfl) rfl rfl rfl rfl (Nat.le_of_ble_eq_true rfl) [(h0, .inr (2, [.ref h1, .int 0, .int 0, .ref h2, .ref h3, .ref h4])), (h1, .inl (gI g, 48, .inl fn0)), (h2, .inl (gI g, 6, .inl f25)), (h3, .inl (gI g, 6, .inl f32)), (h4, .inl (gI g, 6, .inl f35))] rfl ?_
          exact r_vret 89 Rt dX2_tell_89 (f25, f32, f35) trivial [0, 1, 2, 3, 4] (by decide) rfl (Nat.le_of_ble_eq_true rfl) (Nat.le_of_ble_eq_true rfl)
        · skip
          have k36 : ¬ ((Int32.toInt x1) ≤ 1) := fun h_9 => c33 ((fa_le x1 1).mpr h_9)
          refine r_aload_n 68 1 C dX2_tell_68 rfl ?_
          refine r_get 69 C dX2_tell_69 (k := 0) 0 rfl rfl hiX2 (by decide) rfl (mg 5 rfl) (Or.inl rfl) rfl ?_
          refine r_iconst 72 1 C dX2_tell_72 (by decide) ?_
          obtain ⟨z37, ez37⟩ : ∃ z_9, fn0 (Int32.toNatClampNeg 1) = z_9 := ⟨_, rfl⟩
          refine r_iald 73 z37 C dX2_tell_73 1 rfl (vin (by decide)) ez37 ?_
          have gz37 := fb_rng z37
          refine r_goto 74 78 C dX2_tell_74 (by decide) ?_
          obtain ⟨f38, ef38⟩ : ∃ f_9, upd fn3 (Int32.toNatClampNeg r1) z37 = f_9 := ⟨_, rfl⟩
          refine r_iast 78 C dX2_tell_78 4 rfl (vinI (by omega) (by omega)) f38 ef38 [(h0, .inr (2, [.ref h1, .int x1, .int x2, .ref h2, .ref h3, .ref h4])), (h1, .inl (gI g, 48, .inl fn0)), (h2, .inl (gI g, 6, .inl f25)), (h3, .inl (gI g, 6, .inl f32)), (h4, .inl (gI g, 6, .inl f38))] rfl ?_
          refine r_aload_n 79 1 C dX2_tell_79 rfl ?_
          refine r_iconst 80 0 C dX2_tell_80 (by decide) ?_
          refine r_put 81 C dX2_tell_81 (k := 1) 0 rfl rfl hiX2 tyX2 tyX2_ok nmX2 (by decide) rfl (mg 3 rfl) (Or.inl rfl) rfl rfl rfl rfl (Nat.le_of_ble_eq_true rfl) [(h0, .inr (2, [.ref h1, .int 0, .int x2, .ref h2, .ref h3, .ref h4])), (h1, .inl (gI g, 48, .inl fn0)), (h2, .inl (gI g, 6, .inl f25)), (h3, .inl (gI g, 6, .inl f32)), (h4, .inl (gI g, 6, .inl f38))] rfl ?_
          refine r_aload_n 84 1 C dX2_tell_84 rfl ?_
          refine r_iconst 85 0 C dX2_tell_85 (by decide) ?_
          refine r_put 86 C dX2_tell_86 (k := 2) 0 rfl rfl hiX2 tyX2 tyX2_ok nmX2 (by decide) rfl (mg 2 rfl) (Or.inl rfl) rfl rfl rfl rfl (Nat.le_of_ble_eq_true rfl) [(h0, .inr (2, [.ref h1, .int 0, .int 0, .ref h2, .ref h3, .ref h4])), (h1, .inl (gI g, 48, .inl fn0)), (h2, .inl (gI g, 6, .inl f25)), (h3, .inl (gI g, 6, .inl f32)), (h4, .inl (gI g, 6, .inl f38))] rfl ?_
          exact r_vret 89 Rt dX2_tell_89 (f25, f32, f38) trivial [0, 1, 2, 3, 4] (by decide) rfl (Nat.le_of_ble_eq_true rfl) (Nat.le_of_ble_eq_true rfl)
set_option maxHeartbeats 4000000 in
set_option maxRecDepth 100000 in
theorem c72_X1_takeOperandOrOperator (l : Launch) (g : GD) (h0 : Nat) (h1 : Nat) (h2 : Nat) (h3 : Nat) (h4 : Nat) (h5 : Nat) (h6 : Nat) (h7 : Nat) (h8 : Nat) (x0 : Int32) (y0 : Int64) (y1 : Int64) (x1 : Int32) (x2 : Int32) (y2 : Int64) (y3 : Int64) (x3 : Int32) (x4 : Int32) (x5 : Int32) (fn0 : Nat → Int32) (fn1 : Nat → Int32) (fn2 : Nat → Int32) (fn3 : Nat → Int32) (fn4 : Nat → Int32) (i_x1 : (-257 ≤ (Int32.toInt x1) ∧ (Int32.toInt x1) ≤ 65535)) (i_x3 : (0 ≤ (Int32.toInt x3) ∧ (Int32.toInt x3) ≤ 48)) (i_x4 : (0 ≤ (Int32.toInt x4) ∧ (Int32.toInt x4) ≤ 1)) (i_x5 : (0 ≤ (Int32.toInt x5) ∧ (Int32.toInt x5) ≤ 1500)) (sz : Nat) : Met l yX1_takeOperandOrOperator wsX1_takeOperandOrOperator ({ frames := 3, cells := 0, slots := 0, locals := 68 }) (va_Pc [.ref h0] (PW g [(h0, .inr (1, [.ref h1, .ref h8, .ref h2, .int x0, .long y0, .long y1, .int x1, .int x2, .long y2, .long y3])), (h1, .inr (2, [.ref h3, .int x3, .int x4, .ref h4, .ref h5, .ref h6])), (h2, .inr (4, [.ref h7, .int x5])), (h3, .inl (gI g, 48, .inl fn0)), (h4, .inl (gI g, 6, .inl fn1)), (h5, .inl (gI g, 6, .inl fn2)), (h6, .inl (gI g, 6, .inl fn3)), (h7, .inl (gB g, 1500, .inl fn4))] sz)) (va_Qv (fun (u : (Int32) × (Int64) × (Int32) × (Int32) × (Nat → Int32) × (Nat → Int32) × (Nat → Int32) × (Nat → Int32)) => 0 ≤ (Int32.toInt (u.2.2.1)) ∧ (Int32.toInt (u.2.2.1)) ≤ 48 ∧ 0 ≤ (Int32.toInt (u.2.2.2.1)) ∧ (Int32.toInt (u.2.2.2.1)) ≤ 1) (BW g (va_A [(h0, .inr (1, [.ref h1, .ref h8, .ref h2, .int x0, .long y0, .long y1, .int x1, .int x2, .long y2, .long y3])), (h1, .inr (2, [.ref h3, .int x3, .int x4, .ref h4, .ref h5, .ref h6])), (h2, .inr (4, [.ref h7, .int x5])), (h3, .inl (gI g, 48, .inl fn0)), (h4, .inl (gI g, 6, .inl fn1)), (h5, .inl (gI g, 6, .inl fn2)), (h6, .inl (gI g, 6, .inl fn3)), (h7, .inl (gB g, 1500, .inl fn4))] sz) (fun u : (Int32) × (Int64) × (Int32) × (Int32) × (Nat → Int32) × (Nat → Int32) × (Nat → Int32) × (Nat → Int32) => [(h0, .inr (1, [.ref h1, .ref h8, .ref h2, .int u.1, .long u.2.1, .long y1, .int x1, .int x2, .long y2, .long y3])), (h1, .inr (2, [.ref h3, .int u.2.2.1, .int u.2.2.2.1, .ref h4, .ref h5, .ref h6])), (h2, .inr (4, [.ref h7, .int x5])), (h3, .inl (gI g, 48, .inl u.2.2.2.2.1)), (h4, .inl (gI g, 6, .inl u.2.2.2.2.2.1)), (h5, .inl (gI g, 6, .inl u.2.2.2.2.2.2.1)), (h6, .inl (gI g, 6, .inl u.2.2.2.2.2.2.2)), (h7, .inl (gB g, 1500, .inl fn4))])) (va_A [(h0, .inr (1, [.ref h1, .ref h8, .ref h2, .int x0, .long y0, .long y1, .int x1, .int x2, .long y2, .long y3])), (h1, .inr (2, [.ref h3, .int x3, .int x4, .ref h4, .ref h5, .ref h6])), (h2, .inr (4, [.ref h7, .int x5])), (h3, .inl (gI g, 48, .inl fn0)), (h4, .inl (gI g, 6, .inl fn1)), (h5, .inl (gI g, 6, .inl fn2)), (h6, .inl (gI g, 6, .inl fn3)), (h7, .inl (gB g, 1500, .inl fn4))] sz)) 0 0 (va_A [(h0, .inr (1, [.ref h1, .ref h8, .ref h2, .int x0, .long y0, .long y1, .int x1, .int x2, .long y2, .long y3])), (h1, .inr (2, [.ref h3, .int x3, .int x4, .ref h4, .ref h5, .ref h6])), (h2, .inr (4, [.ref h7, .int x5])), (h3, .inl (gI g, 48, .inl fn0)), (h4, .inl (gI g, 6, .inl fn1)), (h5, .inl (gI g, 6, .inl fn2)), (h6, .inl (gI g, 6, .inl fn3)), (h7, .inl (gB g, 1500, .inl fn4))] sz) := by
  refine met_v RX1 (by decide) rfl rfl (Nat.le_of_ble_eq_true rfl) [(0, .ref h0)] rfl ?_
  intro p e s m args below meth c A Q C hnm Rt
  have hiX1 : ∀ w ∈ wsX10, w ∈ wsX1_takeOperandOrOperator := fun w h => List.mem_cons_of_mem _ (List.mem_append_left _ (List.mem_append_left _ (List.mem_append_right _ (h))))
  refine r_aload_n 0 0 C dX1_takeOperandOrOperator_0 rfl ?_
  refine r_callVi 1 C dX1_takeOperandOrOperator_1 [] [(h0, .inr (1, [.ref h1, .ref h8, .ref h2, .int x0, .long y0, .long y1, .int x1, .int x2, .long y2, .long y3])), (h2, .inr (4, [.ref h7, .int x5])), (h7, .inl (gB g, 1500, .inl fn4))] [(h1, .inr (2, [.ref h3, .int x3, .int x4, .ref h4, .ref h5, .ref h6])), (h3, .inl (gI g, 48, .inl fn0)), (h4, .inl (gI g, 6, .inl fn1)), (h5, .inl (gI g, 6, .inl fn2)), (h6, .inl (gI g, 6, .inl fn3))] (fun sz => c52_X1_take l g h0 h2 h7 h1 h8 x0 y0 y1 x1 x2 y2 y3 x5 fn4 i_x1 i_x5 sz) gX1_takeOperandOrOperator_X1_take rfl ⟨rfl, rfl⟩ 0 (by decide) ⟨Nat.le_of_ble_eq_true rfl, Nat.le_of_ble_eq_true rfl⟩ 0 rfl rfl [0, 2, 7] [1, 3, 4, 5, 6] rfl rfl (by decide) (by decide) (by decide) rfl rfl (Nat.le_of_ble_eq_true rfl) ⟨Nat.le_of_ble_eq_true rfl, Nat.le_of_ble_eq_true rfl⟩ (fun r3 u5 w4 => ?_)
  obtain ⟨z1, z2⟩ := u5
  refine r_ws [(h1, .inr (2, [.ref h3, .int x3, .int x4, .ref h4, .ref h5, .ref h6])), (h3, .inl (gI g, 48, .inl fn0)), (h4, .inl (gI g, 6, .inl fn1)), (h5, .inl (gI g, 6, .inl fn2)), (h6, .inl (gI g, 6, .inl fn3)), (h0, .inr (1, [.ref h1, .ref h8, .ref h2, .int z1, .long z2, .long y1, .int x1, .int x2, .long y2, .long y3])), (h2, .inr (4, [.ref h7, .int x5])), (h7, .inl (gB g, 1500, .inl fn4))] rfl ?_
  have gz1 := fb_rng z1
  have gz2 := fb_rngL z2
  have p6 : -1 ≤ (Int32.toInt r3) := w4.1
  have p7 : (Int32.toInt r3) ≤ 255 := w4.2
  refine r_istore_n 4 C dX1_takeOperandOrOperator_4 [(1, .int r3), (0, .ref h0)] (by decide) rfl ?_
  refine r_iload_n 5 0 C dX1_takeOperandOrOperator_5 rfl ?_
  refine r_bipush 6 21 C dX1_takeOperandOrOperator_6 (by decide) ?_
  refine r_icmp_gt 8 46 C dX1_takeOperandOrOperator_8 (by decide) (fun c8 => ?_) (fun c8 => ?_)
  · skip
    have k9 : 21 < (Int32.toInt r3) := (fa_lt 21 r3).mp c8
    refine r_aload_n 46 1 C dX1_takeOperandOrOperator_46 rfl ?_
    refine r_aload_n 47 1 C dX1_takeOperandOrOperator_47 rfl ?_
    refine r_get 48 C dX1_takeOperandOrOperator_48 (k := 0) 5 rfl rfl hiX1 (by decide) rfl (mg 2 rfl) (Or.inl rfl) rfl ?_
    refine r_callVi 51 C dX1_takeOperandOrOperator_51 [.ref h0] [(h1, .inr (2, [.ref h3, .int x3, .int x4, .ref h4, .ref h5, .ref h6]))] [(h3, .inl (gI g, 48, .inl fn0)), (h4, .inl (gI g, 6, .inl fn1)), (h5, .inl (gI g, 6, .inl fn2)), (h6, .inl (gI g, 6, .inl fn3)), (h0, .inr (1, [.ref h1, .ref h8, .ref h2, .int z1, .long z2, .long y1, .int x1, .int x2, .long y2, .long y3])), (h2, .inr (4, [.ref h7, .int x5])), (h7, .inl (gB g, 1500, .inl fn4))] (fun sz => c63_X2_isFull l g h1 h3 x3 x4 h4 h5 h6 i_x3 i_x4 sz) gX1_takeOperandOrOperator_X2_isFull rfl ⟨rfl, rfl⟩ 0 (by decide) ⟨Nat.le_of_ble_eq_true rfl, Nat.le_of_ble_eq_true rfl⟩ 0 rfl rfl [0] [1, 2, 3, 4, 5, 6, 7] rfl rfl (by decide) (by decide) (by decide) rfl rfl (Nat.le_of_ble_eq_true rfl) ⟨Nat.le_of_ble_eq_true rfl, Nat.le_of_ble_eq_true rfl⟩ (fun r10 _ w11 => ?_)
    refine r_ws [(h3, .inl (gI g, 48, .inl fn0)), (h4, .inl (gI g, 6, .inl fn1)), (h5, .inl (gI g, 6, .inl fn2)), (h6, .inl (gI g, 6, .inl fn3)), (h0, .inr (1, [.ref h1, .ref h8, .ref h2, .int z1, .long z2, .long y1, .int x1, .int x2, .long y2, .long y3])), (h2, .inr (4, [.ref h7, .int x5])), (h7, .inl (gB g, 1500, .inl fn4)), (h1, .inr (2, [.ref h3, .int x3, .int x4, .ref h4, .ref h5, .ref h6]))] rfl ?_
    have w12 : (((Int32.toInt x3) < 48 ∧ r10 = 0) ∨ (¬ ((Int32.toInt x3) < 48) ∧ r10 = 1)) := w11
    rcases w12 with ⟨k13, k14⟩ | w12
    · skip
      have k14 := k14.symm
      subst k14
      refine r_if_ne_f 54 68 C dX1_takeOperandOrOperator_54 (by decide) (by decide) ?_
      refine r_iload_n 57 0 C dX1_takeOperandOrOperator_57 rfl ?_
      refine r_callSi 58 C dX1_takeOperandOrOperator_58 [.ref h0] [] [(h3, .inl (gI g, 48, .inl fn0)), (h4, .inl (gI g, 6, .inl fn1)), (h5, .inl (gI g, 6, .inl fn2)), (h6, .inl (gI g, 6, .inl fn3)), (h0, .inr (1, [.ref h1, .ref h8, .ref h2, .int z1, .long z2, .long y1, .int x1, .int x2, .long y2, .long y3])), (h2, .inr (4, [.ref h7, .int x5])), (h7, .inl (gB g, 1500, .inl fn4)), (h1, .inr (2, [.ref h3, .int x3, .int x4, .ref h4, .ref h5, .ref h6]))] (fun sz => c64_X1_isOperand l g r3  sz) gX1_takeOperandOrOperator_X1_isOperand rfl ⟨rfl, rfl⟩ 1 (by decide) ⟨Nat.le_of_ble_eq_true rfl, Nat.le_of_ble_eq_true rfl⟩ [] [0, 1, 2, 3, 4, 5, 6, 7] rfl rfl (by decide) (by decide) (by decide) rfl rfl (Nat.le_of_ble_eq_true rfl) ⟨Nat.le_of_ble_eq_true rfl, Nat.le_of_ble_eq_true rfl⟩ (fun r15 _ w16 => ?_)
      refine r_ws [(h3, .inl (gI g, 48, .inl fn0)), (h4, .inl (gI g, 6, .inl fn1)), (h5, .inl (gI g, 6, .inl fn2)), (h6, .inl (gI g, 6, .inl fn3)), (h0, .inr (1, [.ref h1, .ref h8, .ref h2, .int z1, .long z2, .long y1, .int x1, .int x2, .long y2, .long y3])), (h2, .inr (4, [.ref h7, .int x5])), (h7, .inl (gB g, 1500, .inl fn4)), (h1, .inr (2, [.ref h3, .int x3, .int x4, .ref h4, .ref h5, .ref h6]))] rfl ?_
      have p17 : 0 ≤ (Int32.toInt r15) := w16.1
      have p18 : (Int32.toInt r15) ≤ 1 := w16.2
      refine r_if_eq 61 68 C dX1_takeOperandOrOperator_61 (by decide) (fun c19 => ?_) (fun c19 => ?_)
      · skip
        have k20 : (Int32.toInt r15) = 0 := (fa_eq r15 0).mp c19
        refine r_iconst 68 0 C dX1_takeOperandOrOperator_68 (by decide) ?_
        refine r_callVv 69 C dX1_takeOperandOrOperator_69 [] [(h0, .inr (1, [.ref h1, .ref h8, .ref h2, .int z1, .long z2, .long y1, .int x1, .int x2, .long y2, .long y3]))] [(h3, .inl (gI g, 48, .inl fn0)), (h4, .inl (gI g, 6, .inl fn1)), (h5, .inl (gI g, 6, .inl fn2)), (h6, .inl (gI g, 6, .inl fn3)), (h2, .inr (4, [.ref h7, .int x5])), (h7, .inl (gB g, 1500, .inl fn4)), (h1, .inr (2, [.ref h3, .int x3, .int x4, .ref h4, .ref h5, .ref h6]))] (fun sz => c53_X1_want l g h0 0 h1 h8 h2 z1 z2 y1 x1 x2 y2 y3 (by decide) i_x1 sz) gX1_takeOperandOrOperator_X1_want rfl ⟨rfl, rfl⟩ 1 (by decide) ⟨Nat.le_of_ble_eq_true rfl, Nat.le_of_ble_eq_true rfl⟩ 4 rfl rfl [4] [0, 1, 2, 3, 5, 6, 7] rfl rfl (by decide) (by decide) (by decide) rfl rfl (Nat.le_of_ble_eq_true rfl) ⟨Nat.le_of_ble_eq_true rfl, Nat.le_of_ble_eq_true rfl⟩ (fun  z21 w22 => ?_)
        refine r_ws [(h3, .inl (gI g, 48, .inl fn0)), (h4, .inl (gI g, 6, .inl fn1)), (h5, .inl (gI g, 6, .inl fn2)), (h6, .inl (gI g, 6, .inl fn3)), (h2, .inr (4, [.ref h7, .int x5])), (h7, .inl (gB g, 1500, .inl fn4)), (h1, .inr (2, [.ref h3, .int x3, .int x4, .ref h4, .ref h5, .ref h6])), (h0, .inr (1, [.ref h1, .ref h8, .ref h2, .int z21, .long z2, .long y1, .int x1, .int x2, .long y2, .long y3]))] rfl ?_
        have gz21 := fb_rng z21
        refine r_aload_n 72 1 C dX1_takeOperandOrOperator_72 rfl ?_
        refine r_get 73 C dX1_takeOperandOrOperator_73 (k := 3) 7 rfl rfl hiX1 (by decide) rfl (mg 1 rfl) (Or.inl rfl) rfl ?_
        refine r_if_ne 76 99 C dX1_takeOperandOrOperator_76 (by decide) (fun c23 => ?_) (fun c23 => ?_)
        · skip
          have k24 : ¬ ((Int32.toInt z21) = 0) := fun h_9 => c23 ((fa_eq z21 0).mpr h_9)
          refine r_aload_n 99 1 C dX1_takeOperandOrOperator_99 rfl ?_
          refine r_get 100 C dX1_takeOperandOrOperator_100 (k := 3) 7 rfl rfl hiX1 (by decide) rfl (mg 1 rfl) (Or.inl rfl) rfl ?_
          refine r_if_ne 103 126 C dX1_takeOperandOrOperator_103 (by decide) (fun c25 => ?_) (fun c25 => ?_)
          · skip
            have k26 : ¬ ((Int32.toInt z21) = 0) := fun h_9 => c25 ((fa_eq z21 0).mpr h_9)
            exact r_vret 126 Rt dX1_takeOperandOrOperator_126 (z21, z2, x3, x4, fn0, fn1, fn2, fn3) (show 0 ≤ (Int32.toInt x3) ∧ (Int32.toInt x3) ≤ 48 ∧ 0 ≤ (Int32.toInt x4) ∧ (Int32.toInt x4) ≤ 1 from ⟨i_x3.1, i_x3.2, i_x4.1, i_x4.2⟩) [7, 6, 4, 0, 1, 2, 3, 5] (by decide) rfl (Nat.le_of_ble_eq_true rfl) (Nat.le_of_ble_eq_true rfl)
          · skip
            have k27 : (Int32.toInt z21) = 0 := (fa_eq z21 0).mp c25
            refine r_aload_n 106 1 C dX1_takeOperandOrOperator_106 rfl ?_
            refine r_get 107 C dX1_takeOperandOrOperator_107 (k := 0) 7 rfl rfl hiX1 (by decide) rfl (mg 2 rfl) (Or.inl rfl) rfl ?_
            refine r_iload_n 110 0 C dX1_takeOperandOrOperator_110 rfl ?_
            refine r_aload_n 111 1 C dX1_takeOperandOrOperator_111 rfl ?_
            refine r_iload_n 112 0 C dX1_takeOperandOrOperator_112 rfl ?_
            refine r_callSNi 113 C dX1_takeOperandOrOperator_113 [.ref h0, .int r3, .ref h1] [] [(h3, .inl (gI g, 48, .inl fn0)), (h4, .inl (gI g, 6, .inl fn1)), (h5, .inl (gI g, 6, .inl fn2)), (h6, .inl (gI g, 6, .inl fn3)), (h2, .inr (4, [.ref h7, .int x5])), (h7, .inl (gB g, 1500, .inl fn4)), (h1, .inr (2, [.ref h3, .int x3, .int x4, .ref h4, .ref h5, .ref h6])), (h0, .inr (1, [.ref h1, .ref h8, .ref h2, .int z21, .long z2, .long y1, .int x1, .int x2, .long y2, .long y3]))] (fun sz => c65_X11_bytesBehind l g r3  sz) gX1_takeOperandOrOperator_X11_bytesBehind_n171 rfl ⟨rfl, rfl⟩ 1 (by decide) ⟨Nat.le_of_ble_eq_true rfl, Nat.le_of_ble_eq_true rfl⟩ (mg 25 rfl) (mg 65 rfl) (mg 64 rfl) [] [0, 1, 2, 3, 4, 5, 6, 7] rfl rfl (by decide) (by decide) (by decide) rfl rfl (Nat.le_of_ble_eq_true rfl) ⟨Nat.le_of_ble_eq_true rfl, Nat.le_of_ble_eq_true rfl⟩ (fun r28 _ w29 => ?_)
            refine r_ws [(h3, .inl (gI g, 48, .inl fn0)), (h4, .inl (gI g, 6, .inl fn1)), (h5, .inl (gI g, 6, .inl fn2)), (h6, .inl (gI g, 6, .inl fn3)), (h2, .inr (4, [.ref h7, .int x5])), (h7, .inl (gB g, 1500, .inl fn4)), (h1, .inr (2, [.ref h3, .int x3, .int x4, .ref h4, .ref h5, .ref h6])), (h0, .inr (1, [.ref h1, .ref h8, .ref h2, .int z21, .long z2, .long y1, .int x1, .int x2, .long y2, .long y3]))] rfl ?_
            have p30 : 0 ≤ (Int32.toInt r28) := w29.1
            have p31 : (Int32.toInt r28) ≤ 4 := w29.2
            refine r_callVl 116 C dX1_takeOperandOrOperator_116 [.int r3, .ref h1] [(h0, .inr (1, [.ref h1, .ref h8, .ref h2, .int z21, .long z2, .long y1, .int x1, .int x2, .long y2, .long y3])), (h2, .inr (4, [.ref h7, .int x5])), (h7, .inl (gB g, 1500, .inl fn4))] [(h3, .inl (gI g, 48, .inl fn0)), (h4, .inl (gI g, 6, .inl fn1)), (h5, .inl (gI g, 6, .inl fn2)), (h6, .inl (gI g, 6, .inl fn3)), (h1, .inr (2, [.ref h3, .int x3, .int x4, .ref h4, .ref h5, .ref h6]))] (fun sz => c56_X1_takeNumber l g h0 h2 h7 r28 h1 h8 z21 z2 y1 x1 x2 y2 y3 x5 fn4 i_x1 i_x5 sz) gX1_takeOperandOrOperator_X1_takeNumber rfl ⟨rfl, rfl⟩ 1 (by decide) ⟨Nat.le_of_ble_eq_true rfl, Nat.le_of_ble_eq_true rfl⟩ 7 rfl rfl [7, 4, 5] [0, 1, 2, 3, 6] rfl rfl (by decide) (by decide) (by decide) rfl rfl (Nat.le_of_ble_eq_true rfl) ⟨Nat.le_of_ble_eq_true rfl, Nat.le_of_ble_eq_true rfl⟩ (fun r34 u36 w35 => ?_)
            obtain ⟨z32, z33⟩ := u36
            refine r_ws [(h3, .inl (gI g, 48, .inl fn0)), (h4, .inl (gI g, 6, .inl fn1)), (h5, .inl (gI g, 6, .inl fn2)), (h6, .inl (gI g, 6, .inl fn3)), (h1, .inr (2, [.ref h3, .int x3, .int x4, .ref h4, .ref h5, .ref h6])), (h0, .inr (1, [.ref h1, .ref h8, .ref h2, .int z32, .long z33, .long y1, .int x1, .int x2, .long y2, .long y3])), (h2, .inr (4, [.ref h7, .int x5])), (h7, .inl (gB g, 1500, .inl fn4))] rfl ?_
            have gz32 := fb_rng z32
            have gz33 := fb_rngL z33
            have gr34 := fb_rngL r34
            obtain ⟨z37, ez37⟩ : ∃ z_9, Int64.toInt32 r34 = z_9 := ⟨_, rfl⟩
            have gz37 := fb_rng z37
            refine r_l2i 119 z37 C dX1_takeOperandOrOperator_119 ez37 ?_
            refine r_callSNi 120 C dX1_takeOperandOrOperator_120 [.ref h1] [] [(h3, .inl (gI g, 48, .inl fn0)), (h4, .inl (gI g, 6, .inl fn1)), (h5, .inl (gI g, 6, .inl fn2)), (h6, .inl (gI g, 6, .inl fn3)), (h1, .inr (2, [.ref h3, .int x3, .int x4, .ref h4, .ref h5, .ref h6])), (h0, .inr (1, [.ref h1, .ref h8, .ref h2, .int z32, .long z33, .long y1, .int x1, .int x2, .long y2, .long y3])), (h2, .inr (4, [.ref h7, .int x5])), (h7, .inl (gB g, 1500, .inl fn4))] (fun sz => c66_X11_wholeNumber l g r3 z37  sz) gX1_takeOperandOrOperator_X11_wholeNumber_n174 rfl ⟨rfl, rfl⟩ 2 (by decide) ⟨Nat.le_of_ble_eq_true rfl, Nat.le_of_ble_eq_true rfl⟩ (mg 26 rfl) (mg 65 rfl) (mg 72 rfl) [] [0, 1, 2, 3, 4, 5, 6, 7] rfl rfl (by decide) (by decide) (by decide) rfl rfl (Nat.le_of_ble_eq_true rfl) ⟨Nat.le_of_ble_eq_true rfl, Nat.le_of_ble_eq_true rfl⟩ (fun r38 _ w39 => ?_)
            refine r_ws [(h3, .inl (gI g, 48, .inl fn0)), (h4, .inl (gI g, 6, .inl fn1)), (h5, .inl (gI g, 6, .inl fn2)), (h6, .inl (gI g, 6, .inl fn3)), (h1, .inr (2, [.ref h3, .int x3, .int x4, .ref h4, .ref h5, .ref h6])), (h0, .inr (1, [.ref h1, .ref h8, .ref h2, .int z32, .long z33, .long y1, .int x1, .int x2, .long y2, .long y3])), (h2, .inr (4, [.ref h7, .int x5])), (h7, .inl (gB g, 1500, .inl fn4))] rfl ?_
            have gr38 := fb_rng r38
            refine r_callVv 123 C dX1_takeOperandOrOperator_123 [] [(h1, .inr (2, [.ref h3, .int x3, .int x4, .ref h4, .ref h5, .ref h6])), (h3, .inl (gI g, 48, .inl fn0))] [(h4, .inl (gI g, 6, .inl fn1)), (h5, .inl (gI g, 6, .inl fn2)), (h6, .inl (gI g, 6, .inl fn3)), (h0, .inr (1, [.ref h1, .ref h8, .ref h2, .int z32, .long z33, .long y1, .int x1, .int x2, .long y2, .long y3])), (h2, .inr (4, [.ref h7, .int x5])), (h7, .inl (gB g, 1500, .inl fn4))] (fun sz => c67_X2_add l g h1 h3 r38 x3 x4 h4 h5 h6 fn0 i_x3 i_x4 sz) gX1_takeOperandOrOperator_X2_add rfl ⟨rfl, rfl⟩ 1 (by decide) ⟨Nat.le_of_ble_eq_true rfl, Nat.le_of_ble_eq_true rfl⟩ 4 rfl rfl [4, 0] [1, 2, 3, 5, 6, 7] rfl rfl (by decide) (by decide) (by decide) rfl rfl (Nat.le_of_ble_eq_true rfl) ⟨Nat.le_of_ble_eq_true rfl, Nat.le_of_ble_eq_true rfl⟩ (fun  u43 w42 => ?_)
            obtain ⟨z40, f41⟩ := u43
            refine r_ws [(h4, .inl (gI g, 6, .inl fn1)), (h5, .inl (gI g, 6, .inl fn2)), (h6, .inl (gI g, 6, .inl fn3)), (h0, .inr (1, [.ref h1, .ref h8, .ref h2, .int z32, .long z33, .long y1, .int x1, .int x2, .long y2, .long y3])), (h2, .inr (4, [.ref h7, .int x5])), (h7, .inl (gB g, 1500, .inl fn4)), (h1, .inr (2, [.ref h3, .int z40, .int x4, .ref h4, .ref h5, .ref h6])), (h3, .inl (gI g, 48, .inl f41))] rfl ?_
            have p44 : 0 ≤ (Int32.toInt z40) := w42.1
            have p45 : (Int32.toInt z40) ≤ 48 := w42.2
            exact r_vret 126 Rt dX1_takeOperandOrOperator_126 (z32, z33, z40, x4, f41, fn1, fn2, fn3) (show 0 ≤ (Int32.toInt z40) ∧ (Int32.toInt z40) ≤ 48 ∧ 0 ≤ (Int32.toInt x4) ∧ (Int32.toInt x4) ≤ 1 from ⟨(show _ ∧ _ from ⟨p44, p45⟩).1, (show _ ∧ _ from ⟨p44, p45⟩).2, i_x4.1, i_x4.2⟩) [3, 6, 4, 7, 0, 1, 2, 5] (by decide) rfl (Nat.le_of_ble_eq_true rfl) (Nat.le_of_ble_eq_true rfl)
        · skip
          have k46 : (Int32.toInt z21) = 0 := (fa_eq z21 0).mp c23
          refine r_iload_n 79 0 C dX1_takeOperandOrOperator_79 rfl ?_
          refine r_bipush 80 30 C dX1_takeOperandOrOperator_80 (by decide) ?_
          refine r_icmp_ne 82 99 C dX1_takeOperandOrOperator_82 (by decide) (fun c47 => ?_) (fun c47 => ?_)
          · skip
            have k48 : ¬ ((Int32.toInt r3) = 30) := fun h_9 => c47 ((fa_eq r3 30).mpr h_9)
            refine r_aload_n 99 1 C dX1_takeOperandOrOperator_99 rfl ?_
            refine r_get 100 C dX1_takeOperandOrOperator_100 (k := 3) 7 rfl rfl hiX1 (by decide) rfl (mg 1 rfl) (Or.inl rfl) rfl ?_
            refine r_if_ne_f 103 126 C dX1_takeOperandOrOperator_103 (by decide) ((fa_eq z21 0).mpr (by show (Int32.toInt z21) = 0; omega)) ?_
            refine r_aload_n 106 1 C dX1_takeOperandOrOperator_106 rfl ?_
            refine r_get 107 C dX1_takeOperandOrOperator_107 (k := 0) 7 rfl rfl hiX1 (by decide) rfl (mg 2 rfl) (Or.inl rfl) rfl ?_
            refine r_iload_n 110 0 C dX1_takeOperandOrOperator_110 rfl ?_
            refine r_aload_n 111 1 C dX1_takeOperandOrOperator_111 rfl ?_
            refine r_iload_n 112 0 C dX1_takeOperandOrOperator_112 rfl ?_
            refine r_callSNi 113 C dX1_takeOperandOrOperator_113 [.ref h0, .int r3, .ref h1] [] [(h3, .inl (gI g, 48, .inl fn0)), (h4, .inl (gI g, 6, .inl fn1)), (h5, .inl (gI g, 6, .inl fn2)), (h6, .inl (gI g, 6, .inl fn3)), (h2, .inr (4, [.ref h7, .int x5])), (h7, .inl (gB g, 1500, .inl fn4)), (h1, .inr (2, [.ref h3, .int x3, .int x4, .ref h4, .ref h5, .ref h6])), (h0, .inr (1, [.ref h1, .ref h8, .ref h2, .int z21, .long z2, .long y1, .int x1, .int x2, .long y2, .long y3]))] (fun sz => c65_X11_bytesBehind l g r3  sz) gX1_takeOperandOrOperator_X11_bytesBehind_n171 rfl ⟨rfl, rfl⟩ 1 (by decide) ⟨Nat.le_of_ble_eq_true rfl, Nat.le_of_ble_eq_true rfl⟩ (mg 25 rfl) (mg 65 rfl) (mg 64 rfl) [] [0, 1, 2, 3, 4, 5, 6, 7] rfl rfl (by decide) (by decide) (by decide) rfl rfl (Nat.le_of_ble_eq_true rfl) ⟨Nat.le_of_ble_eq_true rfl, Nat.le_of_ble_eq_true rfl⟩ (fun r49 _ w50 => ?_)
            refine r_ws [(h3, .inl (gI g, 48, .inl fn0)), (h4, .inl (gI g, 6, .inl fn1)), (h5, .inl (gI g, 6, .inl fn2)), (h6, .inl (gI g, 6, .inl fn3)), (h2, .inr (4, [.ref h7, .int x5])), (h7, .inl (gB g, 1500, .inl fn4)), (h1, .inr (2, [.ref h3, .int x3, .int x4, .ref h4, .ref h5, .ref h6])), (h0, .inr (1, [.ref h1, .ref h8, .ref h2, .int z21, .long z2, .long y1, .int x1, .int x2, .long y2, .long y3]))] rfl ?_
            have p51 : 0 ≤ (Int32.toInt r49) := w50.1
            have p52 : (Int32.toInt r49) ≤ 4 := w50.2
            refine r_callVl 116 C dX1_takeOperandOrOperator_116 [.int r3, .ref h1] [(h0, .inr (1, [.ref h1, .ref h8, .ref h2, .int z21, .long z2, .long y1, .int x1, .int x2, .long y2, .long y3])), (h2, .inr (4, [.ref h7, .int x5])), (h7, .inl (gB g, 1500, .inl fn4))] [(h3, .inl (gI g, 48, .inl fn0)), (h4, .inl (gI g, 6, .inl fn1)), (h5, .inl (gI g, 6, .inl fn2)), (h6, .inl (gI g, 6, .inl fn3)), (h1, .inr (2, [.ref h3, .int x3, .int x4, .ref h4, .ref h5, .ref h6]))] (fun sz => c56_X1_takeNumber l g h0 h2 h7 r49 h1 h8 z21 z2 y1 x1 x2 y2 y3 x5 fn4 i_x1 i_x5 sz) gX1_takeOperandOrOperator_X1_takeNumber rfl ⟨rfl, rfl⟩ 1 (by decide) ⟨Nat.le_of_ble_eq_true rfl, Nat.le_of_ble_eq_true rfl⟩ 7 rfl rfl [7, 4, 5] [0, 1, 2, 3, 6] rfl rfl (by decide) (by decide) (by decide) rfl rfl (Nat.le_of_ble_eq_true rfl) ⟨Nat.le_of_ble_eq_true rfl, Nat.le_of_ble_eq_true rfl⟩ (fun r55 u57 w56 => ?_)
            obtain ⟨z53, z54⟩ := u57
            refine r_ws [(h3, .inl (gI g, 48, .inl fn0)), (h4, .inl (gI g, 6, .inl fn1)), (h5, .inl (gI g, 6, .inl fn2)), (h6, .inl (gI g, 6, .inl fn3)), (h1, .inr (2, [.ref h3, .int x3, .int x4, .ref h4, .ref h5, .ref h6])), (h0, .inr (1, [.ref h1, .ref h8, .ref h2, .int z53, .long z54, .long y1, .int x1, .int x2, .long y2, .long y3])), (h2, .inr (4, [.ref h7, .int x5])), (h7, .inl (gB g, 1500, .inl fn4))] rfl ?_
            have gz53 := fb_rng z53
            have gz54 := fb_rngL z54
            have gr55 := fb_rngL r55
            obtain ⟨z58, ez58⟩ : ∃ z_9, Int64.toInt32 r55 = z_9 := ⟨_, rfl⟩
            have gz58 := fb_rng z58
            refine r_l2i 119 z58 C dX1_takeOperandOrOperator_119 ez58 ?_
            refine r_callSNi 120 C dX1_takeOperandOrOperator_120 [.ref h1] [] [(h3, .inl (gI g, 48, .inl fn0)), (h4, .inl (gI g, 6, .inl fn1)), (h5, .inl (gI g, 6, .inl fn2)), (h6, .inl (gI g, 6, .inl fn3)), (h1, .inr (2, [.ref h3, .int x3, .int x4, .ref h4, .ref h5, .ref h6])), (h0, .inr (1, [.ref h1, .ref h8, .ref h2, .int z53, .long z54, .long y1, .int x1, .int x2, .long y2, .long y3])), (h2, .inr (4, [.ref h7, .int x5])), (h7, .inl (gB g, 1500, .inl fn4))] (fun sz => c66_X11_wholeNumber l g r3 z58  sz) gX1_takeOperandOrOperator_X11_wholeNumber_n174 rfl ⟨rfl, rfl⟩ 2 (by decide) ⟨Nat.le_of_ble_eq_true rfl, Nat.le_of_ble_eq_true rfl⟩ (mg 26 rfl) (mg 65 rfl) (mg 72 rfl) [] [0, 1, 2, 3, 4, 5, 6, 7] rfl rfl (by decide) (by decide) (by decide) rfl rfl (Nat.le_of_ble_eq_true rfl) ⟨Nat.le_of_ble_eq_true rfl, Nat.le_of_ble_eq_true rfl⟩ (fun r59 _ w60 => ?_)
            refine r_ws [(h3, .inl (gI g, 48, .inl fn0)), (h4, .inl (gI g, 6, .inl fn1)), (h5, .inl (gI g, 6, .inl fn2)), (h6, .inl (gI g, 6, .inl fn3)), (h1, .inr (2, [.ref h3, .int x3, .int x4, .ref h4, .ref h5, .ref h6])), (h0, .inr (1, [.ref h1, .ref h8, .ref h2, .int z53, .long z54, .long y1, .int x1, .int x2, .long y2, .long y3])), (h2, .inr (4, [.ref h7, .int x5])), (h7, .inl (gB g, 1500, .inl fn4))] rfl ?_
            have gr59 := fb_rng r59
            refine r_callVv 123 C dX1_takeOperandOrOperator_123 [] [(h1, .inr (2, [.ref h3, .int x3, .int x4, .ref h4, .ref h5, .ref h6])), (h3, .inl (gI g, 48, .inl fn0))] [(h4, .inl (gI g, 6, .inl fn1)), (h5, .inl (gI g, 6, .inl fn2)), (h6, .inl (gI g, 6, .inl fn3)), (h0, .inr (1, [.ref h1, .ref h8, .ref h2, .int z53, .long z54, .long y1, .int x1, .int x2, .long y2, .long y3])), (h2, .inr (4, [.ref h7, .int x5])), (h7, .inl (gB g, 1500, .inl fn4))] (fun sz => c67_X2_add l g h1 h3 r59 x3 x4 h4 h5 h6 fn0 i_x3 i_x4 sz) gX1_takeOperandOrOperator_X2_add rfl ⟨rfl, rfl⟩ 1 (by decide) ⟨Nat.le_of_ble_eq_true rfl, Nat.le_of_ble_eq_true rfl⟩ 4 rfl rfl [4, 0] [1, 2, 3, 5, 6, 7] rfl rfl (by decide) (by decide) (by decide) rfl rfl (Nat.le_of_ble_eq_true rfl) ⟨Nat.le_of_ble_eq_true rfl, Nat.le_of_ble_eq_true rfl⟩ (fun  u64 w63 => ?_)
            obtain ⟨z61, f62⟩ := u64
            refine r_ws [(h4, .inl (gI g, 6, .inl fn1)), (h5, .inl (gI g, 6, .inl fn2)), (h6, .inl (gI g, 6, .inl fn3)), (h0, .inr (1, [.ref h1, .ref h8, .ref h2, .int z53, .long z54, .long y1, .int x1, .int x2, .long y2, .long y3])), (h2, .inr (4, [.ref h7, .int x5])), (h7, .inl (gB g, 1500, .inl fn4)), (h1, .inr (2, [.ref h3, .int z61, .int x4, .ref h4, .ref h5, .ref h6])), (h3, .inl (gI g, 48, .inl f62))] rfl ?_
            have p65 : 0 ≤ (Int32.toInt z61) := w63.1
            have p66 : (Int32.toInt z61) ≤ 48 := w63.2
            exact r_vret 126 Rt dX1_takeOperandOrOperator_126 (z53, z54, z61, x4, f62, fn1, fn2, fn3) (show 0 ≤ (Int32.toInt z61) ∧ (Int32.toInt z61) ≤ 48 ∧ 0 ≤ (Int32.toInt x4) ∧ (Int32.toInt x4) ≤ 1 from ⟨(show _ ∧ _ from ⟨p65, p66⟩).1, (show _ ∧ _ from ⟨p65, p66⟩).2, i_x4.1, i_x4.2⟩) [3, 6, 4, 7, 0, 1, 2, 5] (by decide) rfl (Nat.le_of_ble_eq_true rfl) (Nat.le_of_ble_eq_true rfl)
          · skip
            have k67 : (Int32.toInt r3) = 30 := (fa_eq r3 30).mp c47
            refine r_aload_n 85 1 C dX1_takeOperandOrOperator_85 rfl ?_
            refine r_callVv 86 C dX1_takeOperandOrOperator_86 [] [(h0, .inr (1, [.ref h1, .ref h8, .ref h2, .int z21, .long z2, .long y1, .int x1, .int x2, .long y2, .long y3])), (h2, .inr (4, [.ref h7, .int x5])), (h7, .inl (gB g, 1500, .inl fn4))] [(h3, .inl (gI g, 48, .inl fn0)), (h4, .inl (gI g, 6, .inl fn1)), (h5, .inl (gI g, 6, .inl fn2)), (h6, .inl (gI g, 6, .inl fn3)), (h1, .inr (2, [.ref h3, .int x3, .int x4, .ref h4, .ref h5, .ref h6]))] (fun sz => c68_X1_takeReal l g h0 h2 h7 h1 h8 z21 z2 y1 x1 x2 y2 y3 x5 fn4 i_x1 i_x5 sz) gX1_takeOperandOrOperator_X1_takeReal rfl ⟨rfl, rfl⟩ 0 (by decide) ⟨Nat.le_of_ble_eq_true rfl, Nat.le_of_ble_eq_true rfl⟩ 7 rfl rfl [7, 4, 5] [0, 1, 2, 3, 6] rfl rfl (by decide) (by decide) (by decide) rfl rfl (Nat.le_of_ble_eq_true rfl) ⟨Nat.le_of_ble_eq_true rfl, Nat.le_of_ble_eq_true rfl⟩ (fun  u71 w70 => ?_)
            obtain ⟨z68, z69⟩ := u71
            refine r_ws [(h3, .inl (gI g, 48, .inl fn0)), (h4, .inl (gI g, 6, .inl fn1)), (h5, .inl (gI g, 6, .inl fn2)), (h6, .inl (gI g, 6, .inl fn3)), (h1, .inr (2, [.ref h3, .int x3, .int x4, .ref h4, .ref h5, .ref h6])), (h0, .inr (1, [.ref h1, .ref h8, .ref h2, .int z68, .long z69, .long y1, .int x1, .int x2, .long y2, .long y3])), (h2, .inr (4, [.ref h7, .int x5])), (h7, .inl (gB g, 1500, .inl fn4))] rfl ?_
            have gz68 := fb_rng z68
            have gz69 := fb_rngL z69
            refine r_aload_n 89 1 C dX1_takeOperandOrOperator_89 rfl ?_
            refine r_get 90 C dX1_takeOperandOrOperator_90 (k := 0) 5 rfl rfl hiX1 (by decide) rfl (mg 2 rfl) (Or.inl rfl) rfl ?_
            refine r_callVv 93 C dX1_takeOperandOrOperator_93 [] [(h1, .inr (2, [.ref h3, .int x3, .int x4, .ref h4, .ref h5, .ref h6])), (h3, .inl (gI g, 48, .inl fn0))] [(h4, .inl (gI g, 6, .inl fn1)), (h5, .inl (gI g, 6, .inl fn2)), (h6, .inl (gI g, 6, .inl fn3)), (h0, .inr (1, [.ref h1, .ref h8, .ref h2, .int z68, .long z69, .long y1, .int x1, .int x2, .long y2, .long y3])), (h2, .inr (4, [.ref h7, .int x5])), (h7, .inl (gB g, 1500, .inl fn4))] (fun sz => c69_X2_addReal l g h1 h3 x3 x4 h4 h5 h6 fn0 i_x3 i_x4 sz) gX1_takeOperandOrOperator_X2_addReal rfl ⟨rfl, rfl⟩ 0 (by decide) ⟨Nat.le_of_ble_eq_true rfl, Nat.le_of_ble_eq_true rfl⟩ 4 rfl rfl [4, 0] [1, 2, 3, 5, 6, 7] rfl rfl (by decide) (by decide) (by decide) rfl rfl (Nat.le_of_ble_eq_true rfl) ⟨Nat.le_of_ble_eq_true rfl, Nat.le_of_ble_eq_true rfl⟩ (fun  u75 w74 => ?_)
            obtain ⟨z72, f73⟩ := u75
            refine r_ws [(h4, .inl (gI g, 6, .inl fn1)), (h5, .inl (gI g, 6, .inl fn2)), (h6, .inl (gI g, 6, .inl fn3)), (h0, .inr (1, [.ref h1, .ref h8, .ref h2, .int z68, .long z69, .long y1, .int x1, .int x2, .long y2, .long y3])), (h2, .inr (4, [.ref h7, .int x5])), (h7, .inl (gB g, 1500, .inl fn4)), (h1, .inr (2, [.ref h3, .int z72, .int 1, .ref h4, .ref h5, .ref h6])), (h3, .inl (gI g, 48, .inl f73))] rfl ?_
            have p76 : 0 ≤ (Int32.toInt z72) := w74.1
            have p77 : (Int32.toInt z72) ≤ 48 := w74.2
            refine r_goto 96 126 C dX1_takeOperandOrOperator_96 (by decide) ?_
            exact r_vret 126 Rt dX1_takeOperandOrOperator_126 (z68, z69, z72, 1, f73, fn1, fn2, fn3) (show 0 ≤ (Int32.toInt z72) ∧ (Int32.toInt z72) ≤ 48 ∧ 0 ≤ (Int32.toInt 1) ∧ (Int32.toInt 1) ≤ 1 from ⟨(show _ ∧ _ from ⟨p76, p77⟩).1, (show _ ∧ _ from ⟨p76, p77⟩).2, (by ((repeat' apply And.intro) <;> first | trivial | rfl | assumption | omega | decide | exact Or.inl rfl | exact Or.inr (Or.inl rfl) | exact Or.inr (Or.inr rfl))), (by ((repeat' apply And.intro) <;> first | trivial | rfl | assumption | omega | decide | exact Or.inl rfl | exact Or.inr (Or.inl rfl) | exact Or.inr (Or.inr rfl)))⟩) [3, 6, 4, 7, 0, 1, 2, 5] (by decide) rfl (Nat.le_of_ble_eq_true rfl) (Nat.le_of_ble_eq_true rfl)
      · skip
        have k78 : ¬ ((Int32.toInt r15) = 0) := fun h_9 => c19 ((fa_eq r15 0).mpr h_9)
        refine r_iconst 64 1 C dX1_takeOperandOrOperator_64 (by decide) ?_
        refine r_goto 65 69 C dX1_takeOperandOrOperator_65 (by decide) ?_
        refine r_callVv 69 C dX1_takeOperandOrOperator_69 [] [(h0, .inr (1, [.ref h1, .ref h8, .ref h2, .int z1, .long z2, .long y1, .int x1, .int x2, .long y2, .long y3]))] [(h3, .inl (gI g, 48, .inl fn0)), (h4, .inl (gI g, 6, .inl fn1)), (h5, .inl (gI g, 6, .inl fn2)), (h6, .inl (gI g, 6, .inl fn3)), (h2, .inr (4, [.ref h7, .int x5])), (h7, .inl (gB g, 1500, .inl fn4)), (h1, .inr (2, [.ref h3, .int x3, .int x4, .ref h4, .ref h5, .ref h6]))] (fun sz => c53_X1_want l g h0 1 h1 h8 h2 z1 z2 y1 x1 x2 y2 y3 (by decide) i_x1 sz) gX1_takeOperandOrOperator_X1_want rfl ⟨rfl, rfl⟩ 1 (by decide) ⟨Nat.le_of_ble_eq_true rfl, Nat.le_of_ble_eq_true rfl⟩ 4 rfl rfl [4] [0, 1, 2, 3, 5, 6, 7] rfl rfl (by decide) (by decide) (by decide) rfl rfl (Nat.le_of_ble_eq_true rfl) ⟨Nat.le_of_ble_eq_true rfl, Nat.le_of_ble_eq_true rfl⟩ (fun  z79 w80 => ?_)
        refine r_ws [(h3, .inl (gI g, 48, .inl fn0)), (h4, .inl (gI g, 6, .inl fn1)), (h5, .inl (gI g, 6, .inl fn2)), (h6, .inl (gI g, 6, .inl fn3)), (h2, .inr (4, [.ref h7, .int x5])), (h7, .inl (gB g, 1500, .inl fn4)), (h1, .inr (2, [.ref h3, .int x3, .int x4, .ref h4, .ref h5, .ref h6])), (h0, .inr (1, [.ref h1, .ref h8, .ref h2, .int z79, .long z2, .long y1, .int x1, .int x2, .long y2, .long y3]))] rfl ?_
        have gz79 := fb_rng z79
        refine r_aload_n 72 1 C dX1_takeOperandOrOperator_72 rfl ?_
        refine r_get 73 C dX1_takeOperandOrOperator_73 (k := 3) 7 rfl rfl hiX1 (by decide) rfl (mg 1 rfl) (Or.inl rfl) rfl ?_
        refine r_if_ne 76 99 C dX1_takeOperandOrOperator_76 (by decide) (fun c81 => ?_) (fun c81 => ?_)
        · skip
          have k82 : ¬ ((Int32.toInt z79) = 0) := fun h_9 => c81 ((fa_eq z79 0).mpr h_9)
          refine r_aload_n 99 1 C dX1_takeOperandOrOperator_99 rfl ?_
          refine r_get 100 C dX1_takeOperandOrOperator_100 (k := 3) 7 rfl rfl hiX1 (by decide) rfl (mg 1 rfl) (Or.inl rfl) rfl ?_
          refine r_if_ne 103 126 C dX1_takeOperandOrOperator_103 (by decide) (fun c83 => ?_) (fun c83 => ?_)
          · skip
            have k84 : ¬ ((Int32.toInt z79) = 0) := fun h_9 => c83 ((fa_eq z79 0).mpr h_9)
            exact r_vret 126 Rt dX1_takeOperandOrOperator_126 (z79, z2, x3, x4, fn0, fn1, fn2, fn3) (show 0 ≤ (Int32.toInt x3) ∧ (Int32.toInt x3) ≤ 48 ∧ 0 ≤ (Int32.toInt x4) ∧ (Int32.toInt x4) ≤ 1 from ⟨i_x3.1, i_x3.2, i_x4.1, i_x4.2⟩) [7, 6, 4, 0, 1, 2, 3, 5] (by decide) rfl (Nat.le_of_ble_eq_true rfl) (Nat.le_of_ble_eq_true rfl)
          · skip
            have k85 : (Int32.toInt z79) = 0 := (fa_eq z79 0).mp c83
            refine r_aload_n 106 1 C dX1_takeOperandOrOperator_106 rfl ?_
            refine r_get 107 C dX1_takeOperandOrOperator_107 (k := 0) 7 rfl rfl hiX1 (by decide) rfl (mg 2 rfl) (Or.inl rfl) rfl ?_
            refine r_iload_n 110 0 C dX1_takeOperandOrOperator_110 rfl ?_
            refine r_aload_n 111 1 C dX1_takeOperandOrOperator_111 rfl ?_
            refine r_iload_n 112 0 C dX1_takeOperandOrOperator_112 rfl ?_
            refine r_callSNi 113 C dX1_takeOperandOrOperator_113 [.ref h0, .int r3, .ref h1] [] [(h3, .inl (gI g, 48, .inl fn0)), (h4, .inl (gI g, 6, .inl fn1)), (h5, .inl (gI g, 6, .inl fn2)), (h6, .inl (gI g, 6, .inl fn3)), (h2, .inr (4, [.ref h7, .int x5])), (h7, .inl (gB g, 1500, .inl fn4)), (h1, .inr (2, [.ref h3, .int x3, .int x4, .ref h4, .ref h5, .ref h6])), (h0, .inr (1, [.ref h1, .ref h8, .ref h2, .int z79, .long z2, .long y1, .int x1, .int x2, .long y2, .long y3]))] (fun sz => c65_X11_bytesBehind l g r3  sz) gX1_takeOperandOrOperator_X11_bytesBehind_n171 rfl ⟨rfl, rfl⟩ 1 (by decide) ⟨Nat.le_of_ble_eq_true rfl, Nat.le_of_ble_eq_true rfl⟩ (mg 25 rfl) (mg 65 rfl) (mg 64 rfl) [] [0, 1, 2, 3, 4, 5, 6, 7] rfl rfl (by decide) (by decide) (by decide) rfl rfl (Nat.le_of_ble_eq_true rfl) ⟨Nat.le_of_ble_eq_true rfl, Nat.le_of_ble_eq_true rfl⟩ (fun r86 _ w87 => ?_)
            refine r_ws [(h3, .inl (gI g, 48, .inl fn0)), (h4, .inl (gI g, 6, .inl fn1)), (h5, .inl (gI g, 6, .inl fn2)), (h6, .inl (gI g, 6, .inl fn3)), (h2, .inr (4, [.ref h7, .int x5])), (h7, .inl (gB g, 1500, .inl fn4)), (h1, .inr (2, [.ref h3, .int x3, .int x4, .ref h4, .ref h5, .ref h6])), (h0, .inr (1, [.ref h1, .ref h8, .ref h2, .int z79, .long z2, .long y1, .int x1, .int x2, .long y2, .long y3]))] rfl ?_
            have p88 : 0 ≤ (Int32.toInt r86) := w87.1
            have p89 : (Int32.toInt r86) ≤ 4 := w87.2
            refine r_callVl 116 C dX1_takeOperandOrOperator_116 [.int r3, .ref h1] [(h0, .inr (1, [.ref h1, .ref h8, .ref h2, .int z79, .long z2, .long y1, .int x1, .int x2, .long y2, .long y3])), (h2, .inr (4, [.ref h7, .int x5])), (h7, .inl (gB g, 1500, .inl fn4))] [(h3, .inl (gI g, 48, .inl fn0)), (h4, .inl (gI g, 6, .inl fn1)), (h5, .inl (gI g, 6, .inl fn2)), (h6, .inl (gI g, 6, .inl fn3)), (h1, .inr (2, [.ref h3, .int x3, .int x4, .ref h4, .ref h5, .ref h6]))] (fun sz => c56_X1_takeNumber l g h0 h2 h7 r86 h1 h8 z79 z2 y1 x1 x2 y2 y3 x5 fn4 i_x1 i_x5 sz) gX1_takeOperandOrOperator_X1_takeNumber rfl ⟨rfl, rfl⟩ 1 (by decide) ⟨Nat.le_of_ble_eq_true rfl, Nat.le_of_ble_eq_true rfl⟩ 7 rfl rfl [7, 4, 5] [0, 1, 2, 3, 6] rfl rfl (by decide) (by decide) (by decide) rfl rfl (Nat.le_of_ble_eq_true rfl) ⟨Nat.le_of_ble_eq_true rfl, Nat.le_of_ble_eq_true rfl⟩ (fun r92 u94 w93 => ?_)
            obtain ⟨z90, z91⟩ := u94
            refine r_ws [(h3, .inl (gI g, 48, .inl fn0)), (h4, .inl (gI g, 6, .inl fn1)), (h5, .inl (gI g, 6, .inl fn2)), (h6, .inl (gI g, 6, .inl fn3)), (h1, .inr (2, [.ref h3, .int x3, .int x4, .ref h4, .ref h5, .ref h6])), (h0, .inr (1, [.ref h1, .ref h8, .ref h2, .int z90, .long z91, .long y1, .int x1, .int x2, .long y2, .long y3])), (h2, .inr (4, [.ref h7, .int x5])), (h7, .inl (gB g, 1500, .inl fn4))] rfl ?_
            have gz90 := fb_rng z90
            have gz91 := fb_rngL z91
            have gr92 := fb_rngL r92
            obtain ⟨z95, ez95⟩ : ∃ z_9, Int64.toInt32 r92 = z_9 := ⟨_, rfl⟩
            have gz95 := fb_rng z95
            refine r_l2i 119 z95 C dX1_takeOperandOrOperator_119 ez95 ?_
            refine r_callSNi 120 C dX1_takeOperandOrOperator_120 [.ref h1] [] [(h3, .inl (gI g, 48, .inl fn0)), (h4, .inl (gI g, 6, .inl fn1)), (h5, .inl (gI g, 6, .inl fn2)), (h6, .inl (gI g, 6, .inl fn3)), (h1, .inr (2, [.ref h3, .int x3, .int x4, .ref h4, .ref h5, .ref h6])), (h0, .inr (1, [.ref h1, .ref h8, .ref h2, .int z90, .long z91, .long y1, .int x1, .int x2, .long y2, .long y3])), (h2, .inr (4, [.ref h7, .int x5])), (h7, .inl (gB g, 1500, .inl fn4))] (fun sz => c66_X11_wholeNumber l g r3 z95  sz) gX1_takeOperandOrOperator_X11_wholeNumber_n174 rfl ⟨rfl, rfl⟩ 2 (by decide) ⟨Nat.le_of_ble_eq_true rfl, Nat.le_of_ble_eq_true rfl⟩ (mg 26 rfl) (mg 65 rfl) (mg 72 rfl) [] [0, 1, 2, 3, 4, 5, 6, 7] rfl rfl (by decide) (by decide) (by decide) rfl rfl (Nat.le_of_ble_eq_true rfl) ⟨Nat.le_of_ble_eq_true rfl, Nat.le_of_ble_eq_true rfl⟩ (fun r96 _ w97 => ?_)
            refine r_ws [(h3, .inl (gI g, 48, .inl fn0)), (h4, .inl (gI g, 6, .inl fn1)), (h5, .inl (gI g, 6, .inl fn2)), (h6, .inl (gI g, 6, .inl fn3)), (h1, .inr (2, [.ref h3, .int x3, .int x4, .ref h4, .ref h5, .ref h6])), (h0, .inr (1, [.ref h1, .ref h8, .ref h2, .int z90, .long z91, .long y1, .int x1, .int x2, .long y2, .long y3])), (h2, .inr (4, [.ref h7, .int x5])), (h7, .inl (gB g, 1500, .inl fn4))] rfl ?_
            have gr96 := fb_rng r96
            refine r_callVv 123 C dX1_takeOperandOrOperator_123 [] [(h1, .inr (2, [.ref h3, .int x3, .int x4, .ref h4, .ref h5, .ref h6])), (h3, .inl (gI g, 48, .inl fn0))] [(h4, .inl (gI g, 6, .inl fn1)), (h5, .inl (gI g, 6, .inl fn2)), (h6, .inl (gI g, 6, .inl fn3)), (h0, .inr (1, [.ref h1, .ref h8, .ref h2, .int z90, .long z91, .long y1, .int x1, .int x2, .long y2, .long y3])), (h2, .inr (4, [.ref h7, .int x5])), (h7, .inl (gB g, 1500, .inl fn4))] (fun sz => c67_X2_add l g h1 h3 r96 x3 x4 h4 h5 h6 fn0 i_x3 i_x4 sz) gX1_takeOperandOrOperator_X2_add rfl ⟨rfl, rfl⟩ 1 (by decide) ⟨Nat.le_of_ble_eq_true rfl, Nat.le_of_ble_eq_true rfl⟩ 4 rfl rfl [4, 0] [1, 2, 3, 5, 6, 7] rfl rfl (by decide) (by decide) (by decide) rfl rfl (Nat.le_of_ble_eq_true rfl) ⟨Nat.le_of_ble_eq_true rfl, Nat.le_of_ble_eq_true rfl⟩ (fun  u101 w100 => ?_)
            obtain ⟨z98, f99⟩ := u101
            refine r_ws [(h4, .inl (gI g, 6, .inl fn1)), (h5, .inl (gI g, 6, .inl fn2)), (h6, .inl (gI g, 6, .inl fn3)), (h0, .inr (1, [.ref h1, .ref h8, .ref h2, .int z90, .long z91, .long y1, .int x1, .int x2, .long y2, .long y3])), (h2, .inr (4, [.ref h7, .int x5])), (h7, .inl (gB g, 1500, .inl fn4)), (h1, .inr (2, [.ref h3, .int z98, .int x4, .ref h4, .ref h5, .ref h6])), (h3, .inl (gI g, 48, .inl f99))] rfl ?_
            have p102 : 0 ≤ (Int32.toInt z98) := w100.1
            have p103 : (Int32.toInt z98) ≤ 48 := w100.2
            exact r_vret 126 Rt dX1_takeOperandOrOperator_126 (z90, z91, z98, x4, f99, fn1, fn2, fn3) (show 0 ≤ (Int32.toInt z98) ∧ (Int32.toInt z98) ≤ 48 ∧ 0 ≤ (Int32.toInt x4) ∧ (Int32.toInt x4) ≤ 1 from ⟨(show _ ∧ _ from ⟨p102, p103⟩).1, (show _ ∧ _ from ⟨p102, p103⟩).2, i_x4.1, i_x4.2⟩) [3, 6, 4, 7, 0, 1, 2, 5] (by decide) rfl (Nat.le_of_ble_eq_true rfl) (Nat.le_of_ble_eq_true rfl)
        · skip
          have k104 : (Int32.toInt z79) = 0 := (fa_eq z79 0).mp c81
          refine r_iload_n 79 0 C dX1_takeOperandOrOperator_79 rfl ?_
          refine r_bipush 80 30 C dX1_takeOperandOrOperator_80 (by decide) ?_
          refine r_icmp_ne 82 99 C dX1_takeOperandOrOperator_82 (by decide) (fun c105 => ?_) (fun c105 => ?_)
          · skip
            have k106 : ¬ ((Int32.toInt r3) = 30) := fun h_9 => c105 ((fa_eq r3 30).mpr h_9)
            refine r_aload_n 99 1 C dX1_takeOperandOrOperator_99 rfl ?_
            refine r_get 100 C dX1_takeOperandOrOperator_100 (k := 3) 7 rfl rfl hiX1 (by decide) rfl (mg 1 rfl) (Or.inl rfl) rfl ?_
            refine r_if_ne_f 103 126 C dX1_takeOperandOrOperator_103 (by decide) ((fa_eq z79 0).mpr (by show (Int32.toInt z79) = 0; omega)) ?_
            refine r_aload_n 106 1 C dX1_takeOperandOrOperator_106 rfl ?_
            refine r_get 107 C dX1_takeOperandOrOperator_107 (k := 0) 7 rfl rfl hiX1 (by decide) rfl (mg 2 rfl) (Or.inl rfl) rfl ?_
            refine r_iload_n 110 0 C dX1_takeOperandOrOperator_110 rfl ?_
            refine r_aload_n 111 1 C dX1_takeOperandOrOperator_111 rfl ?_
            refine r_iload_n 112 0 C dX1_takeOperandOrOperator_112 rfl ?_
            refine r_callSNi 113 C dX1_takeOperandOrOperator_113 [.ref h0, .int r3, .ref h1] [] [(h3, .inl (gI g, 48, .inl fn0)), (h4, .inl (gI g, 6, .inl fn1)), (h5, .inl (gI g, 6, .inl fn2)), (h6, .inl (gI g, 6, .inl fn3)), (h2, .inr (4, [.ref h7, .int x5])), (h7, .inl (gB g, 1500, .inl fn4)), (h1, .inr (2, [.ref h3, .int x3, .int x4, .ref h4, .ref h5, .ref h6])), (h0, .inr (1, [.ref h1, .ref h8, .ref h2, .int z79, .long z2, .long y1, .int x1, .int x2, .long y2, .long y3]))] (fun sz => c65_X11_bytesBehind l g r3  sz) gX1_takeOperandOrOperator_X11_bytesBehind_n171 rfl ⟨rfl, rfl⟩ 1 (by decide) ⟨Nat.le_of_ble_eq_true rfl, Nat.le_of_ble_eq_true rfl⟩ (mg 25 rfl) (mg 65 rfl) (mg 64 rfl) [] [0, 1, 2, 3, 4, 5, 6, 7] rfl rfl (by decide) (by decide) (by decide) rfl rfl (Nat.le_of_ble_eq_true rfl) ⟨Nat.le_of_ble_eq_true rfl, Nat.le_of_ble_eq_true rfl⟩ (fun r107 _ w108 => ?_)
            refine r_ws [(h3, .inl (gI g, 48, .inl fn0)), (h4, .inl (gI g, 6, .inl fn1)), (h5, .inl (gI g, 6, .inl fn2)), (h6, .inl (gI g, 6, .inl fn3)), (h2, .inr (4, [.ref h7, .int x5])), (h7, .inl (gB g, 1500, .inl fn4)), (h1, .inr (2, [.ref h3, .int x3, .int x4, .ref h4, .ref h5, .ref h6])), (h0, .inr (1, [.ref h1, .ref h8, .ref h2, .int z79, .long z2, .long y1, .int x1, .int x2, .long y2, .long y3]))] rfl ?_
            have p109 : 0 ≤ (Int32.toInt r107) := w108.1
            have p110 : (Int32.toInt r107) ≤ 4 := w108.2
            refine r_callVl 116 C dX1_takeOperandOrOperator_116 [.int r3, .ref h1] [(h0, .inr (1, [.ref h1, .ref h8, .ref h2, .int z79, .long z2, .long y1, .int x1, .int x2, .long y2, .long y3])), (h2, .inr (4, [.ref h7, .int x5])), (h7, .inl (gB g, 1500, .inl fn4))] [(h3, .inl (gI g, 48, .inl fn0)), (h4, .inl (gI g, 6, .inl fn1)), (h5, .inl (gI g, 6, .inl fn2)), (h6, .inl (gI g, 6, .inl fn3)), (h1, .inr (2, [.ref h3, .int x3, .int x4, .ref h4, .ref h5, .ref h6]))] (fun sz => c56_X1_takeNumber l g h0 h2 h7 r107 h1 h8 z79 z2 y1 x1 x2 y2 y3 x5 fn4 i_x1 i_x5 sz) gX1_takeOperandOrOperator_X1_takeNumber rfl ⟨rfl, rfl⟩ 1 (by decide) ⟨Nat.le_of_ble_eq_true rfl, Nat.le_of_ble_eq_true rfl⟩ 7 rfl rfl [7, 4, 5] [0, 1, 2, 3, 6] rfl rfl (by decide) (by decide) (by decide) rfl rfl (Nat.le_of_ble_eq_true rfl) ⟨Nat.le_of_ble_eq_true rfl, Nat.le_of_ble_eq_true rfl⟩ (fun r113 u115 w114 => ?_)
            obtain ⟨z111, z112⟩ := u115
            refine r_ws [(h3, .inl (gI g, 48, .inl fn0)), (h4, .inl (gI g, 6, .inl fn1)), (h5, .inl (gI g, 6, .inl fn2)), (h6, .inl (gI g, 6, .inl fn3)), (h1, .inr (2, [.ref h3, .int x3, .int x4, .ref h4, .ref h5, .ref h6])), (h0, .inr (1, [.ref h1, .ref h8, .ref h2, .int z111, .long z112, .long y1, .int x1, .int x2, .long y2, .long y3])), (h2, .inr (4, [.ref h7, .int x5])), (h7, .inl (gB g, 1500, .inl fn4))] rfl ?_
            have gz111 := fb_rng z111
            have gz112 := fb_rngL z112
            have gr113 := fb_rngL r113
            obtain ⟨z116, ez116⟩ : ∃ z_9, Int64.toInt32 r113 = z_9 := ⟨_, rfl⟩
            have gz116 := fb_rng z116
            refine r_l2i 119 z116 C dX1_takeOperandOrOperator_119 ez116 ?_
            refine r_callSNi 120 C dX1_takeOperandOrOperator_120 [.ref h1] [] [(h3, .inl (gI g, 48, .inl fn0)), (h4, .inl (gI g, 6, .inl fn1)), (h5, .inl (gI g, 6, .inl fn2)), (h6, .inl (gI g, 6, .inl fn3)), (h1, .inr (2, [.ref h3, .int x3, .int x4, .ref h4, .ref h5, .ref h6])), (h0, .inr (1, [.ref h1, .ref h8, .ref h2, .int z111, .long z112, .long y1, .int x1, .int x2, .long y2, .long y3])), (h2, .inr (4, [.ref h7, .int x5])), (h7, .inl (gB g, 1500, .inl fn4))] (fun sz => c66_X11_wholeNumber l g r3 z116  sz) gX1_takeOperandOrOperator_X11_wholeNumber_n174 rfl ⟨rfl, rfl⟩ 2 (by decide) ⟨Nat.le_of_ble_eq_true rfl, Nat.le_of_ble_eq_true rfl⟩ (mg 26 rfl) (mg 65 rfl) (mg 72 rfl) [] [0, 1, 2, 3, 4, 5, 6, 7] rfl rfl (by decide) (by decide) (by decide) rfl rfl (Nat.le_of_ble_eq_true rfl) ⟨Nat.le_of_ble_eq_true rfl, Nat.le_of_ble_eq_true rfl⟩ (fun r117 _ w118 => ?_)
            refine r_ws [(h3, .inl (gI g, 48, .inl fn0)), (h4, .inl (gI g, 6, .inl fn1)), (h5, .inl (gI g, 6, .inl fn2)), (h6, .inl (gI g, 6, .inl fn3)), (h1, .inr (2, [.ref h3, .int x3, .int x4, .ref h4, .ref h5, .ref h6])), (h0, .inr (1, [.ref h1, .ref h8, .ref h2, .int z111, .long z112, .long y1, .int x1, .int x2, .long y2, .long y3])), (h2, .inr (4, [.ref h7, .int x5])), (h7, .inl (gB g, 1500, .inl fn4))] rfl ?_
            have gr117 := fb_rng r117
            refine r_callVv 123 C dX1_takeOperandOrOperator_123 [] [(h1, .inr (2, [.ref h3, .int x3, .int x4, .ref h4, .ref h5, .ref h6])), (h3, .inl (gI g, 48, .inl fn0))] [(h4, .inl (gI g, 6, .inl fn1)), (h5, .inl (gI g, 6, .inl fn2)), (h6, .inl (gI g, 6, .inl fn3)), (h0, .inr (1, [.ref h1, .ref h8, .ref h2, .int z111, .long z112, .long y1, .int x1, .int x2, .long y2, .long y3])), (h2, .inr (4, [.ref h7, .int x5])), (h7, .inl (gB g, 1500, .inl fn4))] (fun sz => c67_X2_add l g h1 h3 r117 x3 x4 h4 h5 h6 fn0 i_x3 i_x4 sz) gX1_takeOperandOrOperator_X2_add rfl ⟨rfl, rfl⟩ 1 (by decide) ⟨Nat.le_of_ble_eq_true rfl, Nat.le_of_ble_eq_true rfl⟩ 4 rfl rfl [4, 0] [1, 2, 3, 5, 6, 7] rfl rfl (by decide) (by decide) (by decide) rfl rfl (Nat.le_of_ble_eq_true rfl) ⟨Nat.le_of_ble_eq_true rfl, Nat.le_of_ble_eq_true rfl⟩ (fun  u122 w121 => ?_)
            obtain ⟨z119, f120⟩ := u122
            refine r_ws [(h4, .inl (gI g, 6, .inl fn1)), (h5, .inl (gI g, 6, .inl fn2)), (h6, .inl (gI g, 6, .inl fn3)), (h0, .inr (1, [.ref h1, .ref h8, .ref h2, .int z111, .long z112, .long y1, .int x1, .int x2, .long y2, .long y3])), (h2, .inr (4, [.ref h7, .int x5])), (h7, .inl (gB g, 1500, .inl fn4)), (h1, .inr (2, [.ref h3, .int z119, .int x4, .ref h4, .ref h5, .ref h6])), (h3, .inl (gI g, 48, .inl f120))] rfl ?_
            have p123 : 0 ≤ (Int32.toInt z119) := w121.1
            have p124 : (Int32.toInt z119) ≤ 48 := w121.2
            exact r_vret 126 Rt dX1_takeOperandOrOperator_126 (z111, z112, z119, x4, f120, fn1, fn2, fn3) (show 0 ≤ (Int32.toInt z119) ∧ (Int32.toInt z119) ≤ 48 ∧ 0 ≤ (Int32.toInt x4) ∧ (Int32.toInt x4) ≤ 1 from ⟨(show _ ∧ _ from ⟨p123, p124⟩).1, (show _ ∧ _ from ⟨p123, p124⟩).2, i_x4.1, i_x4.2⟩) [3, 6, 4, 7, 0, 1, 2, 5] (by decide) rfl (Nat.le_of_ble_eq_true rfl) (Nat.le_of_ble_eq_true rfl)
          · skip
            have k125 : (Int32.toInt r3) = 30 := (fa_eq r3 30).mp c105
            refine r_aload_n 85 1 C dX1_takeOperandOrOperator_85 rfl ?_
            refine r_callVv 86 C dX1_takeOperandOrOperator_86 [] [(h0, .inr (1, [.ref h1, .ref h8, .ref h2, .int z79, .long z2, .long y1, .int x1, .int x2, .long y2, .long y3])), (h2, .inr (4, [.ref h7, .int x5])), (h7, .inl (gB g, 1500, .inl fn4))] [(h3, .inl (gI g, 48, .inl fn0)), (h4, .inl (gI g, 6, .inl fn1)), (h5, .inl (gI g, 6, .inl fn2)), (h6, .inl (gI g, 6, .inl fn3)), (h1, .inr (2, [.ref h3, .int x3, .int x4, .ref h4, .ref h5, .ref h6]))] (fun sz => c68_X1_takeReal l g h0 h2 h7 h1 h8 z79 z2 y1 x1 x2 y2 y3 x5 fn4 i_x1 i_x5 sz) gX1_takeOperandOrOperator_X1_takeReal rfl ⟨rfl, rfl⟩ 0 (by decide) ⟨Nat.le_of_ble_eq_true rfl, Nat.le_of_ble_eq_true rfl⟩ 7 rfl rfl [7, 4, 5] [0, 1, 2, 3, 6] rfl rfl (by decide) (by decide) (by decide) rfl rfl (Nat.le_of_ble_eq_true rfl) ⟨Nat.le_of_ble_eq_true rfl, Nat.le_of_ble_eq_true rfl⟩ (fun  u129 w128 => ?_)
            obtain ⟨z126, z127⟩ := u129
            refine r_ws [(h3, .inl (gI g, 48, .inl fn0)), (h4, .inl (gI g, 6, .inl fn1)), (h5, .inl (gI g, 6, .inl fn2)), (h6, .inl (gI g, 6, .inl fn3)), (h1, .inr (2, [.ref h3, .int x3, .int x4, .ref h4, .ref h5, .ref h6])), (h0, .inr (1, [.ref h1, .ref h8, .ref h2, .int z126, .long z127, .long y1, .int x1, .int x2, .long y2, .long y3])), (h2, .inr (4, [.ref h7, .int x5])), (h7, .inl (gB g, 1500, .inl fn4))] rfl ?_
            have gz126 := fb_rng z126
            have gz127 := fb_rngL z127
            refine r_aload_n 89 1 C dX1_takeOperandOrOperator_89 rfl ?_
            refine r_get 90 C dX1_takeOperandOrOperator_90 (k := 0) 5 rfl rfl hiX1 (by decide) rfl (mg 2 rfl) (Or.inl rfl) rfl ?_
            refine r_callVv 93 C dX1_takeOperandOrOperator_93 [] [(h1, .inr (2, [.ref h3, .int x3, .int x4, .ref h4, .ref h5, .ref h6])), (h3, .inl (gI g, 48, .inl fn0))] [(h4, .inl (gI g, 6, .inl fn1)), (h5, .inl (gI g, 6, .inl fn2)), (h6, .inl (gI g, 6, .inl fn3)), (h0, .inr (1, [.ref h1, .ref h8, .ref h2, .int z126, .long z127, .long y1, .int x1, .int x2, .long y2, .long y3])), (h2, .inr (4, [.ref h7, .int x5])), (h7, .inl (gB g, 1500, .inl fn4))] (fun sz => c69_X2_addReal l g h1 h3 x3 x4 h4 h5 h6 fn0 i_x3 i_x4 sz) gX1_takeOperandOrOperator_X2_addReal rfl ⟨rfl, rfl⟩ 0 (by decide) ⟨Nat.le_of_ble_eq_true rfl, Nat.le_of_ble_eq_true rfl⟩ 4 rfl rfl [4, 0] [1, 2, 3, 5, 6, 7] rfl rfl (by decide) (by decide) (by decide) rfl rfl (Nat.le_of_ble_eq_true rfl) ⟨Nat.le_of_ble_eq_true rfl, Nat.le_of_ble_eq_true rfl⟩ (fun  u133 w132 => ?_)
            obtain ⟨z130, f131⟩ := u133
            refine r_ws [(h4, .inl (gI g, 6, .inl fn1)), (h5, .inl (gI g, 6, .inl fn2)), (h6, .inl (gI g, 6, .inl fn3)), (h0, .inr (1, [.ref h1, .ref h8, .ref h2, .int z126, .long z127, .long y1, .int x1, .int x2, .long y2, .long y3])), (h2, .inr (4, [.ref h7, .int x5])), (h7, .inl (gB g, 1500, .inl fn4)), (h1, .inr (2, [.ref h3, .int z130, .int 1, .ref h4, .ref h5, .ref h6])), (h3, .inl (gI g, 48, .inl f131))] rfl ?_
            have p134 : 0 ≤ (Int32.toInt z130) := w132.1
            have p135 : (Int32.toInt z130) ≤ 48 := w132.2
            refine r_goto 96 126 C dX1_takeOperandOrOperator_96 (by decide) ?_
            exact r_vret 126 Rt dX1_takeOperandOrOperator_126 (z126, z127, z130, 1, f131, fn1, fn2, fn3) (show 0 ≤ (Int32.toInt z130) ∧ (Int32.toInt z130) ≤ 48 ∧ 0 ≤ (Int32.toInt 1) ∧ (Int32.toInt 1) ≤ 1 from ⟨(show _ ∧ _ from ⟨p134, p135⟩).1, (show _ ∧ _ from ⟨p134, p135⟩).2, (by ((repeat' apply And.intro) <;> first | trivial | rfl | assumption | omega | decide | exact Or.inl rfl | exact Or.inr (Or.inl rfl) | exact Or.inr (Or.inr rfl))), (by ((repeat' apply And.intro) <;> first | trivial | rfl | assumption | omega | decide | exact Or.inl rfl | exact Or.inr (Or.inl rfl) | exact Or.inr (Or.inr rfl)))⟩) [3, 6, 4, 7, 0, 1, 2, 5] (by decide) rfl (Nat.le_of_ble_eq_true rfl) (Nat.le_of_ble_eq_true rfl)
    obtain ⟨k136, k137⟩ := w12
    have k137 := k137.symm
    subst k137
    refine r_if_ne_t 54 68 C dX1_takeOperandOrOperator_54 (by decide) (by decide) ?_
    refine r_iconst 68 0 C dX1_takeOperandOrOperator_68 (by decide) ?_
    refine r_callVv 69 C dX1_takeOperandOrOperator_69 [] [(h0, .inr (1, [.ref h1, .ref h8, .ref h2, .int z1, .long z2, .long y1, .int x1, .int x2, .long y2, .long y3]))] [(h3, .inl (gI g, 48, .inl fn0)), (h4, .inl (gI g, 6, .inl fn1)), (h5, .inl (gI g, 6, .inl fn2)), (h6, .inl (gI g, 6, .inl fn3)), (h2, .inr (4, [.ref h7, .int x5])), (h7, .inl (gB g, 1500, .inl fn4)), (h1, .inr (2, [.ref h3, .int x3, .int x4, .ref h4, .ref h5, .ref h6]))] (fun sz => c53_X1_want l g h0 0 h1 h8 h2 z1 z2 y1 x1 x2 y2 y3 (by decide) i_x1 sz) gX1_takeOperandOrOperator_X1_want rfl ⟨rfl, rfl⟩ 1 (by decide) ⟨Nat.le_of_ble_eq_true rfl, Nat.le_of_ble_eq_true rfl⟩ 4 rfl rfl [4] [0, 1, 2, 3, 5, 6, 7] rfl rfl (by decide) (by decide) (by decide) rfl rfl (Nat.le_of_ble_eq_true rfl) ⟨Nat.le_of_ble_eq_true rfl, Nat.le_of_ble_eq_true rfl⟩ (fun  z138 w139 => ?_)
    refine r_ws [(h3, .inl (gI g, 48, .inl fn0)), (h4, .inl (gI g, 6, .inl fn1)), (h5, .inl (gI g, 6, .inl fn2)), (h6, .inl (gI g, 6, .inl fn3)), (h2, .inr (4, [.ref h7, .int x5])), (h7, .inl (gB g, 1500, .inl fn4)), (h1, .inr (2, [.ref h3, .int x3, .int x4, .ref h4, .ref h5, .ref h6])), (h0, .inr (1, [.ref h1, .ref h8, .ref h2, .int z138, .long z2, .long y1, .int x1, .int x2, .long y2, .long y3]))] rfl ?_
    have gz138 := fb_rng z138
    refine r_aload_n 72 1 C dX1_takeOperandOrOperator_72 rfl ?_
    refine r_get 73 C dX1_takeOperandOrOperator_73 (k := 3) 7 rfl rfl hiX1 (by decide) rfl (mg 1 rfl) (Or.inl rfl) rfl ?_
    refine r_if_ne 76 99 C dX1_takeOperandOrOperator_76 (by decide) (fun c140 => ?_) (fun c140 => ?_)
    · skip
      have k141 : ¬ ((Int32.toInt z138) = 0) := fun h_9 => c140 ((fa_eq z138 0).mpr h_9)
      refine r_aload_n 99 1 C dX1_takeOperandOrOperator_99 rfl ?_
      refine r_get 100 C dX1_takeOperandOrOperator_100 (k := 3) 7 rfl rfl hiX1 (by decide) rfl (mg 1 rfl) (Or.inl rfl) rfl ?_
      refine r_if_ne 103 126 C dX1_takeOperandOrOperator_103 (by decide) (fun c142 => ?_) (fun c142 => ?_)
      · skip
        have k143 : ¬ ((Int32.toInt z138) = 0) := fun h_9 => c142 ((fa_eq z138 0).mpr h_9)
        exact r_vret 126 Rt dX1_takeOperandOrOperator_126 (z138, z2, x3, x4, fn0, fn1, fn2, fn3) (show 0 ≤ (Int32.toInt x3) ∧ (Int32.toInt x3) ≤ 48 ∧ 0 ≤ (Int32.toInt x4) ∧ (Int32.toInt x4) ≤ 1 from ⟨i_x3.1, i_x3.2, i_x4.1, i_x4.2⟩) [7, 6, 4, 0, 1, 2, 3, 5] (by decide) rfl (Nat.le_of_ble_eq_true rfl) (Nat.le_of_ble_eq_true rfl)
      · skip
        have k144 : (Int32.toInt z138) = 0 := (fa_eq z138 0).mp c142
        refine r_aload_n 106 1 C dX1_takeOperandOrOperator_106 rfl ?_
        refine r_get 107 C dX1_takeOperandOrOperator_107 (k := 0) 7 rfl rfl hiX1 (by decide) rfl (mg 2 rfl) (Or.inl rfl) rfl ?_
        refine r_iload_n 110 0 C dX1_takeOperandOrOperator_110 rfl ?_
        refine r_aload_n 111 1 C dX1_takeOperandOrOperator_111 rfl ?_
        refine r_iload_n 112 0 C dX1_takeOperandOrOperator_112 rfl ?_
        refine r_callSNi 113 C dX1_takeOperandOrOperator_113 [.ref h0, .int r3, .ref h1] [] [(h3, .inl (gI g, 48, .inl fn0)), (h4, .inl (gI g, 6, .inl fn1)), (h5, .inl (gI g, 6, .inl fn2)), (h6, .inl (gI g, 6, .inl fn3)), (h2, .inr (4, [.ref h7, .int x5])), (h7, .inl (gB g, 1500, .inl fn4)), (h1, .inr (2, [.ref h3, .int x3, .int x4, .ref h4, .ref h5, .ref h6])), (h0, .inr (1, [.ref h1, .ref h8, .ref h2, .int z138, .long z2, .long y1, .int x1, .int x2, .long y2, .long y3]))] (fun sz => c65_X11_bytesBehind l g r3  sz) gX1_takeOperandOrOperator_X11_bytesBehind_n171 rfl ⟨rfl, rfl⟩ 1 (by decide) ⟨Nat.le_of_ble_eq_true rfl, Nat.le_of_ble_eq_true rfl⟩ (mg 25 rfl) (mg 65 rfl) (mg 64 rfl) [] [0, 1, 2, 3, 4, 5, 6, 7] rfl rfl (by decide) (by decide) (by decide) rfl rfl (Nat.le_of_ble_eq_true rfl) ⟨Nat.le_of_ble_eq_true rfl, Nat.le_of_ble_eq_true rfl⟩ (fun r145 _ w146 => ?_)
        refine r_ws [(h3, .inl (gI g, 48, .inl fn0)), (h4, .inl (gI g, 6, .inl fn1)), (h5, .inl (gI g, 6, .inl fn2)), (h6, .inl (gI g, 6, .inl fn3)), (h2, .inr (4, [.ref h7, .int x5])), (h7, .inl (gB g, 1500, .inl fn4)), (h1, .inr (2, [.ref h3, .int x3, .int x4, .ref h4, .ref h5, .ref h6])), (h0, .inr (1, [.ref h1, .ref h8, .ref h2, .int z138, .long z2, .long y1, .int x1, .int x2, .long y2, .long y3]))] rfl ?_
        have p147 : 0 ≤ (Int32.toInt r145) := w146.1
        have p148 : (Int32.toInt r145) ≤ 4 := w146.2
        refine r_callVl 116 C dX1_takeOperandOrOperator_116 [.int r3, .ref h1] [(h0, .inr (1, [.ref h1, .ref h8, .ref h2, .int z138, .long z2, .long y1, .int x1, .int x2, .long y2, .long y3])), (h2, .inr (4, [.ref h7, .int x5])), (h7, .inl (gB g, 1500, .inl fn4))] [(h3, .inl (gI g, 48, .inl fn0)), (h4, .inl (gI g, 6, .inl fn1)), (h5, .inl (gI g, 6, .inl fn2)), (h6, .inl (gI g, 6, .inl fn3)), (h1, .inr (2, [.ref h3, .int x3, .int x4, .ref h4, .ref h5, .ref h6]))] (fun sz => c56_X1_takeNumber l g h0 h2 h7 r145 h1 h8 z138 z2 y1 x1 x2 y2 y3 x5 fn4 i_x1 i_x5 sz) gX1_takeOperandOrOperator_X1_takeNumber rfl ⟨rfl, rfl⟩ 1 (by decide) ⟨Nat.le_of_ble_eq_true rfl, Nat.le_of_ble_eq_true rfl⟩ 7 rfl rfl [7, 4, 5] [0, 1, 2, 3, 6] rfl rfl (by decide) (by decide) (by decide) rfl rfl (Nat.le_of_ble_eq_true rfl) ⟨Nat.le_of_ble_eq_true rfl, Nat.le_of_ble_eq_true rfl⟩ (fun r151 u153 w152 => ?_)
        obtain ⟨z149, z150⟩ := u153
        refine r_ws [(h3, .inl (gI g, 48, .inl fn0)), (h4, .inl (gI g, 6, .inl fn1)), (h5, .inl (gI g, 6, .inl fn2)), (h6, .inl (gI g, 6, .inl fn3)), (h1, .inr (2, [.ref h3, .int x3, .int x4, .ref h4, .ref h5, .ref h6])), (h0, .inr (1, [.ref h1, .ref h8, .ref h2, .int z149, .long z150, .long y1, .int x1, .int x2, .long y2, .long y3])), (h2, .inr (4, [.ref h7, .int x5])), (h7, .inl (gB g, 1500, .inl fn4))] rfl ?_
        have gz149 := fb_rng z149
        have gz150 := fb_rngL z150
        have gr151 := fb_rngL r151
        obtain ⟨z154, ez154⟩ : ∃ z_9, Int64.toInt32 r151 = z_9 := ⟨_, rfl⟩
        have gz154 := fb_rng z154
        refine r_l2i 119 z154 C dX1_takeOperandOrOperator_119 ez154 ?_
        refine r_callSNi 120 C dX1_takeOperandOrOperator_120 [.ref h1] [] [(h3, .inl (gI g, 48, .inl fn0)), (h4, .inl (gI g, 6, .inl fn1)), (h5, .inl (gI g, 6, .inl fn2)), (h6, .inl (gI g, 6, .inl fn3)), (h1, .inr (2, [.ref h3, .int x3, .int x4, .ref h4, .ref h5, .ref h6])), (h0, .inr (1, [.ref h1, .ref h8, .ref h2, .int z149, .long z150, .long y1, .int x1, .int x2, .long y2, .long y3])), (h2, .inr (4, [.ref h7, .int x5])), (h7, .inl (gB g, 1500, .inl fn4))] (fun sz => c66_X11_wholeNumber l g r3 z154  sz) gX1_takeOperandOrOperator_X11_wholeNumber_n174 rfl ⟨rfl, rfl⟩ 2 (by decide) ⟨Nat.le_of_ble_eq_true rfl, Nat.le_of_ble_eq_true rfl⟩ (mg 26 rfl) (mg 65 rfl) (mg 72 rfl) [] [0, 1, 2, 3, 4, 5, 6, 7] rfl rfl (by decide) (by decide) (by decide) rfl rfl (Nat.le_of_ble_eq_true rfl) ⟨Nat.le_of_ble_eq_true rfl, Nat.le_of_ble_eq_true rfl⟩ (fun r155 _ w156 => ?_)
        refine r_ws [(h3, .inl (gI g, 48, .inl fn0)), (h4, .inl (gI g, 6, .inl fn1)), (h5, .inl (gI g, 6, .inl fn2)), (h6, .inl (gI g, 6, .inl fn3)), (h1, .inr (2, [.ref h3, .int x3, .int x4, .ref h4, .ref h5, .ref h6])), (h0, .inr (1, [.ref h1, .ref h8, .ref h2, .int z149, .long z150, .long y1, .int x1, .int x2, .long y2, .long y3])), (h2, .inr (4, [.ref h7, .int x5])), (h7, .inl (gB g, 1500, .inl fn4))] rfl ?_
        have gr155 := fb_rng r155
        refine r_callVv 123 C dX1_takeOperandOrOperator_123 [] [(h1, .inr (2, [.ref h3, .int x3, .int x4, .ref h4, .ref h5, .ref h6])), (h3, .inl (gI g, 48, .inl fn0))] [(h4, .inl (gI g, 6, .inl fn1)), (h5, .inl (gI g, 6, .inl fn2)), (h6, .inl (gI g, 6, .inl fn3)), (h0, .inr (1, [.ref h1, .ref h8, .ref h2, .int z149, .long z150, .long y1, .int x1, .int x2, .long y2, .long y3])), (h2, .inr (4, [.ref h7, .int x5])), (h7, .inl (gB g, 1500, .inl fn4))] (fun sz => c67_X2_add l g h1 h3 r155 x3 x4 h4 h5 h6 fn0 i_x3 i_x4 sz) gX1_takeOperandOrOperator_X2_add rfl ⟨rfl, rfl⟩ 1 (by decide) ⟨Nat.le_of_ble_eq_true rfl, Nat.le_of_ble_eq_true rfl⟩ 4 rfl rfl [4, 0] [1, 2, 3, 5, 6, 7] rfl rfl (by decide) (by decide) (by decide) rfl rfl (Nat.le_of_ble_eq_true rfl) ⟨Nat.le_of_ble_eq_true rfl, Nat.le_of_ble_eq_true rfl⟩ (fun  u160 w159 => ?_)
        obtain ⟨z157, f158⟩ := u160
        refine r_ws [(h4, .inl (gI g, 6, .inl fn1)), (h5, .inl (gI g, 6, .inl fn2)), (h6, .inl (gI g, 6, .inl fn3)), (h0, .inr (1, [.ref h1, .ref h8, .ref h2, .int z149, .long z150, .long y1, .int x1, .int x2, .long y2, .long y3])), (h2, .inr (4, [.ref h7, .int x5])), (h7, .inl (gB g, 1500, .inl fn4)), (h1, .inr (2, [.ref h3, .int z157, .int x4, .ref h4, .ref h5, .ref h6])), (h3, .inl (gI g, 48, .inl f158))] rfl ?_
        have p161 : 0 ≤ (Int32.toInt z157) := w159.1
        have p162 : (Int32.toInt z157) ≤ 48 := w159.2
        exact r_vret 126 Rt dX1_takeOperandOrOperator_126 (z149, z150, z157, x4, f158, fn1, fn2, fn3) (show 0 ≤ (Int32.toInt z157) ∧ (Int32.toInt z157) ≤ 48 ∧ 0 ≤ (Int32.toInt x4) ∧ (Int32.toInt x4) ≤ 1 from ⟨(show _ ∧ _ from ⟨p161, p162⟩).1, (show _ ∧ _ from ⟨p161, p162⟩).2, i_x4.1, i_x4.2⟩) [3, 6, 4, 7, 0, 1, 2, 5] (by decide) rfl (Nat.le_of_ble_eq_true rfl) (Nat.le_of_ble_eq_true rfl)
    · skip
      have k163 : (Int32.toInt z138) = 0 := (fa_eq z138 0).mp c140
      refine r_iload_n 79 0 C dX1_takeOperandOrOperator_79 rfl ?_
      refine r_bipush 80 30 C dX1_takeOperandOrOperator_80 (by decide) ?_
      refine r_icmp_ne 82 99 C dX1_takeOperandOrOperator_82 (by decide) (fun c164 => ?_) (fun c164 => ?_)
      · skip
        have k165 : ¬ ((Int32.toInt r3) = 30) := fun h_9 => c164 ((fa_eq r3 30).mpr h_9)
        refine r_aload_n 99 1 C dX1_takeOperandOrOperator_99 rfl ?_
        refine r_get 100 C dX1_takeOperandOrOperator_100 (k := 3) 7 rfl rfl hiX1 (by decide) rfl (mg 1 rfl) (Or.inl rfl) rfl ?_
        refine r_if_ne_f 103 126 C dX1_takeOperandOrOperator_103 (by decide) ((fa_eq z138 0).mpr (by show (Int32.toInt z138) = 0; omega)) ?_
        refine r_aload_n 106 1 C dX1_takeOperandOrOperator_106 rfl ?_
        refine r_get 107 C dX1_takeOperandOrOperator_107 (k := 0) 7 rfl rfl hiX1 (by decide) rfl (mg 2 rfl) (Or.inl rfl) rfl ?_
        refine r_iload_n 110 0 C dX1_takeOperandOrOperator_110 rfl ?_
        refine r_aload_n 111 1 C dX1_takeOperandOrOperator_111 rfl ?_
        refine r_iload_n 112 0 C dX1_takeOperandOrOperator_112 rfl ?_
        refine r_callSNi 113 C dX1_takeOperandOrOperator_113 [.ref h0, .int r3, .ref h1] [] [(h3, .inl (gI g, 48, .inl fn0)), (h4, .inl (gI g, 6, .inl fn1)), (h5, .inl (gI g, 6, .inl fn2)), (h6, .inl (gI g, 6, .inl fn3)), (h2, .inr (4, [.ref h7, .int x5])), (h7, .inl (gB g, 1500, .inl fn4)), (h1, .inr (2, [.ref h3, .int x3, .int x4, .ref h4, .ref h5, .ref h6])), (h0, .inr (1, [.ref h1, .ref h8, .ref h2, .int z138, .long z2, .long y1, .int x1, .int x2, .long y2, .long y3]))] (fun sz => c65_X11_bytesBehind l g r3  sz) gX1_takeOperandOrOperator_X11_bytesBehind_n171 rfl ⟨rfl, rfl⟩ 1 (by decide) ⟨Nat.le_of_ble_eq_true rfl, Nat.le_of_ble_eq_true rfl⟩ (mg 25 rfl) (mg 65 rfl) (mg 64 rfl) [] [0, 1, 2, 3, 4, 5, 6, 7] rfl rfl (by decide) (by decide) (by decide) rfl rfl (Nat.le_of_ble_eq_true rfl) ⟨Nat.le_of_ble_eq_true rfl, Nat.le_of_ble_eq_true rfl⟩ (fun r166 _ w167 => ?_)
        refine r_ws [(h3, .inl (gI g, 48, .inl fn0)), (h4, .inl (gI g, 6, .inl fn1)), (h5, .inl (gI g, 6, .inl fn2)), (h6, .inl (gI g, 6, .inl fn3)), (h2, .inr (4, [.ref h7, .int x5])), (h7, .inl (gB g, 1500, .inl fn4)), (h1, .inr (2, [.ref h3, .int x3, .int x4, .ref h4, .ref h5, .ref h6])), (h0, .inr (1, [.ref h1, .ref h8, .ref h2, .int z138, .long z2, .long y1, .int x1, .int x2, .long y2, .long y3]))] rfl ?_
        have p168 : 0 ≤ (Int32.toInt r166) := w167.1
        have p169 : (Int32.toInt r166) ≤ 4 := w167.2
        refine r_callVl 116 C dX1_takeOperandOrOperator_116 [.int r3, .ref h1] [(h0, .inr (1, [.ref h1, .ref h8, .ref h2, .int z138, .long z2, .long y1, .int x1, .int x2, .long y2, .long y3])), (h2, .inr (4, [.ref h7, .int x5])), (h7, .inl (gB g, 1500, .inl fn4))] [(h3, .inl (gI g, 48, .inl fn0)), (h4, .inl (gI g, 6, .inl fn1)), (h5, .inl (gI g, 6, .inl fn2)), (h6, .inl (gI g, 6, .inl fn3)), (h1, .inr (2, [.ref h3, .int x3, .int x4, .ref h4, .ref h5, .ref h6]))] (fun sz => c56_X1_takeNumber l g h0 h2 h7 r166 h1 h8 z138 z2 y1 x1 x2 y2 y3 x5 fn4 i_x1 i_x5 sz) gX1_takeOperandOrOperator_X1_takeNumber rfl ⟨rfl, rfl⟩ 1 (by decide) ⟨Nat.le_of_ble_eq_true rfl, Nat.le_of_ble_eq_true rfl⟩ 7 rfl rfl [7, 4, 5] [0, 1, 2, 3, 6] rfl rfl (by decide) (by decide) (by decide) rfl rfl (Nat.le_of_ble_eq_true rfl) ⟨Nat.le_of_ble_eq_true rfl, Nat.le_of_ble_eq_true rfl⟩ (fun r172 u174 w173 => ?_)
        obtain ⟨z170, z171⟩ := u174
        refine r_ws [(h3, .inl (gI g, 48, .inl fn0)), (h4, .inl (gI g, 6, .inl fn1)), (h5, .inl (gI g, 6, .inl fn2)), (h6, .inl (gI g, 6, .inl fn3)), (h1, .inr (2, [.ref h3, .int x3, .int x4, .ref h4, .ref h5, .ref h6])), (h0, .inr (1, [.ref h1, .ref h8, .ref h2, .int z170, .long z171, .long y1, .int x1, .int x2, .long y2, .long y3])), (h2, .inr (4, [.ref h7, .int x5])), (h7, .inl (gB g, 1500, .inl fn4))] rfl ?_
        have gz170 := fb_rng z170
        have gz171 := fb_rngL z171
        have gr172 := fb_rngL r172
        obtain ⟨z175, ez175⟩ : ∃ z_9, Int64.toInt32 r172 = z_9 := ⟨_, rfl⟩
        have gz175 := fb_rng z175
        refine r_l2i 119 z175 C dX1_takeOperandOrOperator_119 ez175 ?_
        refine r_callSNi 120 C dX1_takeOperandOrOperator_120 [.ref h1] [] [(h3, .inl (gI g, 48, .inl fn0)), (h4, .inl (gI g, 6, .inl fn1)), (h5, .inl (gI g, 6, .inl fn2)), (h6, .inl (gI g, 6, .inl fn3)), (h1, .inr (2, [.ref h3, .int x3, .int x4, .ref h4, .ref h5, .ref h6])), (h0, .inr (1, [.ref h1, .ref h8, .ref h2, .int z170, .long z171, .long y1, .int x1, .int x2, .long y2, .long y3])), (h2, .inr (4, [.ref h7, .int x5])), (h7, .inl (gB g, 1500, .inl fn4))] (fun sz => c66_X11_wholeNumber l g r3 z175  sz) gX1_takeOperandOrOperator_X11_wholeNumber_n174 rfl ⟨rfl, rfl⟩ 2 (by decide) ⟨Nat.le_of_ble_eq_true rfl, Nat.le_of_ble_eq_true rfl⟩ (mg 26 rfl) (mg 65 rfl) (mg 72 rfl) [] [0, 1, 2, 3, 4, 5, 6, 7] rfl rfl (by decide) (by decide) (by decide) rfl rfl (Nat.le_of_ble_eq_true rfl) ⟨Nat.le_of_ble_eq_true rfl, Nat.le_of_ble_eq_true rfl⟩ (fun r176 _ w177 => ?_)
        refine r_ws [(h3, .inl (gI g, 48, .inl fn0)), (h4, .inl (gI g, 6, .inl fn1)), (h5, .inl (gI g, 6, .inl fn2)), (h6, .inl (gI g, 6, .inl fn3)), (h1, .inr (2, [.ref h3, .int x3, .int x4, .ref h4, .ref h5, .ref h6])), (h0, .inr (1, [.ref h1, .ref h8, .ref h2, .int z170, .long z171, .long y1, .int x1, .int x2, .long y2, .long y3])), (h2, .inr (4, [.ref h7, .int x5])), (h7, .inl (gB g, 1500, .inl fn4))] rfl ?_
        have gr176 := fb_rng r176
        refine r_callVv 123 C dX1_takeOperandOrOperator_123 [] [(h1, .inr (2, [.ref h3, .int x3, .int x4, .ref h4, .ref h5, .ref h6])), (h3, .inl (gI g, 48, .inl fn0))] [(h4, .inl (gI g, 6, .inl fn1)), (h5, .inl (gI g, 6, .inl fn2)), (h6, .inl (gI g, 6, .inl fn3)), (h0, .inr (1, [.ref h1, .ref h8, .ref h2, .int z170, .long z171, .long y1, .int x1, .int x2, .long y2, .long y3])), (h2, .inr (4, [.ref h7, .int x5])), (h7, .inl (gB g, 1500, .inl fn4))] (fun sz => c67_X2_add l g h1 h3 r176 x3 x4 h4 h5 h6 fn0 i_x3 i_x4 sz) gX1_takeOperandOrOperator_X2_add rfl ⟨rfl, rfl⟩ 1 (by decide) ⟨Nat.le_of_ble_eq_true rfl, Nat.le_of_ble_eq_true rfl⟩ 4 rfl rfl [4, 0] [1, 2, 3, 5, 6, 7] rfl rfl (by decide) (by decide) (by decide) rfl rfl (Nat.le_of_ble_eq_true rfl) ⟨Nat.le_of_ble_eq_true rfl, Nat.le_of_ble_eq_true rfl⟩ (fun  u181 w180 => ?_)
        obtain ⟨z178, f179⟩ := u181
        refine r_ws [(h4, .inl (gI g, 6, .inl fn1)), (h5, .inl (gI g, 6, .inl fn2)), (h6, .inl (gI g, 6, .inl fn3)), (h0, .inr (1, [.ref h1, .ref h8, .ref h2, .int z170, .long z171, .long y1, .int x1, .int x2, .long y2, .long y3])), (h2, .inr (4, [.ref h7, .int x5])), (h7, .inl (gB g, 1500, .inl fn4)), (h1, .inr (2, [.ref h3, .int z178, .int x4, .ref h4, .ref h5, .ref h6])), (h3, .inl (gI g, 48, .inl f179))] rfl ?_
        have p182 : 0 ≤ (Int32.toInt z178) := w180.1
        have p183 : (Int32.toInt z178) ≤ 48 := w180.2
        exact r_vret 126 Rt dX1_takeOperandOrOperator_126 (z170, z171, z178, x4, f179, fn1, fn2, fn3) (show 0 ≤ (Int32.toInt z178) ∧ (Int32.toInt z178) ≤ 48 ∧ 0 ≤ (Int32.toInt x4) ∧ (Int32.toInt x4) ≤ 1 from ⟨(show _ ∧ _ from ⟨p182, p183⟩).1, (show _ ∧ _ from ⟨p182, p183⟩).2, i_x4.1, i_x4.2⟩) [3, 6, 4, 7, 0, 1, 2, 5] (by decide) rfl (Nat.le_of_ble_eq_true rfl) (Nat.le_of_ble_eq_true rfl)
      · skip
        have k184 : (Int32.toInt r3) = 30 := (fa_eq r3 30).mp c164
        refine r_aload_n 85 1 C dX1_takeOperandOrOperator_85 rfl ?_
        refine r_callVv 86 C dX1_takeOperandOrOperator_86 [] [(h0, .inr (1, [.ref h1, .ref h8, .ref h2, .int z138, .long z2, .long y1, .int x1, .int x2, .long y2, .long y3])), (h2, .inr (4, [.ref h7, .int x5])), (h7, .inl (gB g, 1500, .inl fn4))] [(h3, .inl (gI g, 48, .inl fn0)), (h4, .inl (gI g, 6, .inl fn1)), (h5, .inl (gI g, 6, .inl fn2)), (h6, .inl (gI g, 6, .inl fn3)), (h1, .inr (2, [.ref h3, .int x3, .int x4, .ref h4, .ref h5, .ref h6]))] (fun sz => c68_X1_takeReal l g h0 h2 h7 h1 h8 z138 z2 y1 x1 x2 y2 y3 x5 fn4 i_x1 i_x5 sz) gX1_takeOperandOrOperator_X1_takeReal rfl ⟨rfl, rfl⟩ 0 (by decide) ⟨Nat.le_of_ble_eq_true rfl, Nat.le_of_ble_eq_true rfl⟩ 7 rfl rfl [7, 4, 5] [0, 1, 2, 3, 6] rfl rfl (by decide) (by decide) (by decide) rfl rfl (Nat.le_of_ble_eq_true rfl) ⟨Nat.le_of_ble_eq_true rfl, Nat.le_of_ble_eq_true rfl⟩ (fun  u188 w187 => ?_)
        obtain ⟨z185, z186⟩ := u188
        refine r_ws [(h3, .inl (gI g, 48, .inl fn0)), (h4, .inl (gI g, 6, .inl fn1)), (h5, .inl (gI g, 6, .inl fn2)), (h6, .inl (gI g, 6, .inl fn3)), (h1, .inr (2, [.ref h3, .int x3, .int x4, .ref h4, .ref h5, .ref h6])), (h0, .inr (1, [.ref h1, .ref h8, .ref h2, .int z185, .long z186, .long y1, .int x1, .int x2, .long y2, .long y3])), (h2, .inr (4, [.ref h7, .int x5])), (h7, .inl (gB g, 1500, .inl fn4))] rfl ?_
        have gz185 := fb_rng z185
        have gz186 := fb_rngL z186
        refine r_aload_n 89 1 C dX1_takeOperandOrOperator_89 rfl ?_
        refine r_get 90 C dX1_takeOperandOrOperator_90 (k := 0) 5 rfl rfl hiX1 (by decide) rfl (mg 2 rfl) (Or.inl rfl) rfl ?_
        refine r_callVv 93 C dX1_takeOperandOrOperator_93 [] [(h1, .inr (2, [.ref h3, .int x3, .int x4, .ref h4, .ref h5, .ref h6])), (h3, .inl (gI g, 48, .inl fn0))] [(h4, .inl (gI g, 6, .inl fn1)), (h5, .inl (gI g, 6, .inl fn2)), (h6, .inl (gI g, 6, .inl fn3)), (h0, .inr (1, [.ref h1, .ref h8, .ref h2, .int z185, .long z186, .long y1, .int x1, .int x2, .long y2, .long y3])), (h2, .inr (4, [.ref h7, .int x5])), (h7, .inl (gB g, 1500, .inl fn4))] (fun sz => c69_X2_addReal l g h1 h3 x3 x4 h4 h5 h6 fn0 i_x3 i_x4 sz) gX1_takeOperandOrOperator_X2_addReal rfl ⟨rfl, rfl⟩ 0 (by decide) ⟨Nat.le_of_ble_eq_true rfl, Nat.le_of_ble_eq_true rfl⟩ 4 rfl rfl [4, 0] [1, 2, 3, 5, 6, 7] rfl rfl (by decide) (by decide) (by decide) rfl rfl (Nat.le_of_ble_eq_true rfl) ⟨Nat.le_of_ble_eq_true rfl, Nat.le_of_ble_eq_true rfl⟩ (fun  u192 w191 => ?_)
        obtain ⟨z189, f190⟩ := u192
        refine r_ws [(h4, .inl (gI g, 6, .inl fn1)), (h5, .inl (gI g, 6, .inl fn2)), (h6, .inl (gI g, 6, .inl fn3)), (h0, .inr (1, [.ref h1, .ref h8, .ref h2, .int z185, .long z186, .long y1, .int x1, .int x2, .long y2, .long y3])), (h2, .inr (4, [.ref h7, .int x5])), (h7, .inl (gB g, 1500, .inl fn4)), (h1, .inr (2, [.ref h3, .int z189, .int 1, .ref h4, .ref h5, .ref h6])), (h3, .inl (gI g, 48, .inl f190))] rfl ?_
        have p193 : 0 ≤ (Int32.toInt z189) := w191.1
        have p194 : (Int32.toInt z189) ≤ 48 := w191.2
        refine r_goto 96 126 C dX1_takeOperandOrOperator_96 (by decide) ?_
        exact r_vret 126 Rt dX1_takeOperandOrOperator_126 (z185, z186, z189, 1, f190, fn1, fn2, fn3) (show 0 ≤ (Int32.toInt z189) ∧ (Int32.toInt z189) ≤ 48 ∧ 0 ≤ (Int32.toInt 1) ∧ (Int32.toInt 1) ≤ 1 from ⟨(show _ ∧ _ from ⟨p193, p194⟩).1, (show _ ∧ _ from ⟨p193, p194⟩).2, (by ((repeat' apply And.intro) <;> first | trivial | rfl | assumption | omega | decide | exact Or.inl rfl | exact Or.inr (Or.inl rfl) | exact Or.inr (Or.inr rfl))), (by ((repeat' apply And.intro) <;> first | trivial | rfl | assumption | omega | decide | exact Or.inl rfl | exact Or.inr (Or.inl rfl) | exact Or.inr (Or.inr rfl)))⟩) [3, 6, 4, 7, 0, 1, 2, 5] (by decide) rfl (Nat.le_of_ble_eq_true rfl) (Nat.le_of_ble_eq_true rfl)
  · skip
    have k195 : ¬ (21 < (Int32.toInt r3)) := fun h_9 => c8 ((fa_lt 21 r3).mpr h_9)
    refine r_iload_n 11 0 C dX1_takeOperandOrOperator_11 rfl ?_
    refine r_bipush 12 12 C dX1_takeOperandOrOperator_12 (by decide) ?_
    refine r_icmp_ne 14 28 C dX1_takeOperandOrOperator_14 (by decide) (fun c196 => ?_) (fun c196 => ?_)
    · skip
      have k197 : ¬ ((Int32.toInt r3) = 12) := fun h_9 => c196 ((fa_eq r3 12).mpr h_9)
      refine r_iload_n 28 0 C dX1_takeOperandOrOperator_28 rfl ?_
      refine r_istore_n 29 C dX1_takeOperandOrOperator_29 [(2, .int r3), (1, .int r3), (0, .ref h0)] (by decide) rfl ?_
      refine r_aload_n 30 2 C dX1_takeOperandOrOperator_30 rfl ?_
      refine r_get 31 C dX1_takeOperandOrOperator_31 (k := 3) 5 rfl rfl hiX1 (by decide) rfl (mg 1 rfl) (Or.inl rfl) rfl ?_
      refine r_if_ne 34 45 C dX1_takeOperandOrOperator_34 (by decide) (fun c198 => ?_) (fun c198 => ?_)
      · skip
        have k199 : ¬ ((Int32.toInt z1) = 0) := fun h_9 => c198 ((fa_eq z1 0).mpr h_9)
        exact r_vret 45 Rt dX1_takeOperandOrOperator_45 (z1, z2, x3, x4, fn0, fn1, fn2, fn3) (show 0 ≤ (Int32.toInt x3) ∧ (Int32.toInt x3) ≤ 48 ∧ 0 ≤ (Int32.toInt x4) ∧ (Int32.toInt x4) ≤ 1 from ⟨i_x3.1, i_x3.2, i_x4.1, i_x4.2⟩) [5, 0, 6, 1, 2, 3, 4, 7] (by decide) rfl (Nat.le_of_ble_eq_true rfl) (Nat.le_of_ble_eq_true rfl)
      · skip
        have k200 : (Int32.toInt z1) = 0 := (fa_eq z1 0).mp c198
        refine r_aload_n 37 2 C dX1_takeOperandOrOperator_37 rfl ?_
        refine r_get 38 C dX1_takeOperandOrOperator_38 (k := 0) 5 rfl rfl hiX1 (by decide) rfl (mg 2 rfl) (Or.inl rfl) rfl ?_
        refine r_iload_n 41 0 C dX1_takeOperandOrOperator_41 rfl ?_
        refine r_callVv 42 C dX1_takeOperandOrOperator_42 [] [(h1, .inr (2, [.ref h3, .int x3, .int x4, .ref h4, .ref h5, .ref h6])), (h3, .inl (gI g, 48, .inl fn0)), (h4, .inl (gI g, 6, .inl fn1)), (h5, .inl (gI g, 6, .inl fn2)), (h6, .inl (gI g, 6, .inl fn3))] [(h0, .inr (1, [.ref h1, .ref h8, .ref h2, .int z1, .long z2, .long y1, .int x1, .int x2, .long y2, .long y3])), (h2, .inr (4, [.ref h7, .int x5])), (h7, .inl (gB g, 1500, .inl fn4))] (fun sz => c71_X2_tell l g h1 h3 h4 h5 h6 r3 x3 x4 fn0 fn1 fn2 fn3 i_x3 i_x4 sz) gX1_takeOperandOrOperator_X2_tell rfl ⟨rfl, rfl⟩ 1 (by decide) ⟨Nat.le_of_ble_eq_true rfl, Nat.le_of_ble_eq_true rfl⟩ 0 rfl rfl [0, 1, 2, 3, 4] [5, 6, 7] rfl rfl (by decide) (by decide) (by decide) rfl rfl (Nat.le_of_ble_eq_true rfl) ⟨Nat.le_of_ble_eq_true rfl, Nat.le_of_ble_eq_true rfl⟩ (fun  u205 w204 => ?_)
        obtain ⟨f201, f202, f203⟩ := u205
        refine r_ws [(h0, .inr (1, [.ref h1, .ref h8, .ref h2, .int z1, .long z2, .long y1, .int x1, .int x2, .long y2, .long y3])), (h2, .inr (4, [.ref h7, .int x5])), (h7, .inl (gB g, 1500, .inl fn4)), (h1, .inr (2, [.ref h3, .int 0, .int 0, .ref h4, .ref h5, .ref h6])), (h3, .inl (gI g, 48, .inl fn0)), (h4, .inl (gI g, 6, .inl f201)), (h5, .inl (gI g, 6, .inl f202)), (h6, .inl (gI g, 6, .inl f203))] rfl ?_
        exact r_vret 45 Rt dX1_takeOperandOrOperator_45 (z1, z2, 0, 0, fn0, f201, f202, f203) (show 0 ≤ (Int32.toInt 0) ∧ (Int32.toInt 0) ≤ 48 ∧ 0 ≤ (Int32.toInt 0) ∧ (Int32.toInt 0) ≤ 1 from ⟨(by ((repeat' apply And.intro) <;> first | trivial | rfl | assumption | omega | decide | exact Or.inl rfl | exact Or.inr (Or.inl rfl) | exact Or.inr (Or.inr rfl))), (by ((repeat' apply And.intro) <;> first | trivial | rfl | assumption | omega | decide | exact Or.inl rfl | exact Or.inr (Or.inl rfl) | exact Or.inr (Or.inr rfl))), (by ((repeat' apply And.intro) <;> first | trivial | rfl | assumption | omega | decide | exact Or.inl rfl | exact Or.inr (Or.inl rfl) | exact Or.inr (Or.inr rfl))), (by ((repeat' apply And.intro) <;> first | trivial | rfl | assumption | omega | decide | exact Or.inl rfl | exact Or.inr (Or.inl rfl) | exact Or.inr (Or.inr rfl)))⟩) [0, 3, 1, 4, 5, 6, 7, 2] (by decide) rfl (Nat.le_of_ble_eq_true rfl) (Nat.le_of_ble_eq_true rfl)
    · skip
      have k206 : (Int32.toInt r3) = 12 := (fa_eq r3 12).mp c196
      refine r_sipush 17 256 C dX1_takeOperandOrOperator_17 (by decide) ?_
      refine r_aload_n 20 1 C dX1_takeOperandOrOperator_20 rfl ?_
      refine r_callVi 21 C dX1_takeOperandOrOperator_21 [.int 256] [(h0, .inr (1, [.ref h1, .ref h8, .ref h2, .int z1, .long z2, .long y1, .int x1, .int x2, .long y2, .long y3])), (h2, .inr (4, [.ref h7, .int x5])), (h7, .inl (gB g, 1500, .inl fn4))] [(h1, .inr (2, [.ref h3, .int x3, .int x4, .ref h4, .ref h5, .ref h6])), (h3, .inl (gI g, 48, .inl fn0)), (h4, .inl (gI g, 6, .inl fn1)), (h5, .inl (gI g, 6, .inl fn2)), (h6, .inl (gI g, 6, .inl fn3))] (fun sz => c52_X1_take l g h0 h2 h7 h1 h8 z1 z2 y1 x1 x2 y2 y3 x5 fn4 i_x1 i_x5 sz) gX1_takeOperandOrOperator_X1_take rfl ⟨rfl, rfl⟩ 0 (by decide) ⟨Nat.le_of_ble_eq_true rfl, Nat.le_of_ble_eq_true rfl⟩ 5 rfl rfl [5, 6, 7] [0, 1, 2, 3, 4] rfl rfl (by decide) (by decide) (by decide) rfl rfl (Nat.le_of_ble_eq_true rfl) ⟨Nat.le_of_ble_eq_true rfl, Nat.le_of_ble_eq_true rfl⟩ (fun r209 u211 w210 => ?_)
      obtain ⟨z207, z208⟩ := u211
      refine r_ws [(h1, .inr (2, [.ref h3, .int x3, .int x4, .ref h4, .ref h5, .ref h6])), (h3, .inl (gI g, 48, .inl fn0)), (h4, .inl (gI g, 6, .inl fn1)), (h5, .inl (gI g, 6, .inl fn2)), (h6, .inl (gI g, 6, .inl fn3)), (h0, .inr (1, [.ref h1, .ref h8, .ref h2, .int z207, .long z208, .long y1, .int x1, .int x2, .long y2, .long y3])), (h2, .inr (4, [.ref h7, .int x5])), (h7, .inl (gB g, 1500, .inl fn4))] rfl ?_
      have gz207 := fb_rng z207
      have gz208 := fb_rngL z208
      have p212 : -1 ≤ (Int32.toInt r209) := w210.1
      have p213 : (Int32.toInt r209) ≤ 255 := w210.2
      obtain ⟨z214, ez214⟩ : ∃ z_9, 256 + r209 = z_9 := ⟨_, rfl⟩
      have tz214 : (Int32.toInt z214) = 256 + (Int32.toInt r209) := by rw [← ez214]; exact fb_addIv (a := 256) (b := 256) (c := (-1)) (d := 255) ⟨by decide, by decide⟩ ⟨p212, p213⟩ (by decide) (by decide)
      refine r_iadd 24 z214 C dX1_takeOperandOrOperator_24 ez214 ?_
      refine r_goto 25 29 C dX1_takeOperandOrOperator_25 (by decide) ?_
      refine r_istore_n 29 C dX1_takeOperandOrOperator_29 [(2, .int z214), (1, .int r3), (0, .ref h0)] (by decide) rfl ?_
      refine r_aload_n 30 2 C dX1_takeOperandOrOperator_30 rfl ?_
      refine r_get 31 C dX1_takeOperandOrOperator_31 (k := 3) 5 rfl rfl hiX1 (by decide) rfl (mg 1 rfl) (Or.inl rfl) rfl ?_
      refine r_if_ne 34 45 C dX1_takeOperandOrOperator_34 (by decide) (fun c215 => ?_) (fun c215 => ?_)
      · skip
        have k216 : ¬ ((Int32.toInt z207) = 0) := fun h_9 => c215 ((fa_eq z207 0).mpr h_9)
        exact r_vret 45 Rt dX1_takeOperandOrOperator_45 (z207, z208, x3, x4, fn0, fn1, fn2, fn3) (show 0 ≤ (Int32.toInt x3) ∧ (Int32.toInt x3) ≤ 48 ∧ 0 ≤ (Int32.toInt x4) ∧ (Int32.toInt x4) ≤ 1 from ⟨i_x3.1, i_x3.2, i_x4.1, i_x4.2⟩) [5, 0, 6, 1, 2, 3, 4, 7] (by decide) rfl (Nat.le_of_ble_eq_true rfl) (Nat.le_of_ble_eq_true rfl)
      · skip
        have k217 : (Int32.toInt z207) = 0 := (fa_eq z207 0).mp c215
        refine r_aload_n 37 2 C dX1_takeOperandOrOperator_37 rfl ?_
        refine r_get 38 C dX1_takeOperandOrOperator_38 (k := 0) 5 rfl rfl hiX1 (by decide) rfl (mg 2 rfl) (Or.inl rfl) rfl ?_
        refine r_iload_n 41 0 C dX1_takeOperandOrOperator_41 rfl ?_
        refine r_callVv 42 C dX1_takeOperandOrOperator_42 [] [(h1, .inr (2, [.ref h3, .int x3, .int x4, .ref h4, .ref h5, .ref h6])), (h3, .inl (gI g, 48, .inl fn0)), (h4, .inl (gI g, 6, .inl fn1)), (h5, .inl (gI g, 6, .inl fn2)), (h6, .inl (gI g, 6, .inl fn3))] [(h0, .inr (1, [.ref h1, .ref h8, .ref h2, .int z207, .long z208, .long y1, .int x1, .int x2, .long y2, .long y3])), (h2, .inr (4, [.ref h7, .int x5])), (h7, .inl (gB g, 1500, .inl fn4))] (fun sz => c71_X2_tell l g h1 h3 h4 h5 h6 z214 x3 x4 fn0 fn1 fn2 fn3 i_x3 i_x4 sz) gX1_takeOperandOrOperator_X2_tell rfl ⟨rfl, rfl⟩ 1 (by decide) ⟨Nat.le_of_ble_eq_true rfl, Nat.le_of_ble_eq_true rfl⟩ 0 rfl rfl [0, 1, 2, 3, 4] [5, 6, 7] rfl rfl (by decide) (by decide) (by decide) rfl rfl (Nat.le_of_ble_eq_true rfl) ⟨Nat.le_of_ble_eq_true rfl, Nat.le_of_ble_eq_true rfl⟩ (fun  u222 w221 => ?_)
        obtain ⟨f218, f219, f220⟩ := u222
        refine r_ws [(h0, .inr (1, [.ref h1, .ref h8, .ref h2, .int z207, .long z208, .long y1, .int x1, .int x2, .long y2, .long y3])), (h2, .inr (4, [.ref h7, .int x5])), (h7, .inl (gB g, 1500, .inl fn4)), (h1, .inr (2, [.ref h3, .int 0, .int 0, .ref h4, .ref h5, .ref h6])), (h3, .inl (gI g, 48, .inl fn0)), (h4, .inl (gI g, 6, .inl f218)), (h5, .inl (gI g, 6, .inl f219)), (h6, .inl (gI g, 6, .inl f220))] rfl ?_
        exact r_vret 45 Rt dX1_takeOperandOrOperator_45 (z207, z208, 0, 0, fn0, f218, f219, f220) (show 0 ≤ (Int32.toInt 0) ∧ (Int32.toInt 0) ≤ 48 ∧ 0 ≤ (Int32.toInt 0) ∧ (Int32.toInt 0) ≤ 1 from ⟨(by ((repeat' apply And.intro) <;> first | trivial | rfl | assumption | omega | decide | exact Or.inl rfl | exact Or.inr (Or.inl rfl) | exact Or.inr (Or.inr rfl))), (by ((repeat' apply And.intro) <;> first | trivial | rfl | assumption | omega | decide | exact Or.inl rfl | exact Or.inr (Or.inl rfl) | exact Or.inr (Or.inr rfl))), (by ((repeat' apply And.intro) <;> first | trivial | rfl | assumption | omega | decide | exact Or.inl rfl | exact Or.inr (Or.inl rfl) | exact Or.inr (Or.inr rfl))), (by ((repeat' apply And.intro) <;> first | trivial | rfl | assumption | omega | decide | exact Or.inl rfl | exact Or.inr (Or.inl rfl) | exact Or.inr (Or.inr rfl)))⟩) [0, 3, 1, 4, 5, 6, 7, 2] (by decide) rfl (Nat.le_of_ble_eq_true rfl) (Nat.le_of_ble_eq_true rfl)
set_option maxHeartbeats 4000000 in
set_option maxRecDepth 100000 in
theorem c73_X1_takeDict (l : Launch) (g : GD) (h0 : Nat) (h1 : Nat) (h2 : Nat) (h3 : Nat) (h4 : Nat) (h5 : Nat) (h6 : Nat) (h7 : Nat) (y0 : Int64) (y1 : Int64) (h8 : Nat) (x0 : Int32) (y2 : Int64) (y3 : Int64) (x1 : Int32) (x2 : Int32) (y4 : Int64) (y5 : Int64) (x3 : Int32) (x4 : Int32) (x5 : Int32) (fn0 : Nat → Int32) (fn1 : Nat → Int32) (fn2 : Nat → Int32) (fn3 : Nat → Int32) (fn4 : Nat → Int32) (i_x1 : (-257 ≤ (Int32.toInt x1) ∧ (Int32.toInt x1) ≤ 65535)) (i_x3 : (0 ≤ (Int32.toInt x3) ∧ (Int32.toInt x3) ≤ 48)) (i_x4 : (0 ≤ (Int32.toInt x4) ∧ (Int32.toInt x4) ≤ 1)) (i_x5 : (0 ≤ (Int32.toInt x5) ∧ (Int32.toInt x5) ≤ 1500)) (sz : Nat) : Met l yX1_takeDict wsX1_takeDict ({ frames := 4, cells := 0, slots := 0, locals := 90 }) (va_Pc [.ref h0, .long y0, .long y1] (PW g [(h0, .inr (1, [.ref h1, .ref h8, .ref h2, .int x0, .long y2, .long y3, .int x1, .int x2, .long y4, .long y5])), (h1, .inr (2, [.ref h3, .int x3, .int x4, .ref h4, .ref h5, .ref h6])), (h2, .inr (4, [.ref h7, .int x5])), (h3, .inl (gI g, 48, .inl fn0)), (h4, .inl (gI g, 6, .inl fn1)), (h5, .inl (gI g, 6, .inl fn2)), (h6, .inl (gI g, 6, .inl fn3)), (h7, .inl (gB g, 1500, .inl fn4))] sz)) (va_Qv (fun (u : (Int32) × (Int64) × (Int32) × (Int32) × (Nat → Int32) × (Nat → Int32) × (Nat → Int32) × (Nat → Int32)) => 0 ≤ (Int32.toInt (u.2.2.1)) ∧ (Int32.toInt (u.2.2.1)) ≤ 48 ∧ 0 ≤ (Int32.toInt (u.2.2.2.1)) ∧ (Int32.toInt (u.2.2.2.1)) ≤ 1) (BW g (va_A [(h0, .inr (1, [.ref h1, .ref h8, .ref h2, .int x0, .long y2, .long y3, .int x1, .int x2, .long y4, .long y5])), (h1, .inr (2, [.ref h3, .int x3, .int x4, .ref h4, .ref h5, .ref h6])), (h2, .inr (4, [.ref h7, .int x5])), (h3, .inl (gI g, 48, .inl fn0)), (h4, .inl (gI g, 6, .inl fn1)), (h5, .inl (gI g, 6, .inl fn2)), (h6, .inl (gI g, 6, .inl fn3)), (h7, .inl (gB g, 1500, .inl fn4))] sz) (fun u : (Int32) × (Int64) × (Int32) × (Int32) × (Nat → Int32) × (Nat → Int32) × (Nat → Int32) × (Nat → Int32) => [(h0, .inr (1, [.ref h1, .ref h8, .ref h2, .int u.1, .long u.2.1, .long 9223372036854775807, .int x1, .int x2, .long y4, .long y5])), (h1, .inr (2, [.ref h3, .int u.2.2.1, .int u.2.2.2.1, .ref h4, .ref h5, .ref h6])), (h2, .inr (4, [.ref h7, .int x5])), (h3, .inl (gI g, 48, .inl u.2.2.2.2.1)), (h4, .inl (gI g, 6, .inl u.2.2.2.2.2.1)), (h5, .inl (gI g, 6, .inl u.2.2.2.2.2.2.1)), (h6, .inl (gI g, 6, .inl u.2.2.2.2.2.2.2)), (h7, .inl (gB g, 1500, .inl fn4))])) (va_A [(h0, .inr (1, [.ref h1, .ref h8, .ref h2, .int x0, .long y2, .long y3, .int x1, .int x2, .long y4, .long y5])), (h1, .inr (2, [.ref h3, .int x3, .int x4, .ref h4, .ref h5, .ref h6])), (h2, .inr (4, [.ref h7, .int x5])), (h3, .inl (gI g, 48, .inl fn0)), (h4, .inl (gI g, 6, .inl fn1)), (h5, .inl (gI g, 6, .inl fn2)), (h6, .inl (gI g, 6, .inl fn3)), (h7, .inl (gB g, 1500, .inl fn4))] sz)) 0 0 (va_A [(h0, .inr (1, [.ref h1, .ref h8, .ref h2, .int x0, .long y2, .long y3, .int x1, .int x2, .long y4, .long y5])), (h1, .inr (2, [.ref h3, .int x3, .int x4, .ref h4, .ref h5, .ref h6])), (h2, .inr (4, [.ref h7, .int x5])), (h3, .inl (gI g, 48, .inl fn0)), (h4, .inl (gI g, 6, .inl fn1)), (h5, .inl (gI g, 6, .inl fn2)), (h6, .inl (gI g, 6, .inl fn3)), (h7, .inl (gB g, 1500, .inl fn4))] sz) := by
  refine met_v RX1 (by decide) rfl rfl (Nat.le_of_ble_eq_true rfl) [(0, .ref h0), (1, .long y0), (3, .long y1)] rfl ?_
  intro p e s m args below meth c A Q C hnm Rt
  have gy1 := fb_rngL y1
  have hiX1 : ∀ w ∈ wsX10, w ∈ wsX1_takeDict := fun w h => List.mem_cons_of_mem _ (List.mem_append_left _ (List.mem_append_left _ (List.mem_append_right _ (h))))
  refine r_aload_n 0 0 C dX1_takeDict_0 rfl ?_
  refine r_get 1 C dX1_takeDict_1 (k := 0) 0 rfl rfl hiX1 (by decide) rfl (mg 1 rfl) (Or.inl rfl) rfl ?_
  refine r_callVv 4 C dX1_takeDict_4 [] [(h1, .inr (2, [.ref h3, .int x3, .int x4, .ref h4, .ref h5, .ref h6])), (h4, .inl (gI g, 6, .inl fn1))] [(h0, .inr (1, [.ref h1, .ref h8, .ref h2, .int x0, .long y2, .long y3, .int x1, .int x2, .long y4, .long y5])), (h2, .inr (4, [.ref h7, .int x5])), (h3, .inl (gI g, 48, .inl fn0)), (h5, .inl (gI g, 6, .inl fn2)), (h6, .inl (gI g, 6, .inl fn3)), (h7, .inl (gB g, 1500, .inl fn4))] (fun sz => c61_X2_clear l g h1 h4 h3 x3 x4 h5 h6 fn1 i_x3 i_x4 sz) gX1_takeDict_X2_clear rfl ⟨rfl, rfl⟩ 0 (by decide) ⟨Nat.le_of_ble_eq_true rfl, Nat.le_of_ble_eq_true rfl⟩ 1 rfl rfl [1, 4] [0, 2, 3, 5, 6, 7] rfl rfl (by decide) (by decide) (by decide) rfl rfl (Nat.le_of_ble_eq_true rfl) ⟨Nat.le_of_ble_eq_true rfl, Nat.le_of_ble_eq_true rfl⟩ (fun  f1 w2 => ?_)
  refine r_ws [(h0, .inr (1, [.ref h1, .ref h8, .ref h2, .int x0, .long y2, .long y3, .int x1, .int x2, .long y4, .long y5])), (h2, .inr (4, [.ref h7, .int x5])), (h3, .inl (gI g, 48, .inl fn0)), (h5, .inl (gI g, 6, .inl fn2)), (h6, .inl (gI g, 6, .inl fn3)), (h7, .inl (gB g, 1500, .inl fn4)), (h1, .inr (2, [.ref h3, .int 0, .int 0, .ref h4, .ref h5, .ref h6])), (h4, .inl (gI g, 6, .inl f1))] rfl ?_
  refine r_aload_n 7 0 C dX1_takeDict_7 rfl ?_
  refine r_lload_n 8 1 C dX1_takeDict_8 rfl ?_
  refine r_put 9 C dX1_takeDict_9 (k := 4) 0 rfl rfl hiX1 tyX1 tyX1_ok nmX1 (by decide) rfl (mg 2 rfl) (Or.inl rfl) rfl rfl rfl rfl (Nat.le_of_ble_eq_true rfl) [(h0, .inr (1, [.ref h1, .ref h8, .ref h2, .int x0, .long y0, .long y3, .int x1, .int x2, .long y4, .long y5])), (h2, .inr (4, [.ref h7, .int x5])), (h3, .inl (gI g, 48, .inl fn0)), (h5, .inl (gI g, 6, .inl fn2)), (h6, .inl (gI g, 6, .inl fn3)), (h7, .inl (gB g, 1500, .inl fn4)), (h1, .inr (2, [.ref h3, .int 0, .int 0, .ref h4, .ref h5, .ref h6])), (h4, .inl (gI g, 6, .inl f1))] rfl ?_
  refine r_aload_n 12 0 C dX1_takeDict_12 rfl ?_
  refine r_lload_n 13 2 C dX1_takeDict_13 rfl ?_
  refine r_put 14 C dX1_takeDict_14 (k := 5) 0 rfl rfl hiX1 tyX1 tyX1_ok nmX1 (by decide) rfl (mg 3 rfl) (Or.inl rfl) rfl rfl rfl rfl (Nat.le_of_ble_eq_true rfl) [(h0, .inr (1, [.ref h1, .ref h8, .ref h2, .int x0, .long y0, .long y1, .int x1, .int x2, .long y4, .long y5])), (h2, .inr (4, [.ref h7, .int x5])), (h3, .inl (gI g, 48, .inl fn0)), (h5, .inl (gI g, 6, .inl fn2)), (h6, .inl (gI g, 6, .inl fn3)), (h7, .inl (gB g, 1500, .inl fn4)), (h1, .inr (2, [.ref h3, .int 0, .int 0, .ref h4, .ref h5, .ref h6])), (h4, .inl (gI g, 6, .inl f1))] rfl ?_
  refine r_iconst 17 0 C dX1_takeDict_17 (by decide) ?_
  refine r_istore 18 C dX1_takeDict_18 [(5, .int 0), (0, .ref h0), (1, .long y0), (3, .long y1)] (by decide) rfl ?_
  have lp13 : ∀ (n12 : Nat) (z3 : Int32) (z4 : Int32) (z5 : Int64) (f6 : Nat → Int32) (f7 : Nat → Int32) (f8 : Nat → Int32) (z9 : Int32) (z10 : Int32) (f11 : Nat → Int32), (0 ≤ (Int32.toInt z3) ∧ (Int32.toInt z3) ≤ 1501) → (0 ≤ (Int32.toInt z9) ∧ (Int32.toInt z9) ≤ 48) → (0 ≤ (Int32.toInt z10) ∧ (Int32.toInt z10) ≤ 1) → Int.toNat (1501 - (Int32.toInt z3)) < n12 → WW p l e ({ frames := 4, cells := 0, slots := 0, locals := 90 } : Room) s m args below meth c A Q g 6 0 0 [(h0, .inr (1, [.ref h1, .ref h8, .ref h2, .int z4, .long z5, .long y1, .int x1, .int x2, .long y4, .long y5])), (h2, .inr (4, [.ref h7, .int x5])), (h3, .inl (gI g, 48, .inl f6)), (h5, .inl (gI g, 6, .inl f7)), (h6, .inl (gI g, 6, .inl f8)), (h7, .inl (gB g, 1500, .inl fn4)), (h1, .inr (2, [.ref h3, .int z9, .int z10, .ref h4, .ref h5, .ref h6])), (h4, .inl (gI g, 6, .inl f11))] 20 [(5, .int z3), (0, .ref h0), (1, .long y0), (3, .long y1)] [] := by
    intro n12
    induction n12 with
    | zero => intro z3 z4 z5 f6 f7 f8 z9 z10 f11 i16 i17 i18 hm15; exact absurd hm15 (Nat.not_lt_zero _)
    | succ n12 ih14 =>
      intro z3 z4 z5 f6 f7 f8 z9 z10 f11 i16 i17 i18 hm15
      obtain ⟨i16a, i16b⟩ := i16
      obtain ⟨i17a, i17b⟩ := i17
      obtain ⟨i18a, i18b⟩ := i18
      have gz4 := fb_rng z4
      have gz5 := fb_rngL z5
      refine r_iload 20 0 C dX1_takeDict_20 rfl ?_
      refine r_sipush 22 1500 C dX1_takeDict_22 (by decide) ?_
      refine r_icmp_gt 25 57 C dX1_takeDict_25 (by decide) (fun c19 => ?_) (fun c19 => ?_)
      · skip
        have k20 : 1500 < (Int32.toInt z3) := (fa_lt 1500 z3).mp c19
        refine r_aload_n 57 1 C dX1_takeDict_57 rfl ?_
        refine r_aload_n 58 1 C dX1_takeDict_58 rfl ?_
        refine r_get 59 C dX1_takeDict_59 (k := 0) 0 rfl rfl hiX1 (by decide) rfl (mg 1 rfl) (Or.inl rfl) rfl ?_
        refine r_callVi 62 C dX1_takeDict_62 [.ref h0] [(h1, .inr (2, [.ref h3, .int z9, .int z10, .ref h4, .ref h5, .ref h6]))] [(h0, .inr (1, [.ref h1, .ref h8, .ref h2, .int z4, .long z5, .long y1, .int x1, .int x2, .long y4, .long y5])), (h2, .inr (4, [.ref h7, .int x5])), (h3, .inl (gI g, 48, .inl f6)), (h5, .inl (gI g, 6, .inl f7)), (h6, .inl (gI g, 6, .inl f8)), (h7, .inl (gB g, 1500, .inl fn4)), (h4, .inl (gI g, 6, .inl f11))] (fun sz => c62_X2_isBetween l g h1 h3 z9 z10 h4 h5 h6 ⟨i17a, i17b⟩ ⟨i18a, i18b⟩ sz) gX1_takeDict_X2_isBetween rfl ⟨rfl, rfl⟩ 0 (by decide) ⟨Nat.le_of_ble_eq_true rfl, Nat.le_of_ble_eq_true rfl⟩ 6 rfl rfl [6] [0, 1, 2, 3, 4, 5, 7] rfl rfl (by decide) (by decide) (by decide) rfl rfl (Nat.le_of_ble_eq_true rfl) ⟨Nat.le_of_ble_eq_true rfl, Nat.le_of_ble_eq_true rfl⟩ (fun r21 _ w22 => ?_)
        refine r_ws [(h0, .inr (1, [.ref h1, .ref h8, .ref h2, .int z4, .long z5, .long y1, .int x1, .int x2, .long y4, .long y5])), (h2, .inr (4, [.ref h7, .int x5])), (h3, .inl (gI g, 48, .inl f6)), (h5, .inl (gI g, 6, .inl f7)), (h6, .inl (gI g, 6, .inl f8)), (h7, .inl (gB g, 1500, .inl fn4)), (h4, .inl (gI g, 6, .inl f11)), (h1, .inr (2, [.ref h3, .int z9, .int z10, .ref h4, .ref h5, .ref h6]))] rfl ?_
        have p23 : 0 ≤ (Int32.toInt r21) := w22.1
        have p24 : (Int32.toInt r21) ≤ 1 := w22.2
        refine r_callVv 65 C dX1_takeDict_65 [] [(h0, .inr (1, [.ref h1, .ref h8, .ref h2, .int z4, .long z5, .long y1, .int x1, .int x2, .long y4, .long y5]))] [(h2, .inr (4, [.ref h7, .int x5])), (h3, .inl (gI g, 48, .inl f6)), (h5, .inl (gI g, 6, .inl f7)), (h6, .inl (gI g, 6, .inl f8)), (h7, .inl (gB g, 1500, .inl fn4)), (h4, .inl (gI g, 6, .inl f11)), (h1, .inr (2, [.ref h3, .int z9, .int z10, .ref h4, .ref h5, .ref h6]))] (fun sz => c53_X1_want l g h0 r21 h1 h8 h2 z4 z5 y1 x1 x2 y4 y5 ⟨p23, p24⟩ i_x1 sz) gX1_takeDict_X1_want rfl ⟨rfl, rfl⟩ 1 (by decide) ⟨Nat.le_of_ble_eq_true rfl, Nat.le_of_ble_eq_true rfl⟩ 0 rfl rfl [0] [1, 2, 3, 4, 5, 6, 7] rfl rfl (by decide) (by decide) (by decide) rfl rfl (Nat.le_of_ble_eq_true rfl) ⟨Nat.le_of_ble_eq_true rfl, Nat.le_of_ble_eq_true rfl⟩ (fun  z25 w26 => ?_)
        refine r_ws [(h2, .inr (4, [.ref h7, .int x5])), (h3, .inl (gI g, 48, .inl f6)), (h5, .inl (gI g, 6, .inl f7)), (h6, .inl (gI g, 6, .inl f8)), (h7, .inl (gB g, 1500, .inl fn4)), (h4, .inl (gI g, 6, .inl f11)), (h1, .inr (2, [.ref h3, .int z9, .int z10, .ref h4, .ref h5, .ref h6])), (h0, .inr (1, [.ref h1, .ref h8, .ref h2, .int z25, .long z5, .long y1, .int x1, .int x2, .long y4, .long y5]))] rfl ?_
        have gz25 := fb_rng z25
        refine r_aload_n 68 1 C dX1_takeDict_68 rfl ?_
        refine r_ldc2 69 9223372036854775807 C dX1_takeDict_69 (mg 5 rfl) ?_
        refine r_put 72 C dX1_takeDict_72 (k := 5) 7 rfl rfl hiX1 tyX1 tyX1_ok nmX1 (by decide) rfl (mg 3 rfl) (Or.inl rfl) rfl rfl rfl rfl (Nat.le_of_ble_eq_true rfl) [(h2, .inr (4, [.ref h7, .int x5])), (h3, .inl (gI g, 48, .inl f6)), (h5, .inl (gI g, 6, .inl f7)), (h6, .inl (gI g, 6, .inl f8)), (h7, .inl (gB g, 1500, .inl fn4)), (h4, .inl (gI g, 6, .inl f11)), (h1, .inr (2, [.ref h3, .int z9, .int z10, .ref h4, .ref h5, .ref h6])), (h0, .inr (1, [.ref h1, .ref h8, .ref h2, .int z25, .long z5, .long 9223372036854775807, .int x1, .int x2, .long y4, .long y5]))] rfl ?_
        exact r_vret 75 Rt dX1_takeDict_75 (z25, z5, z9, z10, f6, f11, f7, f8) (show 0 ≤ (Int32.toInt z9) ∧ (Int32.toInt z9) ≤ 48 ∧ 0 ≤ (Int32.toInt z10) ∧ (Int32.toInt z10) ≤ 1 from ⟨(show _ ∧ _ from ⟨i17a, i17b⟩).1, (show _ ∧ _ from ⟨i17a, i17b⟩).2, (show _ ∧ _ from ⟨i18a, i18b⟩).1, (show _ ∧ _ from ⟨i18a, i18b⟩).2⟩) [7, 6, 0, 1, 5, 2, 3, 4] (by decide) rfl (Nat.le_of_ble_eq_true rfl) (Nat.le_of_ble_eq_true rfl)
      · skip
        have k27 : ¬ (1500 < (Int32.toInt z3)) := fun h_9 => c19 ((fa_lt 1500 z3).mpr h_9)
        refine r_aload_n 28 1 C dX1_takeDict_28 rfl ?_
        refine r_get 29 C dX1_takeDict_29 (k := 3) 0 rfl rfl hiX1 (by decide) rfl (mg 4 rfl) (Or.inl rfl) rfl ?_
        refine r_if_ne 32 57 C dX1_takeDict_32 (by decide) (fun c28 => ?_) (fun c28 => ?_)
        · skip
          have k29 : ¬ ((Int32.toInt z4) = 0) := fun h_9 => c28 ((fa_eq z4 0).mpr h_9)
          refine r_aload_n 57 1 C dX1_takeDict_57 rfl ?_
          refine r_aload_n 58 1 C dX1_takeDict_58 rfl ?_
          refine r_get 59 C dX1_takeDict_59 (k := 0) 0 rfl rfl hiX1 (by decide) rfl (mg 1 rfl) (Or.inl rfl) rfl ?_
          refine r_callVi 62 C dX1_takeDict_62 [.ref h0] [(h1, .inr (2, [.ref h3, .int z9, .int z10, .ref h4, .ref h5, .ref h6]))] [(h0, .inr (1, [.ref h1, .ref h8, .ref h2, .int z4, .long z5, .long y1, .int x1, .int x2, .long y4, .long y5])), (h2, .inr (4, [.ref h7, .int x5])), (h3, .inl (gI g, 48, .inl f6)), (h5, .inl (gI g, 6, .inl f7)), (h6, .inl (gI g, 6, .inl f8)), (h7, .inl (gB g, 1500, .inl fn4)), (h4, .inl (gI g, 6, .inl f11))] (fun sz => c62_X2_isBetween l g h1 h3 z9 z10 h4 h5 h6 ⟨i17a, i17b⟩ ⟨i18a, i18b⟩ sz) gX1_takeDict_X2_isBetween rfl ⟨rfl, rfl⟩ 0 (by decide) ⟨Nat.le_of_ble_eq_true rfl, Nat.le_of_ble_eq_true rfl⟩ 6 rfl rfl [6] [0, 1, 2, 3, 4, 5, 7] rfl rfl (by decide) (by decide) (by decide) rfl rfl (Nat.le_of_ble_eq_true rfl) ⟨Nat.le_of_ble_eq_true rfl, Nat.le_of_ble_eq_true rfl⟩ (fun r30 _ w31 => ?_)
          refine r_ws [(h0, .inr (1, [.ref h1, .ref h8, .ref h2, .int z4, .long z5, .long y1, .int x1, .int x2, .long y4, .long y5])), (h2, .inr (4, [.ref h7, .int x5])), (h3, .inl (gI g, 48, .inl f6)), (h5, .inl (gI g, 6, .inl f7)), (h6, .inl (gI g, 6, .inl f8)), (h7, .inl (gB g, 1500, .inl fn4)), (h4, .inl (gI g, 6, .inl f11)), (h1, .inr (2, [.ref h3, .int z9, .int z10, .ref h4, .ref h5, .ref h6]))] rfl ?_
          have p32 : 0 ≤ (Int32.toInt r30) := w31.1
          have p33 : (Int32.toInt r30) ≤ 1 := w31.2
          refine r_callVv 65 C dX1_takeDict_65 [] [(h0, .inr (1, [.ref h1, .ref h8, .ref h2, .int z4, .long z5, .long y1, .int x1, .int x2, .long y4, .long y5]))] [(h2, .inr (4, [.ref h7, .int x5])), (h3, .inl (gI g, 48, .inl f6)), (h5, .inl (gI g, 6, .inl f7)), (h6, .inl (gI g, 6, .inl f8)), (h7, .inl (gB g, 1500, .inl fn4)), (h4, .inl (gI g, 6, .inl f11)), (h1, .inr (2, [.ref h3, .int z9, .int z10, .ref h4, .ref h5, .ref h6]))] (fun sz => c53_X1_want l g h0 r30 h1 h8 h2 z4 z5 y1 x1 x2 y4 y5 ⟨p32, p33⟩ i_x1 sz) gX1_takeDict_X1_want rfl ⟨rfl, rfl⟩ 1 (by decide) ⟨Nat.le_of_ble_eq_true rfl, Nat.le_of_ble_eq_true rfl⟩ 0 rfl rfl [0] [1, 2, 3, 4, 5, 6, 7] rfl rfl (by decide) (by decide) (by decide) rfl rfl (Nat.le_of_ble_eq_true rfl) ⟨Nat.le_of_ble_eq_true rfl, Nat.le_of_ble_eq_true rfl⟩ (fun  z34 w35 => ?_)
          refine r_ws [(h2, .inr (4, [.ref h7, .int x5])), (h3, .inl (gI g, 48, .inl f6)), (h5, .inl (gI g, 6, .inl f7)), (h6, .inl (gI g, 6, .inl f8)), (h7, .inl (gB g, 1500, .inl fn4)), (h4, .inl (gI g, 6, .inl f11)), (h1, .inr (2, [.ref h3, .int z9, .int z10, .ref h4, .ref h5, .ref h6])), (h0, .inr (1, [.ref h1, .ref h8, .ref h2, .int z34, .long z5, .long y1, .int x1, .int x2, .long y4, .long y5]))] rfl ?_
          have gz34 := fb_rng z34
          refine r_aload_n 68 1 C dX1_takeDict_68 rfl ?_
          refine r_ldc2 69 9223372036854775807 C dX1_takeDict_69 (mg 5 rfl) ?_
          refine r_put 72 C dX1_takeDict_72 (k := 5) 7 rfl rfl hiX1 tyX1 tyX1_ok nmX1 (by decide) rfl (mg 3 rfl) (Or.inl rfl) rfl rfl rfl rfl (Nat.le_of_ble_eq_true rfl) [(h2, .inr (4, [.ref h7, .int x5])), (h3, .inl (gI g, 48, .inl f6)), (h5, .inl (gI g, 6, .inl f7)), (h6, .inl (gI g, 6, .inl f8)), (h7, .inl (gB g, 1500, .inl fn4)), (h4, .inl (gI g, 6, .inl f11)), (h1, .inr (2, [.ref h3, .int z9, .int z10, .ref h4, .ref h5, .ref h6])), (h0, .inr (1, [.ref h1, .ref h8, .ref h2, .int z34, .long z5, .long 9223372036854775807, .int x1, .int x2, .long y4, .long y5]))] rfl ?_
          exact r_vret 75 Rt dX1_takeDict_75 (z34, z5, z9, z10, f6, f11, f7, f8) (show 0 ≤ (Int32.toInt z9) ∧ (Int32.toInt z9) ≤ 48 ∧ 0 ≤ (Int32.toInt z10) ∧ (Int32.toInt z10) ≤ 1 from ⟨(show _ ∧ _ from ⟨i17a, i17b⟩).1, (show _ ∧ _ from ⟨i17a, i17b⟩).2, (show _ ∧ _ from ⟨i18a, i18b⟩).1, (show _ ∧ _ from ⟨i18a, i18b⟩).2⟩) [7, 6, 0, 1, 5, 2, 3, 4] (by decide) rfl (Nat.le_of_ble_eq_true rfl) (Nat.le_of_ble_eq_true rfl)
        · skip
          have k36 : (Int32.toInt z4) = 0 := (fa_eq z4 0).mp c28
          refine r_aload_n 35 1 C dX1_takeDict_35 rfl ?_
          refine r_get 36 C dX1_takeDict_36 (k := 4) 0 rfl rfl hiX1 (by decide) rfl (mg 2 rfl) (Or.inl rfl) rfl ?_
          refine r_aload_n 39 1 C dX1_takeDict_39 rfl ?_
          refine r_get 40 C dX1_takeDict_40 (k := 5) 0 rfl rfl hiX1 (by decide) rfl (mg 3 rfl) (Or.inl rfl) rfl ?_
          obtain ⟨z37, ez37⟩ : ∃ z_9, lg_cmp z5 y1 = z_9 := ⟨_, rfl⟩
          have l1z37 : (Int32.toInt z37) < 0 ↔ (Int64.toInt z5) < (Int64.toInt y1) := by rw [← ez37]; exact lgI1 z5 y1
          have l2z37 : 0 < (Int32.toInt z37) ↔ (Int64.toInt y1) < (Int64.toInt z5) := by rw [← ez37]; exact lgI2 z5 y1
          refine r_lcmp 43 z37 C dX1_takeDict_43 ez37 ?_
          refine r_if_ge 44 57 C dX1_takeDict_44 (by decide) (fun c38 => ?_) (fun c38 => ?_)
          · skip
            have k39 : 0 ≤ (Int32.toInt z37) := (fa_le 0 z37).mp c38
            refine r_aload_n 57 1 C dX1_takeDict_57 rfl ?_
            refine r_aload_n 58 1 C dX1_takeDict_58 rfl ?_
            refine r_get 59 C dX1_takeDict_59 (k := 0) 0 rfl rfl hiX1 (by decide) rfl (mg 1 rfl) (Or.inl rfl) rfl ?_
            refine r_callVi 62 C dX1_takeDict_62 [.ref h0] [(h1, .inr (2, [.ref h3, .int z9, .int z10, .ref h4, .ref h5, .ref h6]))] [(h0, .inr (1, [.ref h1, .ref h8, .ref h2, .int z4, .long z5, .long y1, .int x1, .int x2, .long y4, .long y5])), (h2, .inr (4, [.ref h7, .int x5])), (h3, .inl (gI g, 48, .inl f6)), (h5, .inl (gI g, 6, .inl f7)), (h6, .inl (gI g, 6, .inl f8)), (h7, .inl (gB g, 1500, .inl fn4)), (h4, .inl (gI g, 6, .inl f11))] (fun sz => c62_X2_isBetween l g h1 h3 z9 z10 h4 h5 h6 ⟨i17a, i17b⟩ ⟨i18a, i18b⟩ sz) gX1_takeDict_X2_isBetween rfl ⟨rfl, rfl⟩ 0 (by decide) ⟨Nat.le_of_ble_eq_true rfl, Nat.le_of_ble_eq_true rfl⟩ 6 rfl rfl [6] [0, 1, 2, 3, 4, 5, 7] rfl rfl (by decide) (by decide) (by decide) rfl rfl (Nat.le_of_ble_eq_true rfl) ⟨Nat.le_of_ble_eq_true rfl, Nat.le_of_ble_eq_true rfl⟩ (fun r40 _ w41 => ?_)
            refine r_ws [(h0, .inr (1, [.ref h1, .ref h8, .ref h2, .int z4, .long z5, .long y1, .int x1, .int x2, .long y4, .long y5])), (h2, .inr (4, [.ref h7, .int x5])), (h3, .inl (gI g, 48, .inl f6)), (h5, .inl (gI g, 6, .inl f7)), (h6, .inl (gI g, 6, .inl f8)), (h7, .inl (gB g, 1500, .inl fn4)), (h4, .inl (gI g, 6, .inl f11)), (h1, .inr (2, [.ref h3, .int z9, .int z10, .ref h4, .ref h5, .ref h6]))] rfl ?_
            have p42 : 0 ≤ (Int32.toInt r40) := w41.1
            have p43 : (Int32.toInt r40) ≤ 1 := w41.2
            refine r_callVv 65 C dX1_takeDict_65 [] [(h0, .inr (1, [.ref h1, .ref h8, .ref h2, .int z4, .long z5, .long y1, .int x1, .int x2, .long y4, .long y5]))] [(h2, .inr (4, [.ref h7, .int x5])), (h3, .inl (gI g, 48, .inl f6)), (h5, .inl (gI g, 6, .inl f7)), (h6, .inl (gI g, 6, .inl f8)), (h7, .inl (gB g, 1500, .inl fn4)), (h4, .inl (gI g, 6, .inl f11)), (h1, .inr (2, [.ref h3, .int z9, .int z10, .ref h4, .ref h5, .ref h6]))] (fun sz => c53_X1_want l g h0 r40 h1 h8 h2 z4 z5 y1 x1 x2 y4 y5 ⟨p42, p43⟩ i_x1 sz) gX1_takeDict_X1_want rfl ⟨rfl, rfl⟩ 1 (by decide) ⟨Nat.le_of_ble_eq_true rfl, Nat.le_of_ble_eq_true rfl⟩ 0 rfl rfl [0] [1, 2, 3, 4, 5, 6, 7] rfl rfl (by decide) (by decide) (by decide) rfl rfl (Nat.le_of_ble_eq_true rfl) ⟨Nat.le_of_ble_eq_true rfl, Nat.le_of_ble_eq_true rfl⟩ (fun  z44 w45 => ?_)
            refine r_ws [(h2, .inr (4, [.ref h7, .int x5])), (h3, .inl (gI g, 48, .inl f6)), (h5, .inl (gI g, 6, .inl f7)), (h6, .inl (gI g, 6, .inl f8)), (h7, .inl (gB g, 1500, .inl fn4)), (h4, .inl (gI g, 6, .inl f11)), (h1, .inr (2, [.ref h3, .int z9, .int z10, .ref h4, .ref h5, .ref h6])), (h0, .inr (1, [.ref h1, .ref h8, .ref h2, .int z44, .long z5, .long y1, .int x1, .int x2, .long y4, .long y5]))] rfl ?_
            have gz44 := fb_rng z44
            refine r_aload_n 68 1 C dX1_takeDict_68 rfl ?_
            refine r_ldc2 69 9223372036854775807 C dX1_takeDict_69 (mg 5 rfl) ?_
            refine r_put 72 C dX1_takeDict_72 (k := 5) 7 rfl rfl hiX1 tyX1 tyX1_ok nmX1 (by decide) rfl (mg 3 rfl) (Or.inl rfl) rfl rfl rfl rfl (Nat.le_of_ble_eq_true rfl) [(h2, .inr (4, [.ref h7, .int x5])), (h3, .inl (gI g, 48, .inl f6)), (h5, .inl (gI g, 6, .inl f7)), (h6, .inl (gI g, 6, .inl f8)), (h7, .inl (gB g, 1500, .inl fn4)), (h4, .inl (gI g, 6, .inl f11)), (h1, .inr (2, [.ref h3, .int z9, .int z10, .ref h4, .ref h5, .ref h6])), (h0, .inr (1, [.ref h1, .ref h8, .ref h2, .int z44, .long z5, .long 9223372036854775807, .int x1, .int x2, .long y4, .long y5]))] rfl ?_
            exact r_vret 75 Rt dX1_takeDict_75 (z44, z5, z9, z10, f6, f11, f7, f8) (show 0 ≤ (Int32.toInt z9) ∧ (Int32.toInt z9) ≤ 48 ∧ 0 ≤ (Int32.toInt z10) ∧ (Int32.toInt z10) ≤ 1 from ⟨(show _ ∧ _ from ⟨i17a, i17b⟩).1, (show _ ∧ _ from ⟨i17a, i17b⟩).2, (show _ ∧ _ from ⟨i18a, i18b⟩).1, (show _ ∧ _ from ⟨i18a, i18b⟩).2⟩) [7, 6, 0, 1, 5, 2, 3, 4] (by decide) rfl (Nat.le_of_ble_eq_true rfl) (Nat.le_of_ble_eq_true rfl)
          · skip
            have k46 : ¬ (0 ≤ (Int32.toInt z37)) := fun h_9 => c38 ((fa_le 0 z37).mpr h_9)
            refine r_aload_n 47 1 C dX1_takeDict_47 rfl ?_
            refine r_callVv 48 C dX1_takeDict_48 [] [(h0, .inr (1, [.ref h1, .ref h8, .ref h2, .int z4, .long z5, .long y1, .int x1, .int x2, .long y4, .long y5])), (h1, .inr (2, [.ref h3, .int z9, .int z10, .ref h4, .ref h5, .ref h6])), (h2, .inr (4, [.ref h7, .int x5])), (h3, .inl (gI g, 48, .inl f6)), (h4, .inl (gI g, 6, .inl f11)), (h5, .inl (gI g, 6, .inl f7)), (h6, .inl (gI g, 6, .inl f8)), (h7, .inl (gB g, 1500, .inl fn4))] [] (fun sz => c72_X1_takeOperandOrOperator l g h0 h1 h2 h3 h4 h5 h6 h7 h8 z4 z5 y1 x1 x2 y4 y5 z9 z10 x5 f6 f11 f7 f8 fn4 i_x1 ⟨i17a, i17b⟩ ⟨i18a, i18b⟩ i_x5 sz) gX1_takeDict_X1_takeOperandOrOperator rfl ⟨rfl, rfl⟩ 0 (by decide) ⟨Nat.le_of_ble_eq_true rfl, Nat.le_of_ble_eq_true rfl⟩ 0 rfl rfl [0, 6, 1, 2, 7, 3, 4, 5] [] rfl rfl (by decide) (by decide) (by decide) rfl rfl (Nat.le_of_ble_eq_true rfl) ⟨Nat.le_of_ble_eq_true rfl, Nat.le_of_ble_eq_true rfl⟩ (fun  u56 w55 => ?_)
            obtain ⟨z47, z48, z49, z50, f51, f52, f53, f54⟩ := u56
            refine r_ws [(h0, .inr (1, [.ref h1, .ref h8, .ref h2, .int z47, .long z48, .long y1, .int x1, .int x2, .long y4, .long y5])), (h1, .inr (2, [.ref h3, .int z49, .int z50, .ref h4, .ref h5, .ref h6])), (h2, .inr (4, [.ref h7, .int x5])), (h3, .inl (gI g, 48, .inl f51)), (h4, .inl (gI g, 6, .inl f52)), (h5, .inl (gI g, 6, .inl f53)), (h6, .inl (gI g, 6, .inl f54)), (h7, .inl (gB g, 1500, .inl fn4))] rfl ?_
            have gz47 := fb_rng z47
            have gz48 := fb_rngL z48
            have p57 : 0 ≤ (Int32.toInt z49) := w55.1
            have p58 : (Int32.toInt z49) ≤ 48 := w55.2.1
            have p59 : 0 ≤ (Int32.toInt z50) := w55.2.2.1
            have p60 : (Int32.toInt z50) ≤ 1 := w55.2.2.2
            obtain ⟨z61, ez61⟩ : ∃ z_9, z3 + Int32.ofInt 1 = z_9 := ⟨_, rfl⟩
            have tz61 : (Int32.toInt z61) = (Int32.toInt z3) + 1 := by rw [← ez61]; exact fb_addIv (a := 0) (b := 1501) (c := 1) (d := 1) ⟨i16a, i16b⟩ ⟨by decide, by decide⟩ (by decide) (by decide)
            refine r_iinc 51 0 z61 C dX1_takeDict_51 rfl ez61 [(5, .int z61), (0, .ref h0), (1, .long y0), (3, .long y1)] (by decide) rfl ?_
            refine r_goto 54 20 C dX1_takeDict_54 (by decide) ?_
            refine r_pick [(h0, .inr (1, [.ref h1, .ref h8, .ref h2, .int z47, .long z48, .long y1, .int x1, .int x2, .long y4, .long y5])), (h2, .inr (4, [.ref h7, .int x5])), (h3, .inl (gI g, 48, .inl f51)), (h5, .inl (gI g, 6, .inl f53)), (h6, .inl (gI g, 6, .inl f54)), (h7, .inl (gB g, 1500, .inl fn4)), (h1, .inr (2, [.ref h3, .int z49, .int z50, .ref h4, .ref h5, .ref h6])), (h4, .inl (gI g, 6, .inl f52))] [0, 2, 3, 5, 6, 7, 1, 4] (by decide) rfl ?_
            exact ih14 z61 z47 z48 f51 f53 f54 z49 z50 f52 ⟨by omega, by omega⟩ ⟨p57, p58⟩ ⟨p59, p60⟩ (by omega)
  exact lp13 _ 0 x0 y0 fn0 fn2 fn3 0 0 f1 (by decide) (by decide) (by decide) (Nat.lt_succ_self _)
set_option maxHeartbeats 4000000 in
set_option maxRecDepth 100000 in
theorem c74_X2_slotOf (l : Launch) (g : GD) (sz : Nat) : Met l yX2_slotOf wsX2_slotOf ({ frames := 0, cells := 0, slots := 0, locals := 0 }) (va_Pc [.int 17] (PW g [] sz)) (va_Qi (fun (r : Int32) (_ : Unit) => r = 0) (BW g (va_A [] sz) (fun _ : Unit => [])) (va_A [] sz)) 0 0 (va_A [] sz) := by
  refine met_i RX2 (by decide) rfl rfl (Nat.le_of_ble_eq_true rfl) [(0, .int 17)] rfl ?_
  intro p e s m args below meth c A Q C hnm Rt
  refine r_iload_n 0 0 C dX2_slotOf_0 rfl ?_
  refine r_lookup 1 60 (off := 59) C dX2_slotOf_1 (by decide) (by decide) (by decide) ?_
  refine r_iconst 60 0 C dX2_slotOf_60 (by decide) ?_
  exact r_iret 61 Rt dX2_slotOf_61 () (show 0 = 0 from (by ((repeat' apply And.intro) <;> first | trivial | rfl | assumption | omega | decide | exact Or.inl rfl | exact Or.inr (Or.inl rfl) | exact Or.inr (Or.inr rfl)))) [] (by decide) rfl (Nat.le_of_ble_eq_true rfl) (Nat.le_of_ble_eq_true rfl)
set_option maxHeartbeats 4000000 in
set_option maxRecDepth 100000 in
theorem c75_X2_isTold (l : Launch) (g : GD) (h0 : Nat) (h1 : Nat) (h2 : Nat) (x0 : Int32) (x1 : Int32) (h3 : Nat) (h4 : Nat) (fn0 : Nat → Int32) (i_x0 : (0 ≤ (Int32.toInt x0) ∧ (Int32.toInt x0) ≤ 48)) (i_x1 : (0 ≤ (Int32.toInt x1) ∧ (Int32.toInt x1) ≤ 1)) (sz : Nat) : Met l yX2_isTold wsX2_isTold ({ frames := 1, cells := 0, slots := 0, locals := 20 }) (va_Pc [.ref h0, .int 17] (PW g [(h0, .inr (2, [.ref h2, .int x0, .int x1, .ref h1, .ref h3, .ref h4])), (h1, .inl (gI g, 6, .inl fn0))] sz)) (va_Qi (fun (r : Int32) (_ : Unit) => 0 ≤ (Int32.toInt r) ∧ (Int32.toInt r) ≤ 1) (BW g (va_A [(h0, .inr (2, [.ref h2, .int x0, .int x1, .ref h1, .ref h3, .ref h4])), (h1, .inl (gI g, 6, .inl fn0))] sz) (fun _ : Unit => [(h0, .inr (2, [.ref h2, .int x0, .int x1, .ref h1, .ref h3, .ref h4])), (h1, .inl (gI g, 6, .inl fn0))])) (va_A [(h0, .inr (2, [.ref h2, .int x0, .int x1, .ref h1, .ref h3, .ref h4])), (h1, .inl (gI g, 6, .inl fn0))] sz)) 0 0 (va_A [(h0, .inr (2, [.ref h2, .int x0, .int x1, .ref h1, .ref h3, .ref h4])), (h1, .inl (gI g, 6, .inl fn0))] sz) := by
  refine met_z RX2 (by decide) rfl rfl (Nat.le_of_ble_eq_true rfl) [(0, .ref h0), (1, .int 17)] rfl ?_
  intro p e s m args below meth c A Q C hnm Rt
  have hiX2 : ∀ w ∈ wsX20, w ∈ wsX2_isTold := fun w h => List.mem_cons_of_mem _ (List.mem_append_right _ (h))
  refine r_iload_n 0 1 C dX2_isTold_0 rfl ?_
  refine r_callSi 1 C dX2_isTold_1 [] [] [(h0, .inr (2, [.ref h2, .int x0, .int x1, .ref h1, .ref h3, .ref h4])), (h1, .inl (gI g, 6, .inl fn0))] (fun sz => c74_X2_slotOf l g   sz) gX2_isTold_X2_slotOf rfl ⟨rfl, rfl⟩ 1 (by decide) ⟨Nat.le_of_ble_eq_true rfl, Nat.le_of_ble_eq_true rfl⟩ [] [0, 1] rfl rfl (by decide) (by decide) (by decide) rfl rfl (Nat.le_of_ble_eq_true rfl) ⟨Nat.le_of_ble_eq_true rfl, Nat.le_of_ble_eq_true rfl⟩ (fun r1 _ w2 => ?_)
  refine r_ws [(h0, .inr (2, [.ref h2, .int x0, .int x1, .ref h1, .ref h3, .ref h4])), (h1, .inl (gI g, 6, .inl fn0))] rfl ?_
  have p3 : 0 = r1 := (w2).symm
  subst p3
  refine r_istore_n 4 C dX2_isTold_4 [(2, .int 0), (0, .ref h0), (1, .int 17)] (by decide) rfl ?_
  refine r_iload_n 5 0 C dX2_isTold_5 rfl ?_
  refine r_iconst 6 (-1) C dX2_isTold_6 (by decide) ?_
  refine r_icmp_eq_f 7 24 C dX2_isTold_7 (by decide) (by decide) ?_
  refine r_aload_n 10 1 C dX2_isTold_10 rfl ?_
  refine r_get 11 C dX2_isTold_11 (k := 3) 0 rfl rfl hiX2 (by decide) rfl (mg 1 rfl) (Or.inl rfl) rfl ?_
  refine r_iload_n 14 0 C dX2_isTold_14 rfl ?_
  obtain ⟨z4, ez4⟩ : ∃ z_9, fn0 (Int32.toNatClampNeg 0) = z_9 := ⟨_, rfl⟩
  refine r_iald 15 z4 C dX2_isTold_15 1 rfl (vin (by decide)) ez4 ?_
  have gz4 := fb_rng z4
  refine r_iconst 16 (-1) C dX2_isTold_16 (by decide) ?_
  refine r_icmp_eq 17 24 C dX2_isTold_17 (by decide) (fun c5 => ?_) (fun c5 => ?_)
  · skip
    have k6 : (Int32.toInt z4) = (-1) := (fa_eq z4 (-1)).mp c5
    refine r_iconst 24 0 C dX2_isTold_24 (by decide) ?_
    exact r_zret 25 Rt dX2_isTold_25 (by decide) () (show 0 ≤ (Int32.toInt 0) ∧ (Int32.toInt 0) ≤ 1 from ⟨(by ((repeat' apply And.intro) <;> first | trivial | rfl | assumption | omega | decide | exact Or.inl rfl | exact Or.inr (Or.inl rfl) | exact Or.inr (Or.inr rfl))), (by ((repeat' apply And.intro) <;> first | trivial | rfl | assumption | omega | decide | exact Or.inl rfl | exact Or.inr (Or.inl rfl) | exact Or.inr (Or.inr rfl)))⟩) [0, 1] (by decide) rfl (Nat.le_of_ble_eq_true rfl) (Nat.le_of_ble_eq_true rfl)
  · skip
    have k7 : ¬ ((Int32.toInt z4) = (-1)) := fun h_9 => c5 ((fa_eq z4 (-1)).mpr h_9)
    refine r_iconst 20 1 C dX2_isTold_20 (by decide) ?_
    refine r_goto 21 25 C dX2_isTold_21 (by decide) ?_
    exact r_zret 25 Rt dX2_isTold_25 (by decide) () (show 0 ≤ (Int32.toInt 1) ∧ (Int32.toInt 1) ≤ 1 from ⟨(by ((repeat' apply And.intro) <;> first | trivial | rfl | assumption | omega | decide | exact Or.inl rfl | exact Or.inr (Or.inl rfl) | exact Or.inr (Or.inr rfl))), (by ((repeat' apply And.intro) <;> first | trivial | rfl | assumption | omega | decide | exact Or.inl rfl | exact Or.inr (Or.inl rfl) | exact Or.inr (Or.inr rfl)))⟩) [0, 1] (by decide) rfl (Nat.le_of_ble_eq_true rfl) (Nat.le_of_ble_eq_true rfl)
set_option maxHeartbeats 4000000 in
set_option maxRecDepth 100000 in
theorem c76_X2_slotOf (l : Launch) (g : GD) (sz : Nat) : Met l yX2_slotOf wsX2_slotOf ({ frames := 0, cells := 0, slots := 0, locals := 0 }) (va_Pc [.int 18] (PW g [] sz)) (va_Qi (fun (r : Int32) (_ : Unit) => r = 1) (BW g (va_A [] sz) (fun _ : Unit => [])) (va_A [] sz)) 0 0 (va_A [] sz) := by
  refine met_i RX2 (by decide) rfl rfl (Nat.le_of_ble_eq_true rfl) [(0, .int 18)] rfl ?_
  intro p e s m args below meth c A Q C hnm Rt
  refine r_iload_n 0 0 C dX2_slotOf_0 rfl ?_
  refine r_lookup 1 62 (off := 61) C dX2_slotOf_1 (by decide) (by decide) (by decide) ?_
  refine r_iconst 62 1 C dX2_slotOf_62 (by decide) ?_
  exact r_iret 63 Rt dX2_slotOf_63 () (show 1 = 1 from (by ((repeat' apply And.intro) <;> first | trivial | rfl | assumption | omega | decide | exact Or.inl rfl | exact Or.inr (Or.inl rfl) | exact Or.inr (Or.inr rfl)))) [] (by decide) rfl (Nat.le_of_ble_eq_true rfl) (Nat.le_of_ble_eq_true rfl)
set_option maxHeartbeats 4000000 in
set_option maxRecDepth 100000 in
theorem c77_X2_fits (l : Launch) (g : GD) (h0 : Nat) (h1 : Nat) (x0 : Int32) (h2 : Nat) (x1 : Int32) (x2 : Int32) (h3 : Nat) (h4 : Nat) (fn0 : Nat → Int32) (i_x1 : (0 ≤ (Int32.toInt x1) ∧ (Int32.toInt x1) ≤ 48)) (i_x2 : (0 ≤ (Int32.toInt x2) ∧ (Int32.toInt x2) ≤ 1)) (sz : Nat) : Met l yX2_fits wsX2_fits ({ frames := 1, cells := 0, slots := 0, locals := 20 }) (va_Pc [.ref h0, .int 18, .int x0] (PW g [(h0, .inr (2, [.ref h2, .int x1, .int x2, .ref h1, .ref h3, .ref h4])), (h1, .inl (gI g, 6, .inl fn0))] sz)) (va_Qi (fun (r : Int32) (_ : Unit) => 0 ≤ (Int32.toInt r) ∧ (Int32.toInt r) ≤ 1) (BW g (va_A [(h0, .inr (2, [.ref h2, .int x1, .int x2, .ref h1, .ref h3, .ref h4])), (h1, .inl (gI g, 6, .inl fn0))] sz) (fun _ : Unit => [(h0, .inr (2, [.ref h2, .int x1, .int x2, .ref h1, .ref h3, .ref h4])), (h1, .inl (gI g, 6, .inl fn0))])) (va_A [(h0, .inr (2, [.ref h2, .int x1, .int x2, .ref h1, .ref h3, .ref h4])), (h1, .inl (gI g, 6, .inl fn0))] sz)) 0 0 (va_A [(h0, .inr (2, [.ref h2, .int x1, .int x2, .ref h1, .ref h3, .ref h4])), (h1, .inl (gI g, 6, .inl fn0))] sz) := by
  refine met_z RX2 (by decide) rfl rfl (Nat.le_of_ble_eq_true rfl) [(0, .ref h0), (1, .int 18), (2, .int x0)] rfl ?_
  intro p e s m args below meth c A Q C hnm Rt
  have gx0 := fb_rng x0
  have hiX2 : ∀ w ∈ wsX20, w ∈ wsX2_fits := fun w h => List.mem_cons_of_mem _ (List.mem_append_right _ (h))
  refine r_iload_n 0 1 C dX2_fits_0 rfl ?_
  refine r_callSi 1 C dX2_fits_1 [] [] [(h0, .inr (2, [.ref h2, .int x1, .int x2, .ref h1, .ref h3, .ref h4])), (h1, .inl (gI g, 6, .inl fn0))] (fun sz => c76_X2_slotOf l g   sz) gX2_fits_X2_slotOf rfl ⟨rfl, rfl⟩ 1 (by decide) ⟨Nat.le_of_ble_eq_true rfl, Nat.le_of_ble_eq_true rfl⟩ [] [0, 1] rfl rfl (by decide) (by decide) (by decide) rfl rfl (Nat.le_of_ble_eq_true rfl) ⟨Nat.le_of_ble_eq_true rfl, Nat.le_of_ble_eq_true rfl⟩ (fun r1 _ w2 => ?_)
  refine r_ws [(h0, .inr (2, [.ref h2, .int x1, .int x2, .ref h1, .ref h3, .ref h4])), (h1, .inl (gI g, 6, .inl fn0))] rfl ?_
  have p3 : 1 = r1 := (w2).symm
  subst p3
  refine r_istore_n 4 C dX2_fits_4 [(3, .int 1), (0, .ref h0), (1, .int 18), (2, .int x0)] (by decide) rfl ?_
  refine r_iload_n 5 0 C dX2_fits_5 rfl ?_
  refine r_iconst 6 (-1) C dX2_fits_6 (by decide) ?_
  refine r_icmp_eq_f 7 30 C dX2_fits_7 (by decide) (by decide) ?_
  refine r_aload_n 10 1 C dX2_fits_10 rfl ?_
  refine r_get 11 C dX2_fits_11 (k := 3) 0 rfl rfl hiX2 (by decide) rfl (mg 1 rfl) (Or.inl rfl) rfl ?_
  refine r_iload_n 14 0 C dX2_fits_14 rfl ?_
  obtain ⟨z4, ez4⟩ : ∃ z_9, fn0 (Int32.toNatClampNeg 1) = z_9 := ⟨_, rfl⟩
  refine r_iald 15 z4 C dX2_fits_15 1 rfl (vin (by decide)) ez4 ?_
  have gz4 := fb_rng z4
  refine r_iconst 16 (-1) C dX2_fits_16 (by decide) ?_
  refine r_icmp_eq 17 30 C dX2_fits_17 (by decide) (fun c5 => ?_) (fun c5 => ?_)
  · skip
    have k6 : (Int32.toInt z4) = (-1) := (fa_eq z4 (-1)).mp c5
    refine r_iconst 30 1 C dX2_fits_30 (by decide) ?_
    refine r_goto 31 35 C dX2_fits_31 (by decide) ?_
    exact r_zret 35 Rt dX2_fits_35 (by decide) () (show 0 ≤ (Int32.toInt 1) ∧ (Int32.toInt 1) ≤ 1 from ⟨(by ((repeat' apply And.intro) <;> first | trivial | rfl | assumption | omega | decide | exact Or.inl rfl | exact Or.inr (Or.inl rfl) | exact Or.inr (Or.inr rfl))), (by ((repeat' apply And.intro) <;> first | trivial | rfl | assumption | omega | decide | exact Or.inl rfl | exact Or.inr (Or.inl rfl) | exact Or.inr (Or.inr rfl)))⟩) [0, 1] (by decide) rfl (Nat.le_of_ble_eq_true rfl) (Nat.le_of_ble_eq_true rfl)
  · skip
    have k7 : ¬ ((Int32.toInt z4) = (-1)) := fun h_9 => c5 ((fa_eq z4 (-1)).mpr h_9)
    refine r_aload_n 20 1 C dX2_fits_20 rfl ?_
    refine r_get 21 C dX2_fits_21 (k := 3) 0 rfl rfl hiX2 (by decide) rfl (mg 1 rfl) (Or.inl rfl) rfl ?_
    refine r_iload_n 24 0 C dX2_fits_24 rfl ?_
    obtain ⟨z8, ez8⟩ : ∃ z_9, fn0 (Int32.toNatClampNeg 1) = z_9 := ⟨_, rfl⟩
    refine r_iald 25 z8 C dX2_fits_25 1 rfl (vin (by decide)) ez8 ?_
    have gz8 := fb_rng z8
    refine r_iload_n 26 3 C dX2_fits_26 rfl ?_
    refine r_icmp_ne 27 34 C dX2_fits_27 (by decide) (fun c9 => ?_) (fun c9 => ?_)
    · skip
      have k10 : ¬ ((Int32.toInt z8) = (Int32.toInt x0)) := fun h_9 => c9 ((fa_eq z8 x0).mpr h_9)
      refine r_iconst 34 0 C dX2_fits_34 (by decide) ?_
      exact r_zret 35 Rt dX2_fits_35 (by decide) () (show 0 ≤ (Int32.toInt 0) ∧ (Int32.toInt 0) ≤ 1 from ⟨(by ((repeat' apply And.intro) <;> first | trivial | rfl | assumption | omega | decide | exact Or.inl rfl | exact Or.inr (Or.inl rfl) | exact Or.inr (Or.inr rfl))), (by ((repeat' apply And.intro) <;> first | trivial | rfl | assumption | omega | decide | exact Or.inl rfl | exact Or.inr (Or.inl rfl) | exact Or.inr (Or.inr rfl)))⟩) [0, 1] (by decide) rfl (Nat.le_of_ble_eq_true rfl) (Nat.le_of_ble_eq_true rfl)
    · skip
      have k11 : (Int32.toInt z8) = (Int32.toInt x0) := (fa_eq z8 x0).mp c9
      refine r_iconst 30 1 C dX2_fits_30 (by decide) ?_
      refine r_goto 31 35 C dX2_fits_31 (by decide) ?_
      exact r_zret 35 Rt dX2_fits_35 (by decide) () (show 0 ≤ (Int32.toInt 1) ∧ (Int32.toInt 1) ≤ 1 from ⟨(by ((repeat' apply And.intro) <;> first | trivial | rfl | assumption | omega | decide | exact Or.inl rfl | exact Or.inr (Or.inl rfl) | exact Or.inr (Or.inr rfl))), (by ((repeat' apply And.intro) <;> first | trivial | rfl | assumption | omega | decide | exact Or.inl rfl | exact Or.inr (Or.inl rfl) | exact Or.inr (Or.inr rfl)))⟩) [0, 1] (by decide) rfl (Nat.le_of_ble_eq_true rfl) (Nat.le_of_ble_eq_true rfl)
set_option maxHeartbeats 4000000 in
set_option maxRecDepth 100000 in
theorem c78_X2_slotOf (l : Launch) (g : GD) (sz : Nat) : Met l yX2_slotOf wsX2_slotOf ({ frames := 0, cells := 0, slots := 0, locals := 0 }) (va_Pc [.int 262] (PW g [] sz)) (va_Qi (fun (r : Int32) (_ : Unit) => r = 2) (BW g (va_A [] sz) (fun _ : Unit => [])) (va_A [] sz)) 0 0 (va_A [] sz) := by
  refine met_i RX2 (by decide) rfl rfl (Nat.le_of_ble_eq_true rfl) [(0, .int 262)] rfl ?_
  intro p e s m args below meth c A Q C hnm Rt
  refine r_iload_n 0 0 C dX2_slotOf_0 rfl ?_
  refine r_lookup 1 64 (off := 63) C dX2_slotOf_1 (by decide) (by decide) (by decide) ?_
  refine r_iconst 64 2 C dX2_slotOf_64 (by decide) ?_
  exact r_iret 65 Rt dX2_slotOf_65 () (show 2 = 2 from (by ((repeat' apply And.intro) <;> first | trivial | rfl | assumption | omega | decide | exact Or.inl rfl | exact Or.inr (Or.inl rfl) | exact Or.inr (Or.inr rfl)))) [] (by decide) rfl (Nat.le_of_ble_eq_true rfl) (Nat.le_of_ble_eq_true rfl)
set_option maxHeartbeats 4000000 in
set_option maxRecDepth 100000 in
theorem c79_X2_fits (l : Launch) (g : GD) (h0 : Nat) (h1 : Nat) (x0 : Int32) (h2 : Nat) (x1 : Int32) (x2 : Int32) (h3 : Nat) (h4 : Nat) (fn0 : Nat → Int32) (i_x1 : (0 ≤ (Int32.toInt x1) ∧ (Int32.toInt x1) ≤ 48)) (i_x2 : (0 ≤ (Int32.toInt x2) ∧ (Int32.toInt x2) ≤ 1)) (sz : Nat) : Met l yX2_fits wsX2_fits ({ frames := 1, cells := 0, slots := 0, locals := 20 }) (va_Pc [.ref h0, .int 262, .int x0] (PW g [(h0, .inr (2, [.ref h2, .int x1, .int x2, .ref h1, .ref h3, .ref h4])), (h1, .inl (gI g, 6, .inl fn0))] sz)) (va_Qi (fun (r : Int32) (_ : Unit) => 0 ≤ (Int32.toInt r) ∧ (Int32.toInt r) ≤ 1) (BW g (va_A [(h0, .inr (2, [.ref h2, .int x1, .int x2, .ref h1, .ref h3, .ref h4])), (h1, .inl (gI g, 6, .inl fn0))] sz) (fun _ : Unit => [(h0, .inr (2, [.ref h2, .int x1, .int x2, .ref h1, .ref h3, .ref h4])), (h1, .inl (gI g, 6, .inl fn0))])) (va_A [(h0, .inr (2, [.ref h2, .int x1, .int x2, .ref h1, .ref h3, .ref h4])), (h1, .inl (gI g, 6, .inl fn0))] sz)) 0 0 (va_A [(h0, .inr (2, [.ref h2, .int x1, .int x2, .ref h1, .ref h3, .ref h4])), (h1, .inl (gI g, 6, .inl fn0))] sz) := by
  refine met_z RX2 (by decide) rfl rfl (Nat.le_of_ble_eq_true rfl) [(0, .ref h0), (1, .int 262), (2, .int x0)] rfl ?_
  intro p e s m args below meth c A Q C hnm Rt
  have gx0 := fb_rng x0
  have hiX2 : ∀ w ∈ wsX20, w ∈ wsX2_fits := fun w h => List.mem_cons_of_mem _ (List.mem_append_right _ (h))
  refine r_iload_n 0 1 C dX2_fits_0 rfl ?_
  refine r_callSi 1 C dX2_fits_1 [] [] [(h0, .inr (2, [.ref h2, .int x1, .int x2, .ref h1, .ref h3, .ref h4])), (h1, .inl (gI g, 6, .inl fn0))] (fun sz => c78_X2_slotOf l g   sz) gX2_fits_X2_slotOf rfl ⟨rfl, rfl⟩ 1 (by decide) ⟨Nat.le_of_ble_eq_true rfl, Nat.le_of_ble_eq_true rfl⟩ [] [0, 1] rfl rfl (by decide) (by decide) (by decide) rfl rfl (Nat.le_of_ble_eq_true rfl) ⟨Nat.le_of_ble_eq_true rfl, Nat.le_of_ble_eq_true rfl⟩ (fun r1 _ w2 => ?_)
  refine r_ws [(h0, .inr (2, [.ref h2, .int x1, .int x2, .ref h1, .ref h3, .ref h4])), (h1, .inl (gI g, 6, .inl fn0))] rfl ?_
  have p3 : 2 = r1 := (w2).symm
  subst p3
  refine r_istore_n 4 C dX2_fits_4 [(3, .int 2), (0, .ref h0), (1, .int 262), (2, .int x0)] (by decide) rfl ?_
  refine r_iload_n 5 0 C dX2_fits_5 rfl ?_
  refine r_iconst 6 (-1) C dX2_fits_6 (by decide) ?_
  refine r_icmp_eq_f 7 30 C dX2_fits_7 (by decide) (by decide) ?_
  refine r_aload_n 10 1 C dX2_fits_10 rfl ?_
  refine r_get 11 C dX2_fits_11 (k := 3) 0 rfl rfl hiX2 (by decide) rfl (mg 1 rfl) (Or.inl rfl) rfl ?_
  refine r_iload_n 14 0 C dX2_fits_14 rfl ?_
  obtain ⟨z4, ez4⟩ : ∃ z_9, fn0 (Int32.toNatClampNeg 2) = z_9 := ⟨_, rfl⟩
  refine r_iald 15 z4 C dX2_fits_15 1 rfl (vin (by decide)) ez4 ?_
  have gz4 := fb_rng z4
  refine r_iconst 16 (-1) C dX2_fits_16 (by decide) ?_
  refine r_icmp_eq 17 30 C dX2_fits_17 (by decide) (fun c5 => ?_) (fun c5 => ?_)
  · skip
    have k6 : (Int32.toInt z4) = (-1) := (fa_eq z4 (-1)).mp c5
    refine r_iconst 30 1 C dX2_fits_30 (by decide) ?_
    refine r_goto 31 35 C dX2_fits_31 (by decide) ?_
    exact r_zret 35 Rt dX2_fits_35 (by decide) () (show 0 ≤ (Int32.toInt 1) ∧ (Int32.toInt 1) ≤ 1 from ⟨(by ((repeat' apply And.intro) <;> first | trivial | rfl | assumption | omega | decide | exact Or.inl rfl | exact Or.inr (Or.inl rfl) | exact Or.inr (Or.inr rfl))), (by ((repeat' apply And.intro) <;> first | trivial | rfl | assumption | omega | decide | exact Or.inl rfl | exact Or.inr (Or.inl rfl) | exact Or.inr (Or.inr rfl)))⟩) [0, 1] (by decide) rfl (Nat.le_of_ble_eq_true rfl) (Nat.le_of_ble_eq_true rfl)
  · skip
    have k7 : ¬ ((Int32.toInt z4) = (-1)) := fun h_9 => c5 ((fa_eq z4 (-1)).mpr h_9)
    refine r_aload_n 20 1 C dX2_fits_20 rfl ?_
    refine r_get 21 C dX2_fits_21 (k := 3) 0 rfl rfl hiX2 (by decide) rfl (mg 1 rfl) (Or.inl rfl) rfl ?_
    refine r_iload_n 24 0 C dX2_fits_24 rfl ?_
    obtain ⟨z8, ez8⟩ : ∃ z_9, fn0 (Int32.toNatClampNeg 2) = z_9 := ⟨_, rfl⟩
    refine r_iald 25 z8 C dX2_fits_25 1 rfl (vin (by decide)) ez8 ?_
    have gz8 := fb_rng z8
    refine r_iload_n 26 3 C dX2_fits_26 rfl ?_
    refine r_icmp_ne 27 34 C dX2_fits_27 (by decide) (fun c9 => ?_) (fun c9 => ?_)
    · skip
      have k10 : ¬ ((Int32.toInt z8) = (Int32.toInt x0)) := fun h_9 => c9 ((fa_eq z8 x0).mpr h_9)
      refine r_iconst 34 0 C dX2_fits_34 (by decide) ?_
      exact r_zret 35 Rt dX2_fits_35 (by decide) () (show 0 ≤ (Int32.toInt 0) ∧ (Int32.toInt 0) ≤ 1 from ⟨(by ((repeat' apply And.intro) <;> first | trivial | rfl | assumption | omega | decide | exact Or.inl rfl | exact Or.inr (Or.inl rfl) | exact Or.inr (Or.inr rfl))), (by ((repeat' apply And.intro) <;> first | trivial | rfl | assumption | omega | decide | exact Or.inl rfl | exact Or.inr (Or.inl rfl) | exact Or.inr (Or.inr rfl)))⟩) [0, 1] (by decide) rfl (Nat.le_of_ble_eq_true rfl) (Nat.le_of_ble_eq_true rfl)
    · skip
      have k11 : (Int32.toInt z8) = (Int32.toInt x0) := (fa_eq z8 x0).mp c9
      refine r_iconst 30 1 C dX2_fits_30 (by decide) ?_
      refine r_goto 31 35 C dX2_fits_31 (by decide) ?_
      exact r_zret 35 Rt dX2_fits_35 (by decide) () (show 0 ≤ (Int32.toInt 1) ∧ (Int32.toInt 1) ≤ 1 from ⟨(by ((repeat' apply And.intro) <;> first | trivial | rfl | assumption | omega | decide | exact Or.inl rfl | exact Or.inr (Or.inl rfl) | exact Or.inr (Or.inr rfl))), (by ((repeat' apply And.intro) <;> first | trivial | rfl | assumption | omega | decide | exact Or.inl rfl | exact Or.inr (Or.inl rfl) | exact Or.inr (Or.inr rfl)))⟩) [0, 1] (by decide) rfl (Nat.le_of_ble_eq_true rfl) (Nat.le_of_ble_eq_true rfl)
set_option maxHeartbeats 4000000 in
set_option maxRecDepth 100000 in
theorem c80_X2_isTold (l : Launch) (g : GD) (h0 : Nat) (h1 : Nat) (h2 : Nat) (x0 : Int32) (x1 : Int32) (h3 : Nat) (h4 : Nat) (fn0 : Nat → Int32) (i_x0 : (0 ≤ (Int32.toInt x0) ∧ (Int32.toInt x0) ≤ 48)) (i_x1 : (0 ≤ (Int32.toInt x1) ∧ (Int32.toInt x1) ≤ 1)) (sz : Nat) : Met l yX2_isTold wsX2_isTold ({ frames := 1, cells := 0, slots := 0, locals := 20 }) (va_Pc [.ref h0, .int 262] (PW g [(h0, .inr (2, [.ref h2, .int x0, .int x1, .ref h1, .ref h3, .ref h4])), (h1, .inl (gI g, 6, .inl fn0))] sz)) (va_Qi (fun (r : Int32) (_ : Unit) => 0 ≤ (Int32.toInt r) ∧ (Int32.toInt r) ≤ 1) (BW g (va_A [(h0, .inr (2, [.ref h2, .int x0, .int x1, .ref h1, .ref h3, .ref h4])), (h1, .inl (gI g, 6, .inl fn0))] sz) (fun _ : Unit => [(h0, .inr (2, [.ref h2, .int x0, .int x1, .ref h1, .ref h3, .ref h4])), (h1, .inl (gI g, 6, .inl fn0))])) (va_A [(h0, .inr (2, [.ref h2, .int x0, .int x1, .ref h1, .ref h3, .ref h4])), (h1, .inl (gI g, 6, .inl fn0))] sz)) 0 0 (va_A [(h0, .inr (2, [.ref h2, .int x0, .int x1, .ref h1, .ref h3, .ref h4])), (h1, .inl (gI g, 6, .inl fn0))] sz) := by
  refine met_z RX2 (by decide) rfl rfl (Nat.le_of_ble_eq_true rfl) [(0, .ref h0), (1, .int 262)] rfl ?_
  intro p e s m args below meth c A Q C hnm Rt
  have hiX2 : ∀ w ∈ wsX20, w ∈ wsX2_isTold := fun w h => List.mem_cons_of_mem _ (List.mem_append_right _ (h))
  refine r_iload_n 0 1 C dX2_isTold_0 rfl ?_
  refine r_callSi 1 C dX2_isTold_1 [] [] [(h0, .inr (2, [.ref h2, .int x0, .int x1, .ref h1, .ref h3, .ref h4])), (h1, .inl (gI g, 6, .inl fn0))] (fun sz => c78_X2_slotOf l g   sz) gX2_isTold_X2_slotOf rfl ⟨rfl, rfl⟩ 1 (by decide) ⟨Nat.le_of_ble_eq_true rfl, Nat.le_of_ble_eq_true rfl⟩ [] [0, 1] rfl rfl (by decide) (by decide) (by decide) rfl rfl (Nat.le_of_ble_eq_true rfl) ⟨Nat.le_of_ble_eq_true rfl, Nat.le_of_ble_eq_true rfl⟩ (fun r1 _ w2 => ?_)
  refine r_ws [(h0, .inr (2, [.ref h2, .int x0, .int x1, .ref h1, .ref h3, .ref h4])), (h1, .inl (gI g, 6, .inl fn0))] rfl ?_
  have p3 : 2 = r1 := (w2).symm
  subst p3
  refine r_istore_n 4 C dX2_isTold_4 [(2, .int 2), (0, .ref h0), (1, .int 262)] (by decide) rfl ?_
  refine r_iload_n 5 0 C dX2_isTold_5 rfl ?_
  refine r_iconst 6 (-1) C dX2_isTold_6 (by decide) ?_
  refine r_icmp_eq_f 7 24 C dX2_isTold_7 (by decide) (by decide) ?_
  refine r_aload_n 10 1 C dX2_isTold_10 rfl ?_
  refine r_get 11 C dX2_isTold_11 (k := 3) 0 rfl rfl hiX2 (by decide) rfl (mg 1 rfl) (Or.inl rfl) rfl ?_
  refine r_iload_n 14 0 C dX2_isTold_14 rfl ?_
  obtain ⟨z4, ez4⟩ : ∃ z_9, fn0 (Int32.toNatClampNeg 2) = z_9 := ⟨_, rfl⟩
  refine r_iald 15 z4 C dX2_isTold_15 1 rfl (vin (by decide)) ez4 ?_
  have gz4 := fb_rng z4
  refine r_iconst 16 (-1) C dX2_isTold_16 (by decide) ?_
  refine r_icmp_eq 17 24 C dX2_isTold_17 (by decide) (fun c5 => ?_) (fun c5 => ?_)
  · skip
    have k6 : (Int32.toInt z4) = (-1) := (fa_eq z4 (-1)).mp c5
    refine r_iconst 24 0 C dX2_isTold_24 (by decide) ?_
    exact r_zret 25 Rt dX2_isTold_25 (by decide) () (show 0 ≤ (Int32.toInt 0) ∧ (Int32.toInt 0) ≤ 1 from ⟨(by ((repeat' apply And.intro) <;> first | trivial | rfl | assumption | omega | decide | exact Or.inl rfl | exact Or.inr (Or.inl rfl) | exact Or.inr (Or.inr rfl))), (by ((repeat' apply And.intro) <;> first | trivial | rfl | assumption | omega | decide | exact Or.inl rfl | exact Or.inr (Or.inl rfl) | exact Or.inr (Or.inr rfl)))⟩) [0, 1] (by decide) rfl (Nat.le_of_ble_eq_true rfl) (Nat.le_of_ble_eq_true rfl)
  · skip
    have k7 : ¬ ((Int32.toInt z4) = (-1)) := fun h_9 => c5 ((fa_eq z4 (-1)).mpr h_9)
    refine r_iconst 20 1 C dX2_isTold_20 (by decide) ?_
    refine r_goto 21 25 C dX2_isTold_21 (by decide) ?_
    exact r_zret 25 Rt dX2_isTold_25 (by decide) () (show 0 ≤ (Int32.toInt 1) ∧ (Int32.toInt 1) ≤ 1 from ⟨(by ((repeat' apply And.intro) <;> first | trivial | rfl | assumption | omega | decide | exact Or.inl rfl | exact Or.inr (Or.inl rfl) | exact Or.inr (Or.inr rfl))), (by ((repeat' apply And.intro) <;> first | trivial | rfl | assumption | omega | decide | exact Or.inl rfl | exact Or.inr (Or.inl rfl) | exact Or.inr (Or.inr rfl)))⟩) [0, 1] (by decide) rfl (Nat.le_of_ble_eq_true rfl) (Nat.le_of_ble_eq_true rfl)
set_option maxHeartbeats 4000000 in
set_option maxRecDepth 100000 in
theorem c81_X2_first (l : Launch) (g : GD) (h0 : Nat) (h1 : Nat) (h2 : Nat) (h3 : Nat) (x0 : Int32) (x1 : Int32) (h4 : Nat) (fn0 : Nat → Int32) (fn1 : Nat → Int32) (i_x0 : (0 ≤ (Int32.toInt x0) ∧ (Int32.toInt x0) ≤ 48)) (i_x1 : (0 ≤ (Int32.toInt x1) ∧ (Int32.toInt x1) ≤ 1)) (sz : Nat) : Met l yX2_first wsX2_first ({ frames := 2, cells := 0, slots := 0, locals := 42 }) (va_Pc [.ref h0, .int 262] (PW g [(h0, .inr (2, [.ref h3, .int x0, .int x1, .ref h1, .ref h2, .ref h4])), (h1, .inl (gI g, 6, .inl fn0)), (h2, .inl (gI g, 6, .inl fn1))] sz)) (va_Qi (fun (r : Int32) (_ : Unit) => True) (BW g (va_A [(h0, .inr (2, [.ref h3, .int x0, .int x1, .ref h1, .ref h2, .ref h4])), (h1, .inl (gI g, 6, .inl fn0)), (h2, .inl (gI g, 6, .inl fn1))] sz) (fun _ : Unit => [(h0, .inr (2, [.ref h3, .int x0, .int x1, .ref h1, .ref h2, .ref h4])), (h1, .inl (gI g, 6, .inl fn0)), (h2, .inl (gI g, 6, .inl fn1))])) (va_A [(h0, .inr (2, [.ref h3, .int x0, .int x1, .ref h1, .ref h2, .ref h4])), (h1, .inl (gI g, 6, .inl fn0)), (h2, .inl (gI g, 6, .inl fn1))] sz)) 0 0 (va_A [(h0, .inr (2, [.ref h3, .int x0, .int x1, .ref h1, .ref h2, .ref h4])), (h1, .inl (gI g, 6, .inl fn0)), (h2, .inl (gI g, 6, .inl fn1))] sz) := by
  refine met_i RX2 (by decide) rfl rfl (Nat.le_of_ble_eq_true rfl) [(0, .ref h0), (1, .int 262)] rfl ?_
  intro p e s m args below meth c A Q C hnm Rt
  have hiX2 : ∀ w ∈ wsX20, w ∈ wsX2_first := fun w h => List.mem_cons_of_mem _ (List.mem_append_right _ (h))
  refine r_aload_n 0 0 C dX2_first_0 rfl ?_
  refine r_iload_n 1 1 C dX2_first_1 rfl ?_
  refine r_callVi 2 C dX2_first_2 [] [(h0, .inr (2, [.ref h3, .int x0, .int x1, .ref h1, .ref h2, .ref h4])), (h1, .inl (gI g, 6, .inl fn0))] [(h2, .inl (gI g, 6, .inl fn1))] (fun sz => c80_X2_isTold l g h0 h1 h3 x0 x1 h2 h4 fn0 i_x0 i_x1 sz) gX2_first_X2_isTold rfl ⟨rfl, rfl⟩ 1 (by decide) ⟨Nat.le_of_ble_eq_true rfl, Nat.le_of_ble_eq_true rfl⟩ 0 rfl rfl [0, 1] [2] rfl rfl (by decide) (by decide) (by decide) rfl rfl (Nat.le_of_ble_eq_true rfl) ⟨Nat.le_of_ble_eq_true rfl, Nat.le_of_ble_eq_true rfl⟩ (fun r1 _ w2 => ?_)
  refine r_ws [(h2, .inl (gI g, 6, .inl fn1)), (h0, .inr (2, [.ref h3, .int x0, .int x1, .ref h1, .ref h2, .ref h4])), (h1, .inl (gI g, 6, .inl fn0))] rfl ?_
  have p3 : 0 ≤ (Int32.toInt r1) := w2.1
  have p4 : (Int32.toInt r1) ≤ 1 := w2.2
  refine r_if_eq 5 20 C dX2_first_5 (by decide) (fun c5 => ?_) (fun c5 => ?_)
  · skip
    have k6 : (Int32.toInt r1) = 0 := (fa_eq r1 0).mp c5
    refine r_iconst 20 0 C dX2_first_20 (by decide) ?_
    exact r_iret 21 Rt dX2_first_21 () trivial [1, 2, 0] (by decide) rfl (Nat.le_of_ble_eq_true rfl) (Nat.le_of_ble_eq_true rfl)
  · skip
    have k7 : ¬ ((Int32.toInt r1) = 0) := fun h_9 => c5 ((fa_eq r1 0).mpr h_9)
    refine r_aload_n 8 0 C dX2_first_8 rfl ?_
    refine r_get 9 C dX2_first_9 (k := 4) 1 rfl rfl hiX2 (by decide) rfl (mg 1 rfl) (Or.inl rfl) rfl ?_
    refine r_iload_n 12 1 C dX2_first_12 rfl ?_
    refine r_callSi 13 C dX2_first_13 [.ref h2] [] [(h2, .inl (gI g, 6, .inl fn1)), (h0, .inr (2, [.ref h3, .int x0, .int x1, .ref h1, .ref h2, .ref h4])), (h1, .inl (gI g, 6, .inl fn0))] (fun sz => c78_X2_slotOf l g   sz) gX2_first_X2_slotOf rfl ⟨rfl, rfl⟩ 1 (by decide) ⟨Nat.le_of_ble_eq_true rfl, Nat.le_of_ble_eq_true rfl⟩ [] [0, 1, 2] rfl rfl (by decide) (by decide) (by decide) rfl rfl (Nat.le_of_ble_eq_true rfl) ⟨Nat.le_of_ble_eq_true rfl, Nat.le_of_ble_eq_true rfl⟩ (fun r8 _ w9 => ?_)
    refine r_ws [(h2, .inl (gI g, 6, .inl fn1)), (h0, .inr (2, [.ref h3, .int x0, .int x1, .ref h1, .ref h2, .ref h4])), (h1, .inl (gI g, 6, .inl fn0))] rfl ?_
    have p10 : 2 = r8 := (w9).symm
    subst p10
    obtain ⟨z11, ez11⟩ : ∃ z_9, fn1 (Int32.toNatClampNeg 2) = z_9 := ⟨_, rfl⟩
    refine r_iald 16 z11 C dX2_first_16 0 rfl (vin (by decide)) ez11 ?_
    have gz11 := fb_rng z11
    refine r_goto 17 21 C dX2_first_17 (by decide) ?_
    exact r_iret 21 Rt dX2_first_21 () trivial [1, 2, 0] (by decide) rfl (Nat.le_of_ble_eq_true rfl) (Nat.le_of_ble_eq_true rfl)
set_option maxHeartbeats 4000000 in
set_option maxRecDepth 100000 in
theorem c82_X2_fits (l : Launch) (g : GD) (h0 : Nat) (h1 : Nat) (x0 : Int32) (h2 : Nat) (x1 : Int32) (x2 : Int32) (h3 : Nat) (h4 : Nat) (fn0 : Nat → Int32) (i_x1 : (0 ≤ (Int32.toInt x1) ∧ (Int32.toInt x1) ≤ 48)) (i_x2 : (0 ≤ (Int32.toInt x2) ∧ (Int32.toInt x2) ≤ 1)) (sz : Nat) : Met l yX2_fits wsX2_fits ({ frames := 1, cells := 0, slots := 0, locals := 20 }) (va_Pc [.ref h0, .int 17, .int x0] (PW g [(h0, .inr (2, [.ref h2, .int x1, .int x2, .ref h1, .ref h3, .ref h4])), (h1, .inl (gI g, 6, .inl fn0))] sz)) (va_Qi (fun (r : Int32) (_ : Unit) => 0 ≤ (Int32.toInt r) ∧ (Int32.toInt r) ≤ 1) (BW g (va_A [(h0, .inr (2, [.ref h2, .int x1, .int x2, .ref h1, .ref h3, .ref h4])), (h1, .inl (gI g, 6, .inl fn0))] sz) (fun _ : Unit => [(h0, .inr (2, [.ref h2, .int x1, .int x2, .ref h1, .ref h3, .ref h4])), (h1, .inl (gI g, 6, .inl fn0))])) (va_A [(h0, .inr (2, [.ref h2, .int x1, .int x2, .ref h1, .ref h3, .ref h4])), (h1, .inl (gI g, 6, .inl fn0))] sz)) 0 0 (va_A [(h0, .inr (2, [.ref h2, .int x1, .int x2, .ref h1, .ref h3, .ref h4])), (h1, .inl (gI g, 6, .inl fn0))] sz) := by
  refine met_z RX2 (by decide) rfl rfl (Nat.le_of_ble_eq_true rfl) [(0, .ref h0), (1, .int 17), (2, .int x0)] rfl ?_
  intro p e s m args below meth c A Q C hnm Rt
  have gx0 := fb_rng x0
  have hiX2 : ∀ w ∈ wsX20, w ∈ wsX2_fits := fun w h => List.mem_cons_of_mem _ (List.mem_append_right _ (h))
  refine r_iload_n 0 1 C dX2_fits_0 rfl ?_
  refine r_callSi 1 C dX2_fits_1 [] [] [(h0, .inr (2, [.ref h2, .int x1, .int x2, .ref h1, .ref h3, .ref h4])), (h1, .inl (gI g, 6, .inl fn0))] (fun sz => c74_X2_slotOf l g   sz) gX2_fits_X2_slotOf rfl ⟨rfl, rfl⟩ 1 (by decide) ⟨Nat.le_of_ble_eq_true rfl, Nat.le_of_ble_eq_true rfl⟩ [] [0, 1] rfl rfl (by decide) (by decide) (by decide) rfl rfl (Nat.le_of_ble_eq_true rfl) ⟨Nat.le_of_ble_eq_true rfl, Nat.le_of_ble_eq_true rfl⟩ (fun r1 _ w2 => ?_)
  refine r_ws [(h0, .inr (2, [.ref h2, .int x1, .int x2, .ref h1, .ref h3, .ref h4])), (h1, .inl (gI g, 6, .inl fn0))] rfl ?_
  have p3 : 0 = r1 := (w2).symm
  subst p3
  refine r_istore_n 4 C dX2_fits_4 [(3, .int 0), (0, .ref h0), (1, .int 17), (2, .int x0)] (by decide) rfl ?_
  refine r_iload_n 5 0 C dX2_fits_5 rfl ?_
  refine r_iconst 6 (-1) C dX2_fits_6 (by decide) ?_
  refine r_icmp_eq_f 7 30 C dX2_fits_7 (by decide) (by decide) ?_
  refine r_aload_n 10 1 C dX2_fits_10 rfl ?_
  refine r_get 11 C dX2_fits_11 (k := 3) 0 rfl rfl hiX2 (by decide) rfl (mg 1 rfl) (Or.inl rfl) rfl ?_
  refine r_iload_n 14 0 C dX2_fits_14 rfl ?_
  obtain ⟨z4, ez4⟩ : ∃ z_9, fn0 (Int32.toNatClampNeg 0) = z_9 := ⟨_, rfl⟩
  refine r_iald 15 z4 C dX2_fits_15 1 rfl (vin (by decide)) ez4 ?_
  have gz4 := fb_rng z4
  refine r_iconst 16 (-1) C dX2_fits_16 (by decide) ?_
  refine r_icmp_eq 17 30 C dX2_fits_17 (by decide) (fun c5 => ?_) (fun c5 => ?_)
  · skip
    have k6 : (Int32.toInt z4) = (-1) := (fa_eq z4 (-1)).mp c5
    refine r_iconst 30 1 C dX2_fits_30 (by decide) ?_
    refine r_goto 31 35 C dX2_fits_31 (by decide) ?_
    exact r_zret 35 Rt dX2_fits_35 (by decide) () (show 0 ≤ (Int32.toInt 1) ∧ (Int32.toInt 1) ≤ 1 from ⟨(by ((repeat' apply And.intro) <;> first | trivial | rfl | assumption | omega | decide | exact Or.inl rfl | exact Or.inr (Or.inl rfl) | exact Or.inr (Or.inr rfl))), (by ((repeat' apply And.intro) <;> first | trivial | rfl | assumption | omega | decide | exact Or.inl rfl | exact Or.inr (Or.inl rfl) | exact Or.inr (Or.inr rfl)))⟩) [0, 1] (by decide) rfl (Nat.le_of_ble_eq_true rfl) (Nat.le_of_ble_eq_true rfl)
  · skip
    have k7 : ¬ ((Int32.toInt z4) = (-1)) := fun h_9 => c5 ((fa_eq z4 (-1)).mpr h_9)
    refine r_aload_n 20 1 C dX2_fits_20 rfl ?_
    refine r_get 21 C dX2_fits_21 (k := 3) 0 rfl rfl hiX2 (by decide) rfl (mg 1 rfl) (Or.inl rfl) rfl ?_
    refine r_iload_n 24 0 C dX2_fits_24 rfl ?_
    obtain ⟨z8, ez8⟩ : ∃ z_9, fn0 (Int32.toNatClampNeg 0) = z_9 := ⟨_, rfl⟩
    refine r_iald 25 z8 C dX2_fits_25 1 rfl (vin (by decide)) ez8 ?_
    have gz8 := fb_rng z8
    refine r_iload_n 26 3 C dX2_fits_26 rfl ?_
    refine r_icmp_ne 27 34 C dX2_fits_27 (by decide) (fun c9 => ?_) (fun c9 => ?_)
    · skip
      have k10 : ¬ ((Int32.toInt z8) = (Int32.toInt x0)) := fun h_9 => c9 ((fa_eq z8 x0).mpr h_9)
      refine r_iconst 34 0 C dX2_fits_34 (by decide) ?_
      exact r_zret 35 Rt dX2_fits_35 (by decide) () (show 0 ≤ (Int32.toInt 0) ∧ (Int32.toInt 0) ≤ 1 from ⟨(by ((repeat' apply And.intro) <;> first | trivial | rfl | assumption | omega | decide | exact Or.inl rfl | exact Or.inr (Or.inl rfl) | exact Or.inr (Or.inr rfl))), (by ((repeat' apply And.intro) <;> first | trivial | rfl | assumption | omega | decide | exact Or.inl rfl | exact Or.inr (Or.inl rfl) | exact Or.inr (Or.inr rfl)))⟩) [0, 1] (by decide) rfl (Nat.le_of_ble_eq_true rfl) (Nat.le_of_ble_eq_true rfl)
    · skip
      have k11 : (Int32.toInt z8) = (Int32.toInt x0) := (fa_eq z8 x0).mp c9
      refine r_iconst 30 1 C dX2_fits_30 (by decide) ?_
      refine r_goto 31 35 C dX2_fits_31 (by decide) ?_
      exact r_zret 35 Rt dX2_fits_35 (by decide) () (show 0 ≤ (Int32.toInt 1) ∧ (Int32.toInt 1) ≤ 1 from ⟨(by ((repeat' apply And.intro) <;> first | trivial | rfl | assumption | omega | decide | exact Or.inl rfl | exact Or.inr (Or.inl rfl) | exact Or.inr (Or.inr rfl))), (by ((repeat' apply And.intro) <;> first | trivial | rfl | assumption | omega | decide | exact Or.inl rfl | exact Or.inr (Or.inl rfl) | exact Or.inr (Or.inr rfl)))⟩) [0, 1] (by decide) rfl (Nat.le_of_ble_eq_true rfl) (Nat.le_of_ble_eq_true rfl)
set_option maxHeartbeats 4000000 in
set_option maxRecDepth 100000 in
theorem c83_X1_takeTop (l : Launch) (g : GD) (h0 : Nat) (h1 : Nat) (h2 : Nat) (h3 : Nat) (h4 : Nat) (h5 : Nat) (h6 : Nat) (h7 : Nat) (y0 : Int64) (y1 : Int64) (h8 : Nat) (x0 : Int32) (y2 : Int64) (y3 : Int64) (x1 : Int32) (x2 : Int32) (y4 : Int64) (y5 : Int64) (x3 : Int32) (x4 : Int32) (x5 : Int32) (fn0 : Nat → Int32) (fn1 : Nat → Int32) (fn2 : Nat → Int32) (fn3 : Nat → Int32) (fn4 : Nat → Int32) (i_x1 : (-257 ≤ (Int32.toInt x1) ∧ (Int32.toInt x1) ≤ 65535)) (i_x3 : (0 ≤ (Int32.toInt x3) ∧ (Int32.toInt x3) ≤ 48)) (i_x4 : (0 ≤ (Int32.toInt x4) ∧ (Int32.toInt x4) ≤ 1)) (i_x5 : (0 ≤ (Int32.toInt x5) ∧ (Int32.toInt x5) ≤ 1500)) (sz : Nat) : Met l yX1_takeTop wsX1_takeTop ({ frames := 5, cells := 0, slots := 0, locals := 115 }) (va_Pc [.ref h0, .long y0, .long y1] (PW g [(h0, .inr (1, [.ref h1, .ref h8, .ref h2, .int x0, .long y2, .long y3, .int x1, .int x2, .long y4, .long y5])), (h1, .inr (2, [.ref h3, .int x3, .int x4, .ref h4, .ref h5, .ref h6])), (h2, .inr (4, [.ref h7, .int x5])), (h3, .inl (gI g, 48, .inl fn0)), (h4, .inl (gI g, 6, .inl fn1)), (h5, .inl (gI g, 6, .inl fn2)), (h6, .inl (gI g, 6, .inl fn3)), (h7, .inl (gB g, 1500, .inl fn4))] sz)) (va_Qv (fun (u : (Int32) × (Int64) × (Int32) × (Int32) × (Nat → Int32) × (Nat → Int32) × (Nat → Int32) × (Nat → Int32)) => 0 ≤ (Int32.toInt (u.2.2.1)) ∧ (Int32.toInt (u.2.2.1)) ≤ 48 ∧ 0 ≤ (Int32.toInt (u.2.2.2.1)) ∧ (Int32.toInt (u.2.2.2.1)) ≤ 1) (BW g (va_A [(h0, .inr (1, [.ref h1, .ref h8, .ref h2, .int x0, .long y2, .long y3, .int x1, .int x2, .long y4, .long y5])), (h1, .inr (2, [.ref h3, .int x3, .int x4, .ref h4, .ref h5, .ref h6])), (h2, .inr (4, [.ref h7, .int x5])), (h3, .inl (gI g, 48, .inl fn0)), (h4, .inl (gI g, 6, .inl fn1)), (h5, .inl (gI g, 6, .inl fn2)), (h6, .inl (gI g, 6, .inl fn3)), (h7, .inl (gB g, 1500, .inl fn4))] sz) (fun u : (Int32) × (Int64) × (Int32) × (Int32) × (Nat → Int32) × (Nat → Int32) × (Nat → Int32) × (Nat → Int32) => [(h0, .inr (1, [.ref h1, .ref h8, .ref h2, .int u.1, .long u.2.1, .long 9223372036854775807, .int x1, .int x2, .long y4, .long y5])), (h1, .inr (2, [.ref h3, .int u.2.2.1, .int u.2.2.2.1, .ref h4, .ref h5, .ref h6])), (h2, .inr (4, [.ref h7, .int x5])), (h3, .inl (gI g, 48, .inl u.2.2.2.2.1)), (h4, .inl (gI g, 6, .inl u.2.2.2.2.2.1)), (h5, .inl (gI g, 6, .inl u.2.2.2.2.2.2.1)), (h6, .inl (gI g, 6, .inl u.2.2.2.2.2.2.2)), (h7, .inl (gB g, 1500, .inl fn4))])) (va_A [(h0, .inr (1, [.ref h1, .ref h8, .ref h2, .int x0, .long y2, .long y3, .int x1, .int x2, .long y4, .long y5])), (h1, .inr (2, [.ref h3, .int x3, .int x4, .ref h4, .ref h5, .ref h6])), (h2, .inr (4, [.ref h7, .int x5])), (h3, .inl (gI g, 48, .inl fn0)), (h4, .inl (gI g, 6, .inl fn1)), (h5, .inl (gI g, 6, .inl fn2)), (h6, .inl (gI g, 6, .inl fn3)), (h7, .inl (gB g, 1500, .inl fn4))] sz)) 0 0 (va_A [(h0, .inr (1, [.ref h1, .ref h8, .ref h2, .int x0, .long y2, .long y3, .int x1, .int x2, .long y4, .long y5])), (h1, .inr (2, [.ref h3, .int x3, .int x4, .ref h4, .ref h5, .ref h6])), (h2, .inr (4, [.ref h7, .int x5])), (h3, .inl (gI g, 48, .inl fn0)), (h4, .inl (gI g, 6, .inl fn1)), (h5, .inl (gI g, 6, .inl fn2)), (h6, .inl (gI g, 6, .inl fn3)), (h7, .inl (gB g, 1500, .inl fn4))] sz) := by
  refine met_v RX1 (by decide) rfl rfl (Nat.le_of_ble_eq_true rfl) [(0, .ref h0), (1, .long y0), (3, .long y1)] rfl ?_
  intro p e s m args below meth c A Q C hnm Rt
  have hiX1 : ∀ w ∈ wsX10, w ∈ wsX1_takeTop := fun w h => List.mem_cons_of_mem _ (List.mem_append_left _ (List.mem_append_left _ (List.mem_append_right _ (h))))
  refine r_aload_n 0 0 C dX1_takeTop_0 rfl ?_
  refine r_lload_n 1 1 C dX1_takeTop_1 rfl ?_
  refine r_lload_n 2 2 C dX1_takeTop_2 rfl ?_
  refine r_callVv 3 C dX1_takeTop_3 [] [(h0, .inr (1, [.ref h1, .ref h8, .ref h2, .int x0, .long y2, .long y3, .int x1, .int x2, .long y4, .long y5])), (h1, .inr (2, [.ref h3, .int x3, .int x4, .ref h4, .ref h5, .ref h6])), (h2, .inr (4, [.ref h7, .int x5])), (h3, .inl (gI g, 48, .inl fn0)), (h4, .inl (gI g, 6, .inl fn1)), (h5, .inl (gI g, 6, .inl fn2)), (h6, .inl (gI g, 6, .inl fn3)), (h7, .inl (gB g, 1500, .inl fn4))] [] (fun sz => c73_X1_takeDict l g h0 h1 h2 h3 h4 h5 h6 h7 y0 y1 h8 x0 y2 y3 x1 x2 y4 y5 x3 x4 x5 fn0 fn1 fn2 fn3 fn4 i_x1 i_x3 i_x4 i_x5 sz) gX1_takeTop_X1_takeDict rfl ⟨rfl, rfl⟩ 2 (by decide) ⟨Nat.le_of_ble_eq_true rfl, Nat.le_of_ble_eq_true rfl⟩ 0 rfl rfl [0, 1, 2, 3, 4, 5, 6, 7] [] rfl rfl (by decide) (by decide) (by decide) rfl rfl (Nat.le_of_ble_eq_true rfl) ⟨Nat.le_of_ble_eq_true rfl, Nat.le_of_ble_eq_true rfl⟩ (fun  u10 w9 => ?_)
  obtain ⟨z1, z2, z3, z4, f5, f6, f7, f8⟩ := u10
  refine r_ws [(h0, .inr (1, [.ref h1, .ref h8, .ref h2, .int z1, .long z2, .long 9223372036854775807, .int x1, .int x2, .long y4, .long y5])), (h1, .inr (2, [.ref h3, .int z3, .int z4, .ref h4, .ref h5, .ref h6])), (h2, .inr (4, [.ref h7, .int x5])), (h3, .inl (gI g, 48, .inl f5)), (h4, .inl (gI g, 6, .inl f6)), (h5, .inl (gI g, 6, .inl f7)), (h6, .inl (gI g, 6, .inl f8)), (h7, .inl (gB g, 1500, .inl fn4))] rfl ?_
  have gz1 := fb_rng z1
  have gz2 := fb_rngL z2
  have p11 : 0 ≤ (Int32.toInt z3) := w9.1
  have p12 : (Int32.toInt z3) ≤ 48 := w9.2.1
  have p13 : 0 ≤ (Int32.toInt z4) := w9.2.2.1
  have p14 : (Int32.toInt z4) ≤ 1 := w9.2.2.2
  refine r_aload_n 6 0 C dX1_takeTop_6 rfl ?_
  refine r_aload_n 7 0 C dX1_takeTop_7 rfl ?_
  refine r_get 8 C dX1_takeTop_8 (k := 0) 0 rfl rfl hiX1 (by decide) rfl (mg 1 rfl) (Or.inl rfl) rfl ?_
  refine r_bipush 11 17 C dX1_takeTop_11 (by decide) ?_
  refine r_callVi 13 C dX1_takeTop_13 [.ref h0] [(h1, .inr (2, [.ref h3, .int z3, .int z4, .ref h4, .ref h5, .ref h6])), (h4, .inl (gI g, 6, .inl f6))] [(h0, .inr (1, [.ref h1, .ref h8, .ref h2, .int z1, .long z2, .long 9223372036854775807, .int x1, .int x2, .long y4, .long y5])), (h2, .inr (4, [.ref h7, .int x5])), (h3, .inl (gI g, 48, .inl f5)), (h5, .inl (gI g, 6, .inl f7)), (h6, .inl (gI g, 6, .inl f8)), (h7, .inl (gB g, 1500, .inl fn4))] (fun sz => c75_X2_isTold l g h1 h4 h3 z3 z4 h5 h6 f6 ⟨p11, p12⟩ ⟨p13, p14⟩ sz) gX1_takeTop_X2_isTold rfl ⟨rfl, rfl⟩ 1 (by decide) ⟨Nat.le_of_ble_eq_true rfl, Nat.le_of_ble_eq_true rfl⟩ 1 rfl rfl [1, 4] [0, 2, 3, 5, 6, 7] rfl rfl (by decide) (by decide) (by decide) rfl rfl (Nat.le_of_ble_eq_true rfl) ⟨Nat.le_of_ble_eq_true rfl, Nat.le_of_ble_eq_true rfl⟩ (fun r15 _ w16 => ?_)
  refine r_ws [(h0, .inr (1, [.ref h1, .ref h8, .ref h2, .int z1, .long z2, .long 9223372036854775807, .int x1, .int x2, .long y4, .long y5])), (h2, .inr (4, [.ref h7, .int x5])), (h3, .inl (gI g, 48, .inl f5)), (h5, .inl (gI g, 6, .inl f7)), (h6, .inl (gI g, 6, .inl f8)), (h7, .inl (gB g, 1500, .inl fn4)), (h1, .inr (2, [.ref h3, .int z3, .int z4, .ref h4, .ref h5, .ref h6])), (h4, .inl (gI g, 6, .inl f6))] rfl ?_
  have p17 : 0 ≤ (Int32.toInt r15) := w16.1
  have p18 : (Int32.toInt r15) ≤ 1 := w16.2
  refine r_if_eq 16 36 C dX1_takeTop_16 (by decide) (fun c19 => ?_) (fun c19 => ?_)
  · skip
    have k20 : (Int32.toInt r15) = 0 := (fa_eq r15 0).mp c19
    refine r_iconst 36 0 C dX1_takeTop_36 (by decide) ?_
    refine r_callVv 37 C dX1_takeTop_37 [] [(h0, .inr (1, [.ref h1, .ref h8, .ref h2, .int z1, .long z2, .long 9223372036854775807, .int x1, .int x2, .long y4, .long y5]))] [(h2, .inr (4, [.ref h7, .int x5])), (h3, .inl (gI g, 48, .inl f5)), (h5, .inl (gI g, 6, .inl f7)), (h6, .inl (gI g, 6, .inl f8)), (h7, .inl (gB g, 1500, .inl fn4)), (h1, .inr (2, [.ref h3, .int z3, .int z4, .ref h4, .ref h5, .ref h6])), (h4, .inl (gI g, 6, .inl f6))] (fun sz => c53_X1_want l g h0 0 h1 h8 h2 z1 z2 9223372036854775807 x1 x2 y4 y5 (by decide) i_x1 sz) gX1_takeTop_X1_want rfl ⟨rfl, rfl⟩ 1 (by decide) ⟨Nat.le_of_ble_eq_true rfl, Nat.le_of_ble_eq_true rfl⟩ 0 rfl rfl [0] [1, 2, 3, 4, 5, 6, 7] rfl rfl (by decide) (by decide) (by decide) rfl rfl (Nat.le_of_ble_eq_true rfl) ⟨Nat.le_of_ble_eq_true rfl, Nat.le_of_ble_eq_true rfl⟩ (fun  z21 w22 => ?_)
    refine r_ws [(h2, .inr (4, [.ref h7, .int x5])), (h3, .inl (gI g, 48, .inl f5)), (h5, .inl (gI g, 6, .inl f7)), (h6, .inl (gI g, 6, .inl f8)), (h7, .inl (gB g, 1500, .inl fn4)), (h1, .inr (2, [.ref h3, .int z3, .int z4, .ref h4, .ref h5, .ref h6])), (h4, .inl (gI g, 6, .inl f6)), (h0, .inr (1, [.ref h1, .ref h8, .ref h2, .int z21, .long z2, .long 9223372036854775807, .int x1, .int x2, .long y4, .long y5]))] rfl ?_
    have gz21 := fb_rng z21
    refine r_aload_n 40 0 C dX1_takeTop_40 rfl ?_
    refine r_aload_n 41 0 C dX1_takeTop_41 rfl ?_
    refine r_get 42 C dX1_takeTop_42 (k := 0) 7 rfl rfl hiX1 (by decide) rfl (mg 1 rfl) (Or.inl rfl) rfl ?_
    refine r_bipush 45 18 C dX1_takeTop_45 (by decide) ?_
    refine r_iconst 47 2 C dX1_takeTop_47 (by decide) ?_
    refine r_callVi 48 C dX1_takeTop_48 [.ref h0] [(h1, .inr (2, [.ref h3, .int z3, .int z4, .ref h4, .ref h5, .ref h6])), (h4, .inl (gI g, 6, .inl f6))] [(h2, .inr (4, [.ref h7, .int x5])), (h3, .inl (gI g, 48, .inl f5)), (h5, .inl (gI g, 6, .inl f7)), (h6, .inl (gI g, 6, .inl f8)), (h7, .inl (gB g, 1500, .inl fn4)), (h0, .inr (1, [.ref h1, .ref h8, .ref h2, .int z21, .long z2, .long 9223372036854775807, .int x1, .int x2, .long y4, .long y5]))] (fun sz => c77_X2_fits l g h1 h4 2 h3 z3 z4 h5 h6 f6 ⟨p11, p12⟩ ⟨p13, p14⟩ sz) gX1_takeTop_X2_fits rfl ⟨rfl, rfl⟩ 2 (by decide) ⟨Nat.le_of_ble_eq_true rfl, Nat.le_of_ble_eq_true rfl⟩ 5 rfl rfl [5, 6] [0, 1, 2, 3, 4, 7] rfl rfl (by decide) (by decide) (by decide) rfl rfl (Nat.le_of_ble_eq_true rfl) ⟨Nat.le_of_ble_eq_true rfl, Nat.le_of_ble_eq_true rfl⟩ (fun r23 _ w24 => ?_)
    refine r_ws [(h2, .inr (4, [.ref h7, .int x5])), (h3, .inl (gI g, 48, .inl f5)), (h5, .inl (gI g, 6, .inl f7)), (h6, .inl (gI g, 6, .inl f8)), (h7, .inl (gB g, 1500, .inl fn4)), (h0, .inr (1, [.ref h1, .ref h8, .ref h2, .int z21, .long z2, .long 9223372036854775807, .int x1, .int x2, .long y4, .long y5])), (h1, .inr (2, [.ref h3, .int z3, .int z4, .ref h4, .ref h5, .ref h6])), (h4, .inl (gI g, 6, .inl f6))] rfl ?_
    have p25 : 0 ≤ (Int32.toInt r23) := w24.1
    have p26 : (Int32.toInt r23) ≤ 1 := w24.2
    refine r_callVv 51 C dX1_takeTop_51 [] [(h0, .inr (1, [.ref h1, .ref h8, .ref h2, .int z21, .long z2, .long 9223372036854775807, .int x1, .int x2, .long y4, .long y5]))] [(h2, .inr (4, [.ref h7, .int x5])), (h3, .inl (gI g, 48, .inl f5)), (h5, .inl (gI g, 6, .inl f7)), (h6, .inl (gI g, 6, .inl f8)), (h7, .inl (gB g, 1500, .inl fn4)), (h1, .inr (2, [.ref h3, .int z3, .int z4, .ref h4, .ref h5, .ref h6])), (h4, .inl (gI g, 6, .inl f6))] (fun sz => c53_X1_want l g h0 r23 h1 h8 h2 z21 z2 9223372036854775807 x1 x2 y4 y5 ⟨p25, p26⟩ i_x1 sz) gX1_takeTop_X1_want rfl ⟨rfl, rfl⟩ 1 (by decide) ⟨Nat.le_of_ble_eq_true rfl, Nat.le_of_ble_eq_true rfl⟩ 5 rfl rfl [5] [0, 1, 2, 3, 4, 6, 7] rfl rfl (by decide) (by decide) (by decide) rfl rfl (Nat.le_of_ble_eq_true rfl) ⟨Nat.le_of_ble_eq_true rfl, Nat.le_of_ble_eq_true rfl⟩ (fun  z27 w28 => ?_)
    refine r_ws [(h2, .inr (4, [.ref h7, .int x5])), (h3, .inl (gI g, 48, .inl f5)), (h5, .inl (gI g, 6, .inl f7)), (h6, .inl (gI g, 6, .inl f8)), (h7, .inl (gB g, 1500, .inl fn4)), (h1, .inr (2, [.ref h3, .int z3, .int z4, .ref h4, .ref h5, .ref h6])), (h4, .inl (gI g, 6, .inl f6)), (h0, .inr (1, [.ref h1, .ref h8, .ref h2, .int z27, .long z2, .long 9223372036854775807, .int x1, .int x2, .long y4, .long y5]))] rfl ?_
    have gz27 := fb_rng z27
    refine r_aload_n 54 0 C dX1_takeTop_54 rfl ?_
    refine r_aload_n 55 0 C dX1_takeTop_55 rfl ?_
    refine r_get 56 C dX1_takeTop_56 (k := 0) 7 rfl rfl hiX1 (by decide) rfl (mg 1 rfl) (Or.inl rfl) rfl ?_
    refine r_sipush 59 262 C dX1_takeTop_59 (by decide) ?_
    refine r_iconst 62 1 C dX1_takeTop_62 (by decide) ?_
    refine r_callVi 63 C dX1_takeTop_63 [.ref h0] [(h1, .inr (2, [.ref h3, .int z3, .int z4, .ref h4, .ref h5, .ref h6])), (h4, .inl (gI g, 6, .inl f6))] [(h2, .inr (4, [.ref h7, .int x5])), (h3, .inl (gI g, 48, .inl f5)), (h5, .inl (gI g, 6, .inl f7)), (h6, .inl (gI g, 6, .inl f8)), (h7, .inl (gB g, 1500, .inl fn4)), (h0, .inr (1, [.ref h1, .ref h8, .ref h2, .int z27, .long z2, .long 9223372036854775807, .int x1, .int x2, .long y4, .long y5]))] (fun sz => c79_X2_fits l g h1 h4 1 h3 z3 z4 h5 h6 f6 ⟨p11, p12⟩ ⟨p13, p14⟩ sz) gX1_takeTop_X2_fits rfl ⟨rfl, rfl⟩ 2 (by decide) ⟨Nat.le_of_ble_eq_true rfl, Nat.le_of_ble_eq_true rfl⟩ 5 rfl rfl [5, 6] [0, 1, 2, 3, 4, 7] rfl rfl (by decide) (by decide) (by decide) rfl rfl (Nat.le_of_ble_eq_true rfl) ⟨Nat.le_of_ble_eq_true rfl, Nat.le_of_ble_eq_true rfl⟩ (fun r29 _ w30 => ?_)
    refine r_ws [(h2, .inr (4, [.ref h7, .int x5])), (h3, .inl (gI g, 48, .inl f5)), (h5, .inl (gI g, 6, .inl f7)), (h6, .inl (gI g, 6, .inl f8)), (h7, .inl (gB g, 1500, .inl fn4)), (h0, .inr (1, [.ref h1, .ref h8, .ref h2, .int z27, .long z2, .long 9223372036854775807, .int x1, .int x2, .long y4, .long y5])), (h1, .inr (2, [.ref h3, .int z3, .int z4, .ref h4, .ref h5, .ref h6])), (h4, .inl (gI g, 6, .inl f6))] rfl ?_
    have p31 : 0 ≤ (Int32.toInt r29) := w30.1
    have p32 : (Int32.toInt r29) ≤ 1 := w30.2
    refine r_callVv 66 C dX1_takeTop_66 [] [(h0, .inr (1, [.ref h1, .ref h8, .ref h2, .int z27, .long z2, .long 9223372036854775807, .int x1, .int x2, .long y4, .long y5]))] [(h2, .inr (4, [.ref h7, .int x5])), (h3, .inl (gI g, 48, .inl f5)), (h5, .inl (gI g, 6, .inl f7)), (h6, .inl (gI g, 6, .inl f8)), (h7, .inl (gB g, 1500, .inl fn4)), (h1, .inr (2, [.ref h3, .int z3, .int z4, .ref h4, .ref h5, .ref h6])), (h4, .inl (gI g, 6, .inl f6))] (fun sz => c53_X1_want l g h0 r29 h1 h8 h2 z27 z2 9223372036854775807 x1 x2 y4 y5 ⟨p31, p32⟩ i_x1 sz) gX1_takeTop_X1_want rfl ⟨rfl, rfl⟩ 1 (by decide) ⟨Nat.le_of_ble_eq_true rfl, Nat.le_of_ble_eq_true rfl⟩ 5 rfl rfl [5] [0, 1, 2, 3, 4, 6, 7] rfl rfl (by decide) (by decide) (by decide) rfl rfl (Nat.le_of_ble_eq_true rfl) ⟨Nat.le_of_ble_eq_true rfl, Nat.le_of_ble_eq_true rfl⟩ (fun  z33 w34 => ?_)
    refine r_ws [(h2, .inr (4, [.ref h7, .int x5])), (h3, .inl (gI g, 48, .inl f5)), (h5, .inl (gI g, 6, .inl f7)), (h6, .inl (gI g, 6, .inl f8)), (h7, .inl (gB g, 1500, .inl fn4)), (h1, .inr (2, [.ref h3, .int z3, .int z4, .ref h4, .ref h5, .ref h6])), (h4, .inl (gI g, 6, .inl f6)), (h0, .inr (1, [.ref h1, .ref h8, .ref h2, .int z33, .long z2, .long 9223372036854775807, .int x1, .int x2, .long y4, .long y5]))] rfl ?_
    have gz33 := fb_rng z33
    refine r_aload_n 69 0 C dX1_takeTop_69 rfl ?_
    refine r_aload_n 70 0 C dX1_takeTop_70 rfl ?_
    refine r_get 71 C dX1_takeTop_71 (k := 0) 7 rfl rfl hiX1 (by decide) rfl (mg 1 rfl) (Or.inl rfl) rfl ?_
    refine r_sipush 74 262 C dX1_takeTop_74 (by decide) ?_
    refine r_callVi 77 C dX1_takeTop_77 [.ref h0] [(h1, .inr (2, [.ref h3, .int z3, .int z4, .ref h4, .ref h5, .ref h6])), (h4, .inl (gI g, 6, .inl f6))] [(h2, .inr (4, [.ref h7, .int x5])), (h3, .inl (gI g, 48, .inl f5)), (h5, .inl (gI g, 6, .inl f7)), (h6, .inl (gI g, 6, .inl f8)), (h7, .inl (gB g, 1500, .inl fn4)), (h0, .inr (1, [.ref h1, .ref h8, .ref h2, .int z33, .long z2, .long 9223372036854775807, .int x1, .int x2, .long y4, .long y5]))] (fun sz => c80_X2_isTold l g h1 h4 h3 z3 z4 h5 h6 f6 ⟨p11, p12⟩ ⟨p13, p14⟩ sz) gX1_takeTop_X2_isTold rfl ⟨rfl, rfl⟩ 1 (by decide) ⟨Nat.le_of_ble_eq_true rfl, Nat.le_of_ble_eq_true rfl⟩ 5 rfl rfl [5, 6] [0, 1, 2, 3, 4, 7] rfl rfl (by decide) (by decide) (by decide) rfl rfl (Nat.le_of_ble_eq_true rfl) ⟨Nat.le_of_ble_eq_true rfl, Nat.le_of_ble_eq_true rfl⟩ (fun r35 _ w36 => ?_)
    refine r_ws [(h2, .inr (4, [.ref h7, .int x5])), (h3, .inl (gI g, 48, .inl f5)), (h5, .inl (gI g, 6, .inl f7)), (h6, .inl (gI g, 6, .inl f8)), (h7, .inl (gB g, 1500, .inl fn4)), (h0, .inr (1, [.ref h1, .ref h8, .ref h2, .int z33, .long z2, .long 9223372036854775807, .int x1, .int x2, .long y4, .long y5])), (h1, .inr (2, [.ref h3, .int z3, .int z4, .ref h4, .ref h5, .ref h6])), (h4, .inl (gI g, 6, .inl f6))] rfl ?_
    have p37 : 0 ≤ (Int32.toInt r35) := w36.1
    have p38 : (Int32.toInt r35) ≤ 1 := w36.2
    refine r_if_eq 80 97 C dX1_takeTop_80 (by decide) (fun c39 => ?_) (fun c39 => ?_)
    · skip
      have k40 : (Int32.toInt r35) = 0 := (fa_eq r35 0).mp c39
      refine r_iconst 97 1 C dX1_takeTop_97 (by decide) ?_
      refine r_goto 98 102 C dX1_takeTop_98 (by decide) ?_
      refine r_callVv 102 C dX1_takeTop_102 [] [(h0, .inr (1, [.ref h1, .ref h8, .ref h2, .int z33, .long z2, .long 9223372036854775807, .int x1, .int x2, .long y4, .long y5]))] [(h2, .inr (4, [.ref h7, .int x5])), (h3, .inl (gI g, 48, .inl f5)), (h5, .inl (gI g, 6, .inl f7)), (h6, .inl (gI g, 6, .inl f8)), (h7, .inl (gB g, 1500, .inl fn4)), (h1, .inr (2, [.ref h3, .int z3, .int z4, .ref h4, .ref h5, .ref h6])), (h4, .inl (gI g, 6, .inl f6))] (fun sz => c53_X1_want l g h0 1 h1 h8 h2 z33 z2 9223372036854775807 x1 x2 y4 y5 (by decide) i_x1 sz) gX1_takeTop_X1_want rfl ⟨rfl, rfl⟩ 1 (by decide) ⟨Nat.le_of_ble_eq_true rfl, Nat.le_of_ble_eq_true rfl⟩ 5 rfl rfl [5] [0, 1, 2, 3, 4, 6, 7] rfl rfl (by decide) (by decide) (by decide) rfl rfl (Nat.le_of_ble_eq_true rfl) ⟨Nat.le_of_ble_eq_true rfl, Nat.le_of_ble_eq_true rfl⟩ (fun  z41 w42 => ?_)
      refine r_ws [(h2, .inr (4, [.ref h7, .int x5])), (h3, .inl (gI g, 48, .inl f5)), (h5, .inl (gI g, 6, .inl f7)), (h6, .inl (gI g, 6, .inl f8)), (h7, .inl (gB g, 1500, .inl fn4)), (h1, .inr (2, [.ref h3, .int z3, .int z4, .ref h4, .ref h5, .ref h6])), (h4, .inl (gI g, 6, .inl f6)), (h0, .inr (1, [.ref h1, .ref h8, .ref h2, .int z41, .long z2, .long 9223372036854775807, .int x1, .int x2, .long y4, .long y5]))] rfl ?_
      have gz41 := fb_rng z41
      exact r_vret 105 Rt dX1_takeTop_105 (z41, z2, z3, z4, f5, f6, f7, f8) (show 0 ≤ (Int32.toInt z3) ∧ (Int32.toInt z3) ≤ 48 ∧ 0 ≤ (Int32.toInt z4) ∧ (Int32.toInt z4) ≤ 1 from ⟨(show _ ∧ _ from ⟨p11, p12⟩).1, (show _ ∧ _ from ⟨p11, p12⟩).2, (show _ ∧ _ from ⟨p13, p14⟩).1, (show _ ∧ _ from ⟨p13, p14⟩).2⟩) [7, 5, 0, 1, 6, 2, 3, 4] (by decide) rfl (Nat.le_of_ble_eq_true rfl) (Nat.le_of_ble_eq_true rfl)
    · skip
      have k43 : ¬ ((Int32.toInt r35) = 0) := fun h_9 => c39 ((fa_eq r35 0).mpr h_9)
      refine r_aload_n 83 0 C dX1_takeTop_83 rfl ?_
      refine r_get 84 C dX1_takeTop_84 (k := 0) 5 rfl rfl hiX1 (by decide) rfl (mg 1 rfl) (Or.inl rfl) rfl ?_
      refine r_sipush 87 262 C dX1_takeTop_87 (by decide) ?_
      refine r_callVi 90 C dX1_takeTop_90 [.ref h0] [(h1, .inr (2, [.ref h3, .int z3, .int z4, .ref h4, .ref h5, .ref h6])), (h4, .inl (gI g, 6, .inl f6)), (h5, .inl (gI g, 6, .inl f7))] [(h2, .inr (4, [.ref h7, .int x5])), (h3, .inl (gI g, 48, .inl f5)), (h6, .inl (gI g, 6, .inl f8)), (h7, .inl (gB g, 1500, .inl fn4)), (h0, .inr (1, [.ref h1, .ref h8, .ref h2, .int z33, .long z2, .long 9223372036854775807, .int x1, .int x2, .long y4, .long y5]))] (fun sz => c81_X2_first l g h1 h4 h5 h3 z3 z4 h6 f6 f7 ⟨p11, p12⟩ ⟨p13, p14⟩ sz) gX1_takeTop_X2_first rfl ⟨rfl, rfl⟩ 1 (by decide) ⟨Nat.le_of_ble_eq_true rfl, Nat.le_of_ble_eq_true rfl⟩ 6 rfl rfl [6, 7, 2] [0, 1, 3, 4, 5] rfl rfl (by decide) (by decide) (by decide) rfl rfl (Nat.le_of_ble_eq_true rfl) ⟨Nat.le_of_ble_eq_true rfl, Nat.le_of_ble_eq_true rfl⟩ (fun r44 _ w45 => ?_)
      refine r_ws [(h2, .inr (4, [.ref h7, .int x5])), (h3, .inl (gI g, 48, .inl f5)), (h6, .inl (gI g, 6, .inl f8)), (h7, .inl (gB g, 1500, .inl fn4)), (h0, .inr (1, [.ref h1, .ref h8, .ref h2, .int z33, .long z2, .long 9223372036854775807, .int x1, .int x2, .long y4, .long y5])), (h1, .inr (2, [.ref h3, .int z3, .int z4, .ref h4, .ref h5, .ref h6])), (h4, .inl (gI g, 6, .inl f6)), (h5, .inl (gI g, 6, .inl f7))] rfl ?_
      have gr44 := fb_rng r44
      refine r_iconst 93 2 C dX1_takeTop_93 (by decide) ?_
      refine r_icmp_ne 94 101 C dX1_takeTop_94 (by decide) (fun c46 => ?_) (fun c46 => ?_)
      · skip
        have k47 : ¬ ((Int32.toInt r44) = 2) := fun h_9 => c46 ((fa_eq r44 2).mpr h_9)
        refine r_iconst 101 0 C dX1_takeTop_101 (by decide) ?_
        refine r_callVv 102 C dX1_takeTop_102 [] [(h0, .inr (1, [.ref h1, .ref h8, .ref h2, .int z33, .long z2, .long 9223372036854775807, .int x1, .int x2, .long y4, .long y5]))] [(h2, .inr (4, [.ref h7, .int x5])), (h3, .inl (gI g, 48, .inl f5)), (h6, .inl (gI g, 6, .inl f8)), (h7, .inl (gB g, 1500, .inl fn4)), (h1, .inr (2, [.ref h3, .int z3, .int z4, .ref h4, .ref h5, .ref h6])), (h4, .inl (gI g, 6, .inl f6)), (h5, .inl (gI g, 6, .inl f7))] (fun sz => c53_X1_want l g h0 0 h1 h8 h2 z33 z2 9223372036854775807 x1 x2 y4 y5 (by decide) i_x1 sz) gX1_takeTop_X1_want rfl ⟨rfl, rfl⟩ 1 (by decide) ⟨Nat.le_of_ble_eq_true rfl, Nat.le_of_ble_eq_true rfl⟩ 4 rfl rfl [4] [0, 1, 2, 3, 5, 6, 7] rfl rfl (by decide) (by decide) (by decide) rfl rfl (Nat.le_of_ble_eq_true rfl) ⟨Nat.le_of_ble_eq_true rfl, Nat.le_of_ble_eq_true rfl⟩ (fun  z48 w49 => ?_)
        refine r_ws [(h2, .inr (4, [.ref h7, .int x5])), (h3, .inl (gI g, 48, .inl f5)), (h6, .inl (gI g, 6, .inl f8)), (h7, .inl (gB g, 1500, .inl fn4)), (h1, .inr (2, [.ref h3, .int z3, .int z4, .ref h4, .ref h5, .ref h6])), (h4, .inl (gI g, 6, .inl f6)), (h5, .inl (gI g, 6, .inl f7)), (h0, .inr (1, [.ref h1, .ref h8, .ref h2, .int z48, .long z2, .long 9223372036854775807, .int x1, .int x2, .long y4, .long y5]))] rfl ?_
        have gz48 := fb_rng z48
        exact r_vret 105 Rt dX1_takeTop_105 (z48, z2, z3, z4, f5, f6, f7, f8) (show 0 ≤ (Int32.toInt z3) ∧ (Int32.toInt z3) ≤ 48 ∧ 0 ≤ (Int32.toInt z4) ∧ (Int32.toInt z4) ≤ 1 from ⟨(show _ ∧ _ from ⟨p11, p12⟩).1, (show _ ∧ _ from ⟨p11, p12⟩).2, (show _ ∧ _ from ⟨p13, p14⟩).1, (show _ ∧ _ from ⟨p13, p14⟩).2⟩) [7, 4, 0, 1, 5, 6, 2, 3] (by decide) rfl (Nat.le_of_ble_eq_true rfl) (Nat.le_of_ble_eq_true rfl)
      · skip
        have k50 : (Int32.toInt r44) = 2 := (fa_eq r44 2).mp c46
        refine r_iconst 97 1 C dX1_takeTop_97 (by decide) ?_
        refine r_goto 98 102 C dX1_takeTop_98 (by decide) ?_
        refine r_callVv 102 C dX1_takeTop_102 [] [(h0, .inr (1, [.ref h1, .ref h8, .ref h2, .int z33, .long z2, .long 9223372036854775807, .int x1, .int x2, .long y4, .long y5]))] [(h2, .inr (4, [.ref h7, .int x5])), (h3, .inl (gI g, 48, .inl f5)), (h6, .inl (gI g, 6, .inl f8)), (h7, .inl (gB g, 1500, .inl fn4)), (h1, .inr (2, [.ref h3, .int z3, .int z4, .ref h4, .ref h5, .ref h6])), (h4, .inl (gI g, 6, .inl f6)), (h5, .inl (gI g, 6, .inl f7))] (fun sz => c53_X1_want l g h0 1 h1 h8 h2 z33 z2 9223372036854775807 x1 x2 y4 y5 (by decide) i_x1 sz) gX1_takeTop_X1_want rfl ⟨rfl, rfl⟩ 1 (by decide) ⟨Nat.le_of_ble_eq_true rfl, Nat.le_of_ble_eq_true rfl⟩ 4 rfl rfl [4] [0, 1, 2, 3, 5, 6, 7] rfl rfl (by decide) (by decide) (by decide) rfl rfl (Nat.le_of_ble_eq_true rfl) ⟨Nat.le_of_ble_eq_true rfl, Nat.le_of_ble_eq_true rfl⟩ (fun  z51 w52 => ?_)
        refine r_ws [(h2, .inr (4, [.ref h7, .int x5])), (h3, .inl (gI g, 48, .inl f5)), (h6, .inl (gI g, 6, .inl f8)), (h7, .inl (gB g, 1500, .inl fn4)), (h1, .inr (2, [.ref h3, .int z3, .int z4, .ref h4, .ref h5, .ref h6])), (h4, .inl (gI g, 6, .inl f6)), (h5, .inl (gI g, 6, .inl f7)), (h0, .inr (1, [.ref h1, .ref h8, .ref h2, .int z51, .long z2, .long 9223372036854775807, .int x1, .int x2, .long y4, .long y5]))] rfl ?_
        have gz51 := fb_rng z51
        exact r_vret 105 Rt dX1_takeTop_105 (z51, z2, z3, z4, f5, f6, f7, f8) (show 0 ≤ (Int32.toInt z3) ∧ (Int32.toInt z3) ≤ 48 ∧ 0 ≤ (Int32.toInt z4) ∧ (Int32.toInt z4) ≤ 1 from ⟨(show _ ∧ _ from ⟨p11, p12⟩).1, (show _ ∧ _ from ⟨p11, p12⟩).2, (show _ ∧ _ from ⟨p13, p14⟩).1, (show _ ∧ _ from ⟨p13, p14⟩).2⟩) [7, 4, 0, 1, 5, 6, 2, 3] (by decide) rfl (Nat.le_of_ble_eq_true rfl) (Nat.le_of_ble_eq_true rfl)
  · skip
    have k53 : ¬ ((Int32.toInt r15) = 0) := fun h_9 => c19 ((fa_eq r15 0).mpr h_9)
    refine r_aload_n 19 0 C dX1_takeTop_19 rfl ?_
    refine r_get 20 C dX1_takeTop_20 (k := 0) 0 rfl rfl hiX1 (by decide) rfl (mg 1 rfl) (Or.inl rfl) rfl ?_
    refine r_bipush 23 17 C dX1_takeTop_23 (by decide) ?_
    refine r_iconst 25 1 C dX1_takeTop_25 (by decide) ?_
    refine r_callVi 26 C dX1_takeTop_26 [.ref h0] [(h1, .inr (2, [.ref h3, .int z3, .int z4, .ref h4, .ref h5, .ref h6])), (h4, .inl (gI g, 6, .inl f6))] [(h0, .inr (1, [.ref h1, .ref h8, .ref h2, .int z1, .long z2, .long 9223372036854775807, .int x1, .int x2, .long y4, .long y5])), (h2, .inr (4, [.ref h7, .int x5])), (h3, .inl (gI g, 48, .inl f5)), (h5, .inl (gI g, 6, .inl f7)), (h6, .inl (gI g, 6, .inl f8)), (h7, .inl (gB g, 1500, .inl fn4))] (fun sz => c82_X2_fits l g h1 h4 1 h3 z3 z4 h5 h6 f6 ⟨p11, p12⟩ ⟨p13, p14⟩ sz) gX1_takeTop_X2_fits rfl ⟨rfl, rfl⟩ 2 (by decide) ⟨Nat.le_of_ble_eq_true rfl, Nat.le_of_ble_eq_true rfl⟩ 6 rfl rfl [6, 7] [0, 1, 2, 3, 4, 5] rfl rfl (by decide) (by decide) (by decide) rfl rfl (Nat.le_of_ble_eq_true rfl) ⟨Nat.le_of_ble_eq_true rfl, Nat.le_of_ble_eq_true rfl⟩ (fun r54 _ w55 => ?_)
    refine r_ws [(h0, .inr (1, [.ref h1, .ref h8, .ref h2, .int z1, .long z2, .long 9223372036854775807, .int x1, .int x2, .long y4, .long y5])), (h2, .inr (4, [.ref h7, .int x5])), (h3, .inl (gI g, 48, .inl f5)), (h5, .inl (gI g, 6, .inl f7)), (h6, .inl (gI g, 6, .inl f8)), (h7, .inl (gB g, 1500, .inl fn4)), (h1, .inr (2, [.ref h3, .int z3, .int z4, .ref h4, .ref h5, .ref h6])), (h4, .inl (gI g, 6, .inl f6))] rfl ?_
    have p56 : 0 ≤ (Int32.toInt r54) := w55.1
    have p57 : (Int32.toInt r54) ≤ 1 := w55.2
    refine r_if_eq 29 36 C dX1_takeTop_29 (by decide) (fun c58 => ?_) (fun c58 => ?_)
    · skip
      have k59 : (Int32.toInt r54) = 0 := (fa_eq r54 0).mp c58
      refine r_iconst 36 0 C dX1_takeTop_36 (by decide) ?_
      refine r_callVv 37 C dX1_takeTop_37 [] [(h0, .inr (1, [.ref h1, .ref h8, .ref h2, .int z1, .long z2, .long 9223372036854775807, .int x1, .int x2, .long y4, .long y5]))] [(h2, .inr (4, [.ref h7, .int x5])), (h3, .inl (gI g, 48, .inl f5)), (h5, .inl (gI g, 6, .inl f7)), (h6, .inl (gI g, 6, .inl f8)), (h7, .inl (gB g, 1500, .inl fn4)), (h1, .inr (2, [.ref h3, .int z3, .int z4, .ref h4, .ref h5, .ref h6])), (h4, .inl (gI g, 6, .inl f6))] (fun sz => c53_X1_want l g h0 0 h1 h8 h2 z1 z2 9223372036854775807 x1 x2 y4 y5 (by decide) i_x1 sz) gX1_takeTop_X1_want rfl ⟨rfl, rfl⟩ 1 (by decide) ⟨Nat.le_of_ble_eq_true rfl, Nat.le_of_ble_eq_true rfl⟩ 0 rfl rfl [0] [1, 2, 3, 4, 5, 6, 7] rfl rfl (by decide) (by decide) (by decide) rfl rfl (Nat.le_of_ble_eq_true rfl) ⟨Nat.le_of_ble_eq_true rfl, Nat.le_of_ble_eq_true rfl⟩ (fun  z60 w61 => ?_)
      refine r_ws [(h2, .inr (4, [.ref h7, .int x5])), (h3, .inl (gI g, 48, .inl f5)), (h5, .inl (gI g, 6, .inl f7)), (h6, .inl (gI g, 6, .inl f8)), (h7, .inl (gB g, 1500, .inl fn4)), (h1, .inr (2, [.ref h3, .int z3, .int z4, .ref h4, .ref h5, .ref h6])), (h4, .inl (gI g, 6, .inl f6)), (h0, .inr (1, [.ref h1, .ref h8, .ref h2, .int z60, .long z2, .long 9223372036854775807, .int x1, .int x2, .long y4, .long y5]))] rfl ?_
      have gz60 := fb_rng z60
      refine r_aload_n 40 0 C dX1_takeTop_40 rfl ?_
      refine r_aload_n 41 0 C dX1_takeTop_41 rfl ?_
      refine r_get 42 C dX1_takeTop_42 (k := 0) 7 rfl rfl hiX1 (by decide) rfl (mg 1 rfl) (Or.inl rfl) rfl ?_
      refine r_bipush 45 18 C dX1_takeTop_45 (by decide) ?_
      refine r_iconst 47 2 C dX1_takeTop_47 (by decide) ?_
      refine r_callVi 48 C dX1_takeTop_48 [.ref h0] [(h1, .inr (2, [.ref h3, .int z3, .int z4, .ref h4, .ref h5, .ref h6])), (h4, .inl (gI g, 6, .inl f6))] [(h2, .inr (4, [.ref h7, .int x5])), (h3, .inl (gI g, 48, .inl f5)), (h5, .inl (gI g, 6, .inl f7)), (h6, .inl (gI g, 6, .inl f8)), (h7, .inl (gB g, 1500, .inl fn4)), (h0, .inr (1, [.ref h1, .ref h8, .ref h2, .int z60, .long z2, .long 9223372036854775807, .int x1, .int x2, .long y4, .long y5]))] (fun sz => c77_X2_fits l g h1 h4 2 h3 z3 z4 h5 h6 f6 ⟨p11, p12⟩ ⟨p13, p14⟩ sz) gX1_takeTop_X2_fits rfl ⟨rfl, rfl⟩ 2 (by decide) ⟨Nat.le_of_ble_eq_true rfl, Nat.le_of_ble_eq_true rfl⟩ 5 rfl rfl [5, 6] [0, 1, 2, 3, 4, 7] rfl rfl (by decide) (by decide) (by decide) rfl rfl (Nat.le_of_ble_eq_true rfl) ⟨Nat.le_of_ble_eq_true rfl, Nat.le_of_ble_eq_true rfl⟩ (fun r62 _ w63 => ?_)
      refine r_ws [(h2, .inr (4, [.ref h7, .int x5])), (h3, .inl (gI g, 48, .inl f5)), (h5, .inl (gI g, 6, .inl f7)), (h6, .inl (gI g, 6, .inl f8)), (h7, .inl (gB g, 1500, .inl fn4)), (h0, .inr (1, [.ref h1, .ref h8, .ref h2, .int z60, .long z2, .long 9223372036854775807, .int x1, .int x2, .long y4, .long y5])), (h1, .inr (2, [.ref h3, .int z3, .int z4, .ref h4, .ref h5, .ref h6])), (h4, .inl (gI g, 6, .inl f6))] rfl ?_
      have p64 : 0 ≤ (Int32.toInt r62) := w63.1
      have p65 : (Int32.toInt r62) ≤ 1 := w63.2
      refine r_callVv 51 C dX1_takeTop_51 [] [(h0, .inr (1, [.ref h1, .ref h8, .ref h2, .int z60, .long z2, .long 9223372036854775807, .int x1, .int x2, .long y4, .long y5]))] [(h2, .inr (4, [.ref h7, .int x5])), (h3, .inl (gI g, 48, .inl f5)), (h5, .inl (gI g, 6, .inl f7)), (h6, .inl (gI g, 6, .inl f8)), (h7, .inl (gB g, 1500, .inl fn4)), (h1, .inr (2, [.ref h3, .int z3, .int z4, .ref h4, .ref h5, .ref h6])), (h4, .inl (gI g, 6, .inl f6))] (fun sz => c53_X1_want l g h0 r62 h1 h8 h2 z60 z2 9223372036854775807 x1 x2 y4 y5 ⟨p64, p65⟩ i_x1 sz) gX1_takeTop_X1_want rfl ⟨rfl, rfl⟩ 1 (by decide) ⟨Nat.le_of_ble_eq_true rfl, Nat.le_of_ble_eq_true rfl⟩ 5 rfl rfl [5] [0, 1, 2, 3, 4, 6, 7] rfl rfl (by decide) (by decide) (by decide) rfl rfl (Nat.le_of_ble_eq_true rfl) ⟨Nat.le_of_ble_eq_true rfl, Nat.le_of_ble_eq_true rfl⟩ (fun  z66 w67 => ?_)
      refine r_ws [(h2, .inr (4, [.ref h7, .int x5])), (h3, .inl (gI g, 48, .inl f5)), (h5, .inl (gI g, 6, .inl f7)), (h6, .inl (gI g, 6, .inl f8)), (h7, .inl (gB g, 1500, .inl fn4)), (h1, .inr (2, [.ref h3, .int z3, .int z4, .ref h4, .ref h5, .ref h6])), (h4, .inl (gI g, 6, .inl f6)), (h0, .inr (1, [.ref h1, .ref h8, .ref h2, .int z66, .long z2, .long 9223372036854775807, .int x1, .int x2, .long y4, .long y5]))] rfl ?_
      have gz66 := fb_rng z66
      refine r_aload_n 54 0 C dX1_takeTop_54 rfl ?_
      refine r_aload_n 55 0 C dX1_takeTop_55 rfl ?_
      refine r_get 56 C dX1_takeTop_56 (k := 0) 7 rfl rfl hiX1 (by decide) rfl (mg 1 rfl) (Or.inl rfl) rfl ?_
      refine r_sipush 59 262 C dX1_takeTop_59 (by decide) ?_
      refine r_iconst 62 1 C dX1_takeTop_62 (by decide) ?_
      refine r_callVi 63 C dX1_takeTop_63 [.ref h0] [(h1, .inr (2, [.ref h3, .int z3, .int z4, .ref h4, .ref h5, .ref h6])), (h4, .inl (gI g, 6, .inl f6))] [(h2, .inr (4, [.ref h7, .int x5])), (h3, .inl (gI g, 48, .inl f5)), (h5, .inl (gI g, 6, .inl f7)), (h6, .inl (gI g, 6, .inl f8)), (h7, .inl (gB g, 1500, .inl fn4)), (h0, .inr (1, [.ref h1, .ref h8, .ref h2, .int z66, .long z2, .long 9223372036854775807, .int x1, .int x2, .long y4, .long y5]))] (fun sz => c79_X2_fits l g h1 h4 1 h3 z3 z4 h5 h6 f6 ⟨p11, p12⟩ ⟨p13, p14⟩ sz) gX1_takeTop_X2_fits rfl ⟨rfl, rfl⟩ 2 (by decide) ⟨Nat.le_of_ble_eq_true rfl, Nat.le_of_ble_eq_true rfl⟩ 5 rfl rfl [5, 6] [0, 1, 2, 3, 4, 7] rfl rfl (by decide) (by decide) (by decide) rfl rfl (Nat.le_of_ble_eq_true rfl) ⟨Nat.le_of_ble_eq_true rfl, Nat.le_of_ble_eq_true rfl⟩ (fun r68 _ w69 => ?_)
      refine r_ws [(h2, .inr (4, [.ref h7, .int x5])), (h3, .inl (gI g, 48, .inl f5)), (h5, .inl (gI g, 6, .inl f7)), (h6, .inl (gI g, 6, .inl f8)), (h7, .inl (gB g, 1500, .inl fn4)), (h0, .inr (1, [.ref h1, .ref h8, .ref h2, .int z66, .long z2, .long 9223372036854775807, .int x1, .int x2, .long y4, .long y5])), (h1, .inr (2, [.ref h3, .int z3, .int z4, .ref h4, .ref h5, .ref h6])), (h4, .inl (gI g, 6, .inl f6))] rfl ?_
      have p70 : 0 ≤ (Int32.toInt r68) := w69.1
      have p71 : (Int32.toInt r68) ≤ 1 := w69.2
      refine r_callVv 66 C dX1_takeTop_66 [] [(h0, .inr (1, [.ref h1, .ref h8, .ref h2, .int z66, .long z2, .long 9223372036854775807, .int x1, .int x2, .long y4, .long y5]))] [(h2, .inr (4, [.ref h7, .int x5])), (h3, .inl (gI g, 48, .inl f5)), (h5, .inl (gI g, 6, .inl f7)), (h6, .inl (gI g, 6, .inl f8)), (h7, .inl (gB g, 1500, .inl fn4)), (h1, .inr (2, [.ref h3, .int z3, .int z4, .ref h4, .ref h5, .ref h6])), (h4, .inl (gI g, 6, .inl f6))] (fun sz => c53_X1_want l g h0 r68 h1 h8 h2 z66 z2 9223372036854775807 x1 x2 y4 y5 ⟨p70, p71⟩ i_x1 sz) gX1_takeTop_X1_want rfl ⟨rfl, rfl⟩ 1 (by decide) ⟨Nat.le_of_ble_eq_true rfl, Nat.le_of_ble_eq_true rfl⟩ 5 rfl rfl [5] [0, 1, 2, 3, 4, 6, 7] rfl rfl (by decide) (by decide) (by decide) rfl rfl (Nat.le_of_ble_eq_true rfl) ⟨Nat.le_of_ble_eq_true rfl, Nat.le_of_ble_eq_true rfl⟩ (fun  z72 w73 => ?_)
      refine r_ws [(h2, .inr (4, [.ref h7, .int x5])), (h3, .inl (gI g, 48, .inl f5)), (h5, .inl (gI g, 6, .inl f7)), (h6, .inl (gI g, 6, .inl f8)), (h7, .inl (gB g, 1500, .inl fn4)), (h1, .inr (2, [.ref h3, .int z3, .int z4, .ref h4, .ref h5, .ref h6])), (h4, .inl (gI g, 6, .inl f6)), (h0, .inr (1, [.ref h1, .ref h8, .ref h2, .int z72, .long z2, .long 9223372036854775807, .int x1, .int x2, .long y4, .long y5]))] rfl ?_
      have gz72 := fb_rng z72
      refine r_aload_n 69 0 C dX1_takeTop_69 rfl ?_
      refine r_aload_n 70 0 C dX1_takeTop_70 rfl ?_
      refine r_get 71 C dX1_takeTop_71 (k := 0) 7 rfl rfl hiX1 (by decide) rfl (mg 1 rfl) (Or.inl rfl) rfl ?_
      refine r_sipush 74 262 C dX1_takeTop_74 (by decide) ?_
      refine r_callVi 77 C dX1_takeTop_77 [.ref h0] [(h1, .inr (2, [.ref h3, .int z3, .int z4, .ref h4, .ref h5, .ref h6])), (h4, .inl (gI g, 6, .inl f6))] [(h2, .inr (4, [.ref h7, .int x5])), (h3, .inl (gI g, 48, .inl f5)), (h5, .inl (gI g, 6, .inl f7)), (h6, .inl (gI g, 6, .inl f8)), (h7, .inl (gB g, 1500, .inl fn4)), (h0, .inr (1, [.ref h1, .ref h8, .ref h2, .int z72, .long z2, .long 9223372036854775807, .int x1, .int x2, .long y4, .long y5]))] (fun sz => c80_X2_isTold l g h1 h4 h3 z3 z4 h5 h6 f6 ⟨p11, p12⟩ ⟨p13, p14⟩ sz) gX1_takeTop_X2_isTold rfl ⟨rfl, rfl⟩ 1 (by decide) ⟨Nat.le_of_ble_eq_true rfl, Nat.le_of_ble_eq_true rfl⟩ 5 rfl rfl [5, 6] [0, 1, 2, 3, 4, 7] rfl rfl (by decide) (by decide) (by decide) rfl rfl (Nat.le_of_ble_eq_true rfl) ⟨Nat.le_of_ble_eq_true rfl, Nat.le_of_ble_eq_true rfl⟩ (fun r74 _ w75 => ?_)
      refine r_ws [(h2, .inr (4, [.ref h7, .int x5])), (h3, .inl (gI g, 48, .inl f5)), (h5, .inl (gI g, 6, .inl f7)), (h6, .inl (gI g, 6, .inl f8)), (h7, .inl (gB g, 1500, .inl fn4)), (h0, .inr (1, [.ref h1, .ref h8, .ref h2, .int z72, .long z2, .long 9223372036854775807, .int x1, .int x2, .long y4, .long y5])), (h1, .inr (2, [.ref h3, .int z3, .int z4, .ref h4, .ref h5, .ref h6])), (h4, .inl (gI g, 6, .inl f6))] rfl ?_
      have p76 : 0 ≤ (Int32.toInt r74) := w75.1
      have p77 : (Int32.toInt r74) ≤ 1 := w75.2
      refine r_if_eq 80 97 C dX1_takeTop_80 (by decide) (fun c78 => ?_) (fun c78 => ?_)
      · skip
        have k79 : (Int32.toInt r74) = 0 := (fa_eq r74 0).mp c78
        refine r_iconst 97 1 C dX1_takeTop_97 (by decide) ?_
        refine r_goto 98 102 C dX1_takeTop_98 (by decide) ?_
        refine r_callVv 102 C dX1_takeTop_102 [] [(h0, .inr (1, [.ref h1, .ref h8, .ref h2, .int z72, .long z2, .long 9223372036854775807, .int x1, .int x2, .long y4, .long y5]))] [(h2, .inr (4, [.ref h7, .int x5])), (h3, .inl (gI g, 48, .inl f5)), (h5, .inl (gI g, 6, .inl f7)), (h6, .inl (gI g, 6, .inl f8)), (h7, .inl (gB g, 1500, .inl fn4)), (h1, .inr (2, [.ref h3, .int z3, .int z4, .ref h4, .ref h5, .ref h6])), (h4, .inl (gI g, 6, .inl f6))] (fun sz => c53_X1_want l g h0 1 h1 h8 h2 z72 z2 9223372036854775807 x1 x2 y4 y5 (by decide) i_x1 sz) gX1_takeTop_X1_want rfl ⟨rfl, rfl⟩ 1 (by decide) ⟨Nat.le_of_ble_eq_true rfl, Nat.le_of_ble_eq_true rfl⟩ 5 rfl rfl [5] [0, 1, 2, 3, 4, 6, 7] rfl rfl (by decide) (by decide) (by decide) rfl rfl (Nat.le_of_ble_eq_true rfl) ⟨Nat.le_of_ble_eq_true rfl, Nat.le_of_ble_eq_true rfl⟩ (fun  z80 w81 => ?_)
        refine r_ws [(h2, .inr (4, [.ref h7, .int x5])), (h3, .inl (gI g, 48, .inl f5)), (h5, .inl (gI g, 6, .inl f7)), (h6, .inl (gI g, 6, .inl f8)), (h7, .inl (gB g, 1500, .inl fn4)), (h1, .inr (2, [.ref h3, .int z3, .int z4, .ref h4, .ref h5, .ref h6])), (h4, .inl (gI g, 6, .inl f6)), (h0, .inr (1, [.ref h1, .ref h8, .ref h2, .int z80, .long z2, .long 9223372036854775807, .int x1, .int x2, .long y4, .long y5]))] rfl ?_
        have gz80 := fb_rng z80
        exact r_vret 105 Rt dX1_takeTop_105 (z80, z2, z3, z4, f5, f6, f7, f8) (show 0 ≤ (Int32.toInt z3) ∧ (Int32.toInt z3) ≤ 48 ∧ 0 ≤ (Int32.toInt z4) ∧ (Int32.toInt z4) ≤ 1 from ⟨(show _ ∧ _ from ⟨p11, p12⟩).1, (show _ ∧ _ from ⟨p11, p12⟩).2, (show _ ∧ _ from ⟨p13, p14⟩).1, (show _ ∧ _ from ⟨p13, p14⟩).2⟩) [7, 5, 0, 1, 6, 2, 3, 4] (by decide) rfl (Nat.le_of_ble_eq_true rfl) (Nat.le_of_ble_eq_true rfl)
      · skip
        have k82 : ¬ ((Int32.toInt r74) = 0) := fun h_9 => c78 ((fa_eq r74 0).mpr h_9)
        refine r_aload_n 83 0 C dX1_takeTop_83 rfl ?_
        refine r_get 84 C dX1_takeTop_84 (k := 0) 5 rfl rfl hiX1 (by decide) rfl (mg 1 rfl) (Or.inl rfl) rfl ?_
        refine r_sipush 87 262 C dX1_takeTop_87 (by decide) ?_
        refine r_callVi 90 C dX1_takeTop_90 [.ref h0] [(h1, .inr (2, [.ref h3, .int z3, .int z4, .ref h4, .ref h5, .ref h6])), (h4, .inl (gI g, 6, .inl f6)), (h5, .inl (gI g, 6, .inl f7))] [(h2, .inr (4, [.ref h7, .int x5])), (h3, .inl (gI g, 48, .inl f5)), (h6, .inl (gI g, 6, .inl f8)), (h7, .inl (gB g, 1500, .inl fn4)), (h0, .inr (1, [.ref h1, .ref h8, .ref h2, .int z72, .long z2, .long 9223372036854775807, .int x1, .int x2, .long y4, .long y5]))] (fun sz => c81_X2_first l g h1 h4 h5 h3 z3 z4 h6 f6 f7 ⟨p11, p12⟩ ⟨p13, p14⟩ sz) gX1_takeTop_X2_first rfl ⟨rfl, rfl⟩ 1 (by decide) ⟨Nat.le_of_ble_eq_true rfl, Nat.le_of_ble_eq_true rfl⟩ 6 rfl rfl [6, 7, 2] [0, 1, 3, 4, 5] rfl rfl (by decide) (by decide) (by decide) rfl rfl (Nat.le_of_ble_eq_true rfl) ⟨Nat.le_of_ble_eq_true rfl, Nat.le_of_ble_eq_true rfl⟩ (fun r83 _ w84 => ?_)
        refine r_ws [(h2, .inr (4, [.ref h7, .int x5])), (h3, .inl (gI g, 48, .inl f5)), (h6, .inl (gI g, 6, .inl f8)), (h7, .inl (gB g, 1500, .inl fn4)), (h0, .inr (1, [.ref h1, .ref h8, .ref h2, .int z72, .long z2, .long 9223372036854775807, .int x1, .int x2, .long y4, .long y5])), (h1, .inr (2, [.ref h3, .int z3, .int z4, .ref h4, .ref h5, .ref h6])), (h4, .inl (gI g, 6, .inl f6)), (h5, .inl (gI g, 6, .inl f7))] rfl ?_
        have gr83 := fb_rng r83
        refine r_iconst 93 2 C dX1_takeTop_93 (by decide) ?_
        refine r_icmp_ne 94 101 C dX1_takeTop_94 (by decide) (fun c85 => ?_) (fun c85 => ?_)
        · skip
          have k86 : ¬ ((Int32.toInt r83) = 2) := fun h_9 => c85 ((fa_eq r83 2).mpr h_9)
          refine r_iconst 101 0 C dX1_takeTop_101 (by decide) ?_
          refine r_callVv 102 C dX1_takeTop_102 [] [(h0, .inr (1, [.ref h1, .ref h8, .ref h2, .int z72, .long z2, .long 9223372036854775807, .int x1, .int x2, .long y4, .long y5]))] [(h2, .inr (4, [.ref h7, .int x5])), (h3, .inl (gI g, 48, .inl f5)), (h6, .inl (gI g, 6, .inl f8)), (h7, .inl (gB g, 1500, .inl fn4)), (h1, .inr (2, [.ref h3, .int z3, .int z4, .ref h4, .ref h5, .ref h6])), (h4, .inl (gI g, 6, .inl f6)), (h5, .inl (gI g, 6, .inl f7))] (fun sz => c53_X1_want l g h0 0 h1 h8 h2 z72 z2 9223372036854775807 x1 x2 y4 y5 (by decide) i_x1 sz) gX1_takeTop_X1_want rfl ⟨rfl, rfl⟩ 1 (by decide) ⟨Nat.le_of_ble_eq_true rfl, Nat.le_of_ble_eq_true rfl⟩ 4 rfl rfl [4] [0, 1, 2, 3, 5, 6, 7] rfl rfl (by decide) (by decide) (by decide) rfl rfl (Nat.le_of_ble_eq_true rfl) ⟨Nat.le_of_ble_eq_true rfl, Nat.le_of_ble_eq_true rfl⟩ (fun  z87 w88 => ?_)
          refine r_ws [(h2, .inr (4, [.ref h7, .int x5])), (h3, .inl (gI g, 48, .inl f5)), (h6, .inl (gI g, 6, .inl f8)), (h7, .inl (gB g, 1500, .inl fn4)), (h1, .inr (2, [.ref h3, .int z3, .int z4, .ref h4, .ref h5, .ref h6])), (h4, .inl (gI g, 6, .inl f6)), (h5, .inl (gI g, 6, .inl f7)), (h0, .inr (1, [.ref h1, .ref h8, .ref h2, .int z87, .long z2, .long 9223372036854775807, .int x1, .int x2, .long y4, .long y5]))] rfl ?_
          have gz87 := fb_rng z87
          exact r_vret 105 Rt dX1_takeTop_105 (z87, z2, z3, z4, f5, f6, f7, f8) (show 0 ≤ (Int32.toInt z3) ∧ (Int32.toInt z3) ≤ 48 ∧ 0 ≤ (Int32.toInt z4) ∧ (Int32.toInt z4) ≤ 1 from ⟨(show _ ∧ _ from ⟨p11, p12⟩).1, (show _ ∧ _ from ⟨p11, p12⟩).2, (show _ ∧ _ from ⟨p13, p14⟩).1, (show _ ∧ _ from ⟨p13, p14⟩).2⟩) [7, 4, 0, 1, 5, 6, 2, 3] (by decide) rfl (Nat.le_of_ble_eq_true rfl) (Nat.le_of_ble_eq_true rfl)
        · skip
          have k89 : (Int32.toInt r83) = 2 := (fa_eq r83 2).mp c85
          refine r_iconst 97 1 C dX1_takeTop_97 (by decide) ?_
          refine r_goto 98 102 C dX1_takeTop_98 (by decide) ?_
          refine r_callVv 102 C dX1_takeTop_102 [] [(h0, .inr (1, [.ref h1, .ref h8, .ref h2, .int z72, .long z2, .long 9223372036854775807, .int x1, .int x2, .long y4, .long y5]))] [(h2, .inr (4, [.ref h7, .int x5])), (h3, .inl (gI g, 48, .inl f5)), (h6, .inl (gI g, 6, .inl f8)), (h7, .inl (gB g, 1500, .inl fn4)), (h1, .inr (2, [.ref h3, .int z3, .int z4, .ref h4, .ref h5, .ref h6])), (h4, .inl (gI g, 6, .inl f6)), (h5, .inl (gI g, 6, .inl f7))] (fun sz => c53_X1_want l g h0 1 h1 h8 h2 z72 z2 9223372036854775807 x1 x2 y4 y5 (by decide) i_x1 sz) gX1_takeTop_X1_want rfl ⟨rfl, rfl⟩ 1 (by decide) ⟨Nat.le_of_ble_eq_true rfl, Nat.le_of_ble_eq_true rfl⟩ 4 rfl rfl [4] [0, 1, 2, 3, 5, 6, 7] rfl rfl (by decide) (by decide) (by decide) rfl rfl (Nat.le_of_ble_eq_true rfl) ⟨Nat.le_of_ble_eq_true rfl, Nat.le_of_ble_eq_true rfl⟩ (fun  z90 w91 => ?_)
          refine r_ws [(h2, .inr (4, [.ref h7, .int x5])), (h3, .inl (gI g, 48, .inl f5)), (h6, .inl (gI g, 6, .inl f8)), (h7, .inl (gB g, 1500, .inl fn4)), (h1, .inr (2, [.ref h3, .int z3, .int z4, .ref h4, .ref h5, .ref h6])), (h4, .inl (gI g, 6, .inl f6)), (h5, .inl (gI g, 6, .inl f7)), (h0, .inr (1, [.ref h1, .ref h8, .ref h2, .int z90, .long z2, .long 9223372036854775807, .int x1, .int x2, .long y4, .long y5]))] rfl ?_
          have gz90 := fb_rng z90
          exact r_vret 105 Rt dX1_takeTop_105 (z90, z2, z3, z4, f5, f6, f7, f8) (show 0 ≤ (Int32.toInt z3) ∧ (Int32.toInt z3) ≤ 48 ∧ 0 ≤ (Int32.toInt z4) ∧ (Int32.toInt z4) ≤ 1 from ⟨(show _ ∧ _ from ⟨p11, p12⟩).1, (show _ ∧ _ from ⟨p11, p12⟩).2, (show _ ∧ _ from ⟨p13, p14⟩).1, (show _ ∧ _ from ⟨p13, p14⟩).2⟩) [7, 4, 0, 1, 5, 6, 2, 3] (by decide) rfl (Nat.le_of_ble_eq_true rfl) (Nat.le_of_ble_eq_true rfl)
    · skip
      have k92 : ¬ ((Int32.toInt r54) = 0) := fun h_9 => c58 ((fa_eq r54 0).mpr h_9)
      refine r_iconst 32 1 C dX1_takeTop_32 (by decide) ?_
      refine r_goto 33 37 C dX1_takeTop_33 (by decide) ?_
      refine r_callVv 37 C dX1_takeTop_37 [] [(h0, .inr (1, [.ref h1, .ref h8, .ref h2, .int z1, .long z2, .long 9223372036854775807, .int x1, .int x2, .long y4, .long y5]))] [(h2, .inr (4, [.ref h7, .int x5])), (h3, .inl (gI g, 48, .inl f5)), (h5, .inl (gI g, 6, .inl f7)), (h6, .inl (gI g, 6, .inl f8)), (h7, .inl (gB g, 1500, .inl fn4)), (h1, .inr (2, [.ref h3, .int z3, .int z4, .ref h4, .ref h5, .ref h6])), (h4, .inl (gI g, 6, .inl f6))] (fun sz => c53_X1_want l g h0 1 h1 h8 h2 z1 z2 9223372036854775807 x1 x2 y4 y5 (by decide) i_x1 sz) gX1_takeTop_X1_want rfl ⟨rfl, rfl⟩ 1 (by decide) ⟨Nat.le_of_ble_eq_true rfl, Nat.le_of_ble_eq_true rfl⟩ 0 rfl rfl [0] [1, 2, 3, 4, 5, 6, 7] rfl rfl (by decide) (by decide) (by decide) rfl rfl (Nat.le_of_ble_eq_true rfl) ⟨Nat.le_of_ble_eq_true rfl, Nat.le_of_ble_eq_true rfl⟩ (fun  z93 w94 => ?_)
      refine r_ws [(h2, .inr (4, [.ref h7, .int x5])), (h3, .inl (gI g, 48, .inl f5)), (h5, .inl (gI g, 6, .inl f7)), (h6, .inl (gI g, 6, .inl f8)), (h7, .inl (gB g, 1500, .inl fn4)), (h1, .inr (2, [.ref h3, .int z3, .int z4, .ref h4, .ref h5, .ref h6])), (h4, .inl (gI g, 6, .inl f6)), (h0, .inr (1, [.ref h1, .ref h8, .ref h2, .int z93, .long z2, .long 9223372036854775807, .int x1, .int x2, .long y4, .long y5]))] rfl ?_
      have gz93 := fb_rng z93
      refine r_aload_n 40 0 C dX1_takeTop_40 rfl ?_
      refine r_aload_n 41 0 C dX1_takeTop_41 rfl ?_
      refine r_get 42 C dX1_takeTop_42 (k := 0) 7 rfl rfl hiX1 (by decide) rfl (mg 1 rfl) (Or.inl rfl) rfl ?_
      refine r_bipush 45 18 C dX1_takeTop_45 (by decide) ?_
      refine r_iconst 47 2 C dX1_takeTop_47 (by decide) ?_
      refine r_callVi 48 C dX1_takeTop_48 [.ref h0] [(h1, .inr (2, [.ref h3, .int z3, .int z4, .ref h4, .ref h5, .ref h6])), (h4, .inl (gI g, 6, .inl f6))] [(h2, .inr (4, [.ref h7, .int x5])), (h3, .inl (gI g, 48, .inl f5)), (h5, .inl (gI g, 6, .inl f7)), (h6, .inl (gI g, 6, .inl f8)), (h7, .inl (gB g, 1500, .inl fn4)), (h0, .inr (1, [.ref h1, .ref h8, .ref h2, .int z93, .long z2, .long 9223372036854775807, .int x1, .int x2, .long y4, .long y5]))] (fun sz => c77_X2_fits l g h1 h4 2 h3 z3 z4 h5 h6 f6 ⟨p11, p12⟩ ⟨p13, p14⟩ sz) gX1_takeTop_X2_fits rfl ⟨rfl, rfl⟩ 2 (by decide) ⟨Nat.le_of_ble_eq_true rfl, Nat.le_of_ble_eq_true rfl⟩ 5 rfl rfl [5, 6] [0, 1, 2, 3, 4, 7] rfl rfl (by decide) (by decide) (by decide) rfl rfl (Nat.le_of_ble_eq_true rfl) ⟨Nat.le_of_ble_eq_true rfl, Nat.le_of_ble_eq_true rfl⟩ (fun r95 _ w96 => ?_)
      refine r_ws [(h2, .inr (4, [.ref h7, .int x5])), (h3, .inl (gI g, 48, .inl f5)), (h5, .inl (gI g, 6, .inl f7)), (h6, .inl (gI g, 6, .inl f8)), (h7, .inl (gB g, 1500, .inl fn4)), (h0, .inr (1, [.ref h1, .ref h8, .ref h2, .int z93, .long z2, .long 9223372036854775807, .int x1, .int x2, .long y4, .long y5])), (h1, .inr (2, [.ref h3, .int z3, .int z4, .ref h4, .ref h5, .ref h6])), (h4, .inl (gI g, 6, .inl f6))] rfl ?_
      have p97 : 0 ≤ (Int32.toInt r95) := w96.1
      have p98 : (Int32.toInt r95) ≤ 1 := w96.2
      refine r_callVv 51 C dX1_takeTop_51 [] [(h0, .inr (1, [.ref h1, .ref h8, .ref h2, .int z93, .long z2, .long 9223372036854775807, .int x1, .int x2, .long y4, .long y5]))] [(h2, .inr (4, [.ref h7, .int x5])), (h3, .inl (gI g, 48, .inl f5)), (h5, .inl (gI g, 6, .inl f7)), (h6, .inl (gI g, 6, .inl f8)), (h7, .inl (gB g, 1500, .inl fn4)), (h1, .inr (2, [.ref h3, .int z3, .int z4, .ref h4, .ref h5, .ref h6])), (h4, .inl (gI g, 6, .inl f6))] (fun sz => c53_X1_want l g h0 r95 h1 h8 h2 z93 z2 9223372036854775807 x1 x2 y4 y5 ⟨p97, p98⟩ i_x1 sz) gX1_takeTop_X1_want rfl ⟨rfl, rfl⟩ 1 (by decide) ⟨Nat.le_of_ble_eq_true rfl, Nat.le_of_ble_eq_true rfl⟩ 5 rfl rfl [5] [0, 1, 2, 3, 4, 6, 7] rfl rfl (by decide) (by decide) (by decide) rfl rfl (Nat.le_of_ble_eq_true rfl) ⟨Nat.le_of_ble_eq_true rfl, Nat.le_of_ble_eq_true rfl⟩ (fun  z99 w100 => ?_)
      refine r_ws [(h2, .inr (4, [.ref h7, .int x5])), (h3, .inl (gI g, 48, .inl f5)), (h5, .inl (gI g, 6, .inl f7)), (h6, .inl (gI g, 6, .inl f8)), (h7, .inl (gB g, 1500, .inl fn4)), (h1, .inr (2, [.ref h3, .int z3, .int z4, .ref h4, .ref h5, .ref h6])), (h4, .inl (gI g, 6, .inl f6)), (h0, .inr (1, [.ref h1, .ref h8, .ref h2, .int z99, .long z2, .long 9223372036854775807, .int x1, .int x2, .long y4, .long y5]))] rfl ?_
      have gz99 := fb_rng z99
      refine r_aload_n 54 0 C dX1_takeTop_54 rfl ?_
      refine r_aload_n 55 0 C dX1_takeTop_55 rfl ?_
      refine r_get 56 C dX1_takeTop_56 (k := 0) 7 rfl rfl hiX1 (by decide) rfl (mg 1 rfl) (Or.inl rfl) rfl ?_
      refine r_sipush 59 262 C dX1_takeTop_59 (by decide) ?_
      refine r_iconst 62 1 C dX1_takeTop_62 (by decide) ?_
      refine r_callVi 63 C dX1_takeTop_63 [.ref h0] [(h1, .inr (2, [.ref h3, .int z3, .int z4, .ref h4, .ref h5, .ref h6])), (h4, .inl (gI g, 6, .inl f6))] [(h2, .inr (4, [.ref h7, .int x5])), (h3, .inl (gI g, 48, .inl f5)), (h5, .inl (gI g, 6, .inl f7)), (h6, .inl (gI g, 6, .inl f8)), (h7, .inl (gB g, 1500, .inl fn4)), (h0, .inr (1, [.ref h1, .ref h8, .ref h2, .int z99, .long z2, .long 9223372036854775807, .int x1, .int x2, .long y4, .long y5]))] (fun sz => c79_X2_fits l g h1 h4 1 h3 z3 z4 h5 h6 f6 ⟨p11, p12⟩ ⟨p13, p14⟩ sz) gX1_takeTop_X2_fits rfl ⟨rfl, rfl⟩ 2 (by decide) ⟨Nat.le_of_ble_eq_true rfl, Nat.le_of_ble_eq_true rfl⟩ 5 rfl rfl [5, 6] [0, 1, 2, 3, 4, 7] rfl rfl (by decide) (by decide) (by decide) rfl rfl (Nat.le_of_ble_eq_true rfl) ⟨Nat.le_of_ble_eq_true rfl, Nat.le_of_ble_eq_true rfl⟩ (fun r101 _ w102 => ?_)
      refine r_ws [(h2, .inr (4, [.ref h7, .int x5])), (h3, .inl (gI g, 48, .inl f5)), (h5, .inl (gI g, 6, .inl f7)), (h6, .inl (gI g, 6, .inl f8)), (h7, .inl (gB g, 1500, .inl fn4)), (h0, .inr (1, [.ref h1, .ref h8, .ref h2, .int z99, .long z2, .long 9223372036854775807, .int x1, .int x2, .long y4, .long y5])), (h1, .inr (2, [.ref h3, .int z3, .int z4, .ref h4, .ref h5, .ref h6])), (h4, .inl (gI g, 6, .inl f6))] rfl ?_
      have p103 : 0 ≤ (Int32.toInt r101) := w102.1
      have p104 : (Int32.toInt r101) ≤ 1 := w102.2
      refine r_callVv 66 C dX1_takeTop_66 [] [(h0, .inr (1, [.ref h1, .ref h8, .ref h2, .int z99, .long z2, .long 9223372036854775807, .int x1, .int x2, .long y4, .long y5]))] [(h2, .inr (4, [.ref h7, .int x5])), (h3, .inl (gI g, 48, .inl f5)), (h5, .inl (gI g, 6, .inl f7)), (h6, .inl (gI g, 6, .inl f8)), (h7, .inl (gB g, 1500, .inl fn4)), (h1, .inr (2, [.ref h3, .int z3, .int z4, .ref h4, .ref h5, .ref h6])), (h4, .inl (gI g, 6, .inl f6))] (fun sz => c53_X1_want l g h0 r101 h1 h8 h2 z99 z2 9223372036854775807 x1 x2 y4 y5 ⟨p103, p104⟩ i_x1 sz) gX1_takeTop_X1_want rfl ⟨rfl, rfl⟩ 1 (by decide) ⟨Nat.le_of_ble_eq_true rfl, Nat.le_of_ble_eq_true rfl⟩ 5 rfl rfl [5] [0, 1, 2, 3, 4, 6, 7] rfl rfl (by decide) (by decide) (by decide) rfl rfl (Nat.le_of_ble_eq_true rfl) ⟨Nat.le_of_ble_eq_true rfl, Nat.le_of_ble_eq_true rfl⟩ (fun  z105 w106 => ?_)
      refine r_ws [(h2, .inr (4, [.ref h7, .int x5])), (h3, .inl (gI g, 48, .inl f5)), (h5, .inl (gI g, 6, .inl f7)), (h6, .inl (gI g, 6, .inl f8)), (h7, .inl (gB g, 1500, .inl fn4)), (h1, .inr (2, [.ref h3, .int z3, .int z4, .ref h4, .ref h5, .ref h6])), (h4, .inl (gI g, 6, .inl f6)), (h0, .inr (1, [.ref h1, .ref h8, .ref h2, .int z105, .long z2, .long 9223372036854775807, .int x1, .int x2, .long y4, .long y5]))] rfl ?_
      have gz105 := fb_rng z105
      refine r_aload_n 69 0 C dX1_takeTop_69 rfl ?_
      refine r_aload_n 70 0 C dX1_takeTop_70 rfl ?_
      refine r_get 71 C dX1_takeTop_71 (k := 0) 7 rfl rfl hiX1 (by decide) rfl (mg 1 rfl) (Or.inl rfl) rfl ?_
      refine r_sipush 74 262 C dX1_takeTop_74 (by decide) ?_
      refine r_callVi 77 C dX1_takeTop_77 [.ref h0] [(h1, .inr (2, [.ref h3, .int z3, .int z4, .ref h4, .ref h5, .ref h6])), (h4, .inl (gI g, 6, .inl f6))] [(h2, .inr (4, [.ref h7, .int x5])), (h3, .inl (gI g, 48, .inl f5)), (h5, .inl (gI g, 6, .inl f7)), (h6, .inl (gI g, 6, .inl f8)), (h7, .inl (gB g, 1500, .inl fn4)), (h0, .inr (1, [.ref h1, .ref h8, .ref h2, .int z105, .long z2, .long 9223372036854775807, .int x1, .int x2, .long y4, .long y5]))] (fun sz => c80_X2_isTold l g h1 h4 h3 z3 z4 h5 h6 f6 ⟨p11, p12⟩ ⟨p13, p14⟩ sz) gX1_takeTop_X2_isTold rfl ⟨rfl, rfl⟩ 1 (by decide) ⟨Nat.le_of_ble_eq_true rfl, Nat.le_of_ble_eq_true rfl⟩ 5 rfl rfl [5, 6] [0, 1, 2, 3, 4, 7] rfl rfl (by decide) (by decide) (by decide) rfl rfl (Nat.le_of_ble_eq_true rfl) ⟨Nat.le_of_ble_eq_true rfl, Nat.le_of_ble_eq_true rfl⟩ (fun r107 _ w108 => ?_)
      refine r_ws [(h2, .inr (4, [.ref h7, .int x5])), (h3, .inl (gI g, 48, .inl f5)), (h5, .inl (gI g, 6, .inl f7)), (h6, .inl (gI g, 6, .inl f8)), (h7, .inl (gB g, 1500, .inl fn4)), (h0, .inr (1, [.ref h1, .ref h8, .ref h2, .int z105, .long z2, .long 9223372036854775807, .int x1, .int x2, .long y4, .long y5])), (h1, .inr (2, [.ref h3, .int z3, .int z4, .ref h4, .ref h5, .ref h6])), (h4, .inl (gI g, 6, .inl f6))] rfl ?_
      have p109 : 0 ≤ (Int32.toInt r107) := w108.1
      have p110 : (Int32.toInt r107) ≤ 1 := w108.2
      refine r_if_eq 80 97 C dX1_takeTop_80 (by decide) (fun c111 => ?_) (fun c111 => ?_)
      · skip
        have k112 : (Int32.toInt r107) = 0 := (fa_eq r107 0).mp c111
        refine r_iconst 97 1 C dX1_takeTop_97 (by decide) ?_
        refine r_goto 98 102 C dX1_takeTop_98 (by decide) ?_
        refine r_callVv 102 C dX1_takeTop_102 [] [(h0, .inr (1, [.ref h1, .ref h8, .ref h2, .int z105, .long z2, .long 9223372036854775807, .int x1, .int x2, .long y4, .long y5]))] [(h2, .inr (4, [.ref h7, .int x5])), (h3, .inl (gI g, 48, .inl f5)), (h5, .inl (gI g, 6, .inl f7)), (h6, .inl (gI g, 6, .inl f8)), (h7, .inl (gB g, 1500, .inl fn4)), (h1, .inr (2, [.ref h3, .int z3, .int z4, .ref h4, .ref h5, .ref h6])), (h4, .inl (gI g, 6, .inl f6))] (fun sz => c53_X1_want l g h0 1 h1 h8 h2 z105 z2 9223372036854775807 x1 x2 y4 y5 (by decide) i_x1 sz) gX1_takeTop_X1_want rfl ⟨rfl, rfl⟩ 1 (by decide) ⟨Nat.le_of_ble_eq_true rfl, Nat.le_of_ble_eq_true rfl⟩ 5 rfl rfl [5] [0, 1, 2, 3, 4, 6, 7] rfl rfl (by decide) (by decide) (by decide) rfl rfl (Nat.le_of_ble_eq_true rfl) ⟨Nat.le_of_ble_eq_true rfl, Nat.le_of_ble_eq_true rfl⟩ (fun  z113 w114 => ?_)
        refine r_ws [(h2, .inr (4, [.ref h7, .int x5])), (h3, .inl (gI g, 48, .inl f5)), (h5, .inl (gI g, 6, .inl f7)), (h6, .inl (gI g, 6, .inl f8)), (h7, .inl (gB g, 1500, .inl fn4)), (h1, .inr (2, [.ref h3, .int z3, .int z4, .ref h4, .ref h5, .ref h6])), (h4, .inl (gI g, 6, .inl f6)), (h0, .inr (1, [.ref h1, .ref h8, .ref h2, .int z113, .long z2, .long 9223372036854775807, .int x1, .int x2, .long y4, .long y5]))] rfl ?_
        have gz113 := fb_rng z113
        exact r_vret 105 Rt dX1_takeTop_105 (z113, z2, z3, z4, f5, f6, f7, f8) (show 0 ≤ (Int32.toInt z3) ∧ (Int32.toInt z3) ≤ 48 ∧ 0 ≤ (Int32.toInt z4) ∧ (Int32.toInt z4) ≤ 1 from ⟨(show _ ∧ _ from ⟨p11, p12⟩).1, (show _ ∧ _ from ⟨p11, p12⟩).2, (show _ ∧ _ from ⟨p13, p14⟩).1, (show _ ∧ _ from ⟨p13, p14⟩).2⟩) [7, 5, 0, 1, 6, 2, 3, 4] (by decide) rfl (Nat.le_of_ble_eq_true rfl) (Nat.le_of_ble_eq_true rfl)
      · skip
        have k115 : ¬ ((Int32.toInt r107) = 0) := fun h_9 => c111 ((fa_eq r107 0).mpr h_9)
        refine r_aload_n 83 0 C dX1_takeTop_83 rfl ?_
        refine r_get 84 C dX1_takeTop_84 (k := 0) 5 rfl rfl hiX1 (by decide) rfl (mg 1 rfl) (Or.inl rfl) rfl ?_
        refine r_sipush 87 262 C dX1_takeTop_87 (by decide) ?_
        refine r_callVi 90 C dX1_takeTop_90 [.ref h0] [(h1, .inr (2, [.ref h3, .int z3, .int z4, .ref h4, .ref h5, .ref h6])), (h4, .inl (gI g, 6, .inl f6)), (h5, .inl (gI g, 6, .inl f7))] [(h2, .inr (4, [.ref h7, .int x5])), (h3, .inl (gI g, 48, .inl f5)), (h6, .inl (gI g, 6, .inl f8)), (h7, .inl (gB g, 1500, .inl fn4)), (h0, .inr (1, [.ref h1, .ref h8, .ref h2, .int z105, .long z2, .long 9223372036854775807, .int x1, .int x2, .long y4, .long y5]))] (fun sz => c81_X2_first l g h1 h4 h5 h3 z3 z4 h6 f6 f7 ⟨p11, p12⟩ ⟨p13, p14⟩ sz) gX1_takeTop_X2_first rfl ⟨rfl, rfl⟩ 1 (by decide) ⟨Nat.le_of_ble_eq_true rfl, Nat.le_of_ble_eq_true rfl⟩ 6 rfl rfl [6, 7, 2] [0, 1, 3, 4, 5] rfl rfl (by decide) (by decide) (by decide) rfl rfl (Nat.le_of_ble_eq_true rfl) ⟨Nat.le_of_ble_eq_true rfl, Nat.le_of_ble_eq_true rfl⟩ (fun r116 _ w117 => ?_)
        refine r_ws [(h2, .inr (4, [.ref h7, .int x5])), (h3, .inl (gI g, 48, .inl f5)), (h6, .inl (gI g, 6, .inl f8)), (h7, .inl (gB g, 1500, .inl fn4)), (h0, .inr (1, [.ref h1, .ref h8, .ref h2, .int z105, .long z2, .long 9223372036854775807, .int x1, .int x2, .long y4, .long y5])), (h1, .inr (2, [.ref h3, .int z3, .int z4, .ref h4, .ref h5, .ref h6])), (h4, .inl (gI g, 6, .inl f6)), (h5, .inl (gI g, 6, .inl f7))] rfl ?_
        have gr116 := fb_rng r116
        refine r_iconst 93 2 C dX1_takeTop_93 (by decide) ?_
        refine r_icmp_ne 94 101 C dX1_takeTop_94 (by decide) (fun c118 => ?_) (fun c118 => ?_)
        · skip
          have k119 : ¬ ((Int32.toInt r116) = 2) := fun h_9 => c118 ((fa_eq r116 2).mpr h_9)
          refine r_iconst 101 0 C dX1_takeTop_101 (by decide) ?_
          refine r_callVv 102 C dX1_takeTop_102 [] [(h0, .inr (1, [.ref h1, .ref h8, .ref h2, .int z105, .long z2, .long 9223372036854775807, .int x1, .int x2, .long y4, .long y5]))] [(h2, .inr (4, [.ref h7, .int x5])), (h3, .inl (gI g, 48, .inl f5)), (h6, .inl (gI g, 6, .inl f8)), (h7, .inl (gB g, 1500, .inl fn4)), (h1, .inr (2, [.ref h3, .int z3, .int z4, .ref h4, .ref h5, .ref h6])), (h4, .inl (gI g, 6, .inl f6)), (h5, .inl (gI g, 6, .inl f7))] (fun sz => c53_X1_want l g h0 0 h1 h8 h2 z105 z2 9223372036854775807 x1 x2 y4 y5 (by decide) i_x1 sz) gX1_takeTop_X1_want rfl ⟨rfl, rfl⟩ 1 (by decide) ⟨Nat.le_of_ble_eq_true rfl, Nat.le_of_ble_eq_true rfl⟩ 4 rfl rfl [4] [0, 1, 2, 3, 5, 6, 7] rfl rfl (by decide) (by decide) (by decide) rfl rfl (Nat.le_of_ble_eq_true rfl) ⟨Nat.le_of_ble_eq_true rfl, Nat.le_of_ble_eq_true rfl⟩ (fun  z120 w121 => ?_)
          refine r_ws [(h2, .inr (4, [.ref h7, .int x5])), (h3, .inl (gI g, 48, .inl f5)), (h6, .inl (gI g, 6, .inl f8)), (h7, .inl (gB g, 1500, .inl fn4)), (h1, .inr (2, [.ref h3, .int z3, .int z4, .ref h4, .ref h5, .ref h6])), (h4, .inl (gI g, 6, .inl f6)), (h5, .inl (gI g, 6, .inl f7)), (h0, .inr (1, [.ref h1, .ref h8, .ref h2, .int z120, .long z2, .long 9223372036854775807, .int x1, .int x2, .long y4, .long y5]))] rfl ?_
          have gz120 := fb_rng z120
          exact r_vret 105 Rt dX1_takeTop_105 (z120, z2, z3, z4, f5, f6, f7, f8) (show 0 ≤ (Int32.toInt z3) ∧ (Int32.toInt z3) ≤ 48 ∧ 0 ≤ (Int32.toInt z4) ∧ (Int32.toInt z4) ≤ 1 from ⟨(show _ ∧ _ from ⟨p11, p12⟩).1, (show _ ∧ _ from ⟨p11, p12⟩).2, (show _ ∧ _ from ⟨p13, p14⟩).1, (show _ ∧ _ from ⟨p13, p14⟩).2⟩) [7, 4, 0, 1, 5, 6, 2, 3] (by decide) rfl (Nat.le_of_ble_eq_true rfl) (Nat.le_of_ble_eq_true rfl)
        · skip
          have k122 : (Int32.toInt r116) = 2 := (fa_eq r116 2).mp c118
          refine r_iconst 97 1 C dX1_takeTop_97 (by decide) ?_
          refine r_goto 98 102 C dX1_takeTop_98 (by decide) ?_
          refine r_callVv 102 C dX1_takeTop_102 [] [(h0, .inr (1, [.ref h1, .ref h8, .ref h2, .int z105, .long z2, .long 9223372036854775807, .int x1, .int x2, .long y4, .long y5]))] [(h2, .inr (4, [.ref h7, .int x5])), (h3, .inl (gI g, 48, .inl f5)), (h6, .inl (gI g, 6, .inl f8)), (h7, .inl (gB g, 1500, .inl fn4)), (h1, .inr (2, [.ref h3, .int z3, .int z4, .ref h4, .ref h5, .ref h6])), (h4, .inl (gI g, 6, .inl f6)), (h5, .inl (gI g, 6, .inl f7))] (fun sz => c53_X1_want l g h0 1 h1 h8 h2 z105 z2 9223372036854775807 x1 x2 y4 y5 (by decide) i_x1 sz) gX1_takeTop_X1_want rfl ⟨rfl, rfl⟩ 1 (by decide) ⟨Nat.le_of_ble_eq_true rfl, Nat.le_of_ble_eq_true rfl⟩ 4 rfl rfl [4] [0, 1, 2, 3, 5, 6, 7] rfl rfl (by decide) (by decide) (by decide) rfl rfl (Nat.le_of_ble_eq_true rfl) ⟨Nat.le_of_ble_eq_true rfl, Nat.le_of_ble_eq_true rfl⟩ (fun  z123 w124 => ?_)
          refine r_ws [(h2, .inr (4, [.ref h7, .int x5])), (h3, .inl (gI g, 48, .inl f5)), (h6, .inl (gI g, 6, .inl f8)), (h7, .inl (gB g, 1500, .inl fn4)), (h1, .inr (2, [.ref h3, .int z3, .int z4, .ref h4, .ref h5, .ref h6])), (h4, .inl (gI g, 6, .inl f6)), (h5, .inl (gI g, 6, .inl f7)), (h0, .inr (1, [.ref h1, .ref h8, .ref h2, .int z123, .long z2, .long 9223372036854775807, .int x1, .int x2, .long y4, .long y5]))] rfl ?_
          have gz123 := fb_rng z123
          exact r_vret 105 Rt dX1_takeTop_105 (z123, z2, z3, z4, f5, f6, f7, f8) (show 0 ≤ (Int32.toInt z3) ∧ (Int32.toInt z3) ≤ 48 ∧ 0 ≤ (Int32.toInt z4) ∧ (Int32.toInt z4) ≤ 1 from ⟨(show _ ∧ _ from ⟨p11, p12⟩).1, (show _ ∧ _ from ⟨p11, p12⟩).2, (show _ ∧ _ from ⟨p13, p14⟩).1, (show _ ∧ _ from ⟨p13, p14⟩).2⟩) [7, 4, 0, 1, 5, 6, 2, 3] (by decide) rfl (Nat.le_of_ble_eq_true rfl) (Nat.le_of_ble_eq_true rfl)
