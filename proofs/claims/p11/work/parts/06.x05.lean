set_option maxHeartbeats 4000000 in
set_option maxRecDepth 100000 in
theorem c152_X10_isWord (l : Launch) (g : GD) (h0 : Nat) (h1 : Nat) (h2 : Nat) (h3 : Nat) (x0 : Int32) (x1 : Int32) (x2 : Int32) (x3 : Int32) (x4 : Int32) (x5 : Int32) (x6 : Int32) (x7 : Int32) (x8 : Int32) (fn0 : Nat → Int32) (i_x0 : (0 ≤ (Int32.toInt x0) ∧ (Int32.toInt x0) ≤ 1500)) (i_x1 : (0 ≤ (Int32.toInt x1) ∧ (Int32.toInt x1) ≤ 1500)) (i_x2 : (0 ≤ (Int32.toInt x2) ∧ (Int32.toInt x2) ≤ 1500)) (i_x3 : (-1 ≤ (Int32.toInt x3) ∧ (Int32.toInt x3) ≤ 9999)) (i_x4 : (0 ≤ (Int32.toInt x4) ∧ (Int32.toInt x4) ≤ 1)) (i_x5 : (-1 ≤ (Int32.toInt x5) ∧ (Int32.toInt x5) ≤ 9999)) (i_x6 : (0 ≤ (Int32.toInt x6) ∧ (Int32.toInt x6) ≤ 1500)) (i_x7 : (0 ≤ (Int32.toInt x7) ∧ (Int32.toInt x7) ≤ 1500)) (i_x8 : (0 ≤ (Int32.toInt x8) ∧ (Int32.toInt x8) ≤ 1500)) (sz : Nat) : Met l yX10_isWord wsX10_isWord ({ frames := 5, cells := 0, slots := 0, locals := 108 }) (va_Pc [.ref h0, .ref (g.2.2.1 4)] (PW g [(h0, .inr (9, [.ref h3, .ref h1, .int x0, .int x1, .int x2, .int x3, .int x4, .int x5, .int x6, .int x7])), (h1, .inr (4, [.ref h2, .int x8])), (h2, .inl (gB g, 1500, .inl fn0))] sz)) (va_Qi (fun (r : Int32) (_ : Unit) => 0 ≤ (Int32.toInt r) ∧ (Int32.toInt r) ≤ 1 ∧ ISB (Int32.toInt r) (IW (GB fn0 (Int32.toInt x8)) (Int32.toInt x1) (Int32.toInt x2) wDup)) (BW g (va_A [(h0, .inr (9, [.ref h3, .ref h1, .int x0, .int x1, .int x2, .int x3, .int x4, .int x5, .int x6, .int x7])), (h1, .inr (4, [.ref h2, .int x8])), (h2, .inl (gB g, 1500, .inl fn0))] sz) (fun _ : Unit => [(h0, .inr (9, [.ref h3, .ref h1, .int x0, .int x1, .int x2, .int x3, .int x4, .int x5, .int x6, .int x7])), (h1, .inr (4, [.ref h2, .int x8])), (h2, .inl (gB g, 1500, .inl fn0))])) (va_A [(h0, .inr (9, [.ref h3, .ref h1, .int x0, .int x1, .int x2, .int x3, .int x4, .int x5, .int x6, .int x7])), (h1, .inr (4, [.ref h2, .int x8])), (h2, .inl (gB g, 1500, .inl fn0))] sz)) 0 0 (va_A [(h0, .inr (9, [.ref h3, .ref h1, .int x0, .int x1, .int x2, .int x3, .int x4, .int x5, .int x6, .int x7])), (h1, .inr (4, [.ref h2, .int x8])), (h2, .inl (gB g, 1500, .inl fn0))] sz) := by
  refine met_z RX10 (by decide) rfl rfl (Nat.le_of_ble_eq_true rfl) [(0, .ref h0), (1, .ref (g.2.2.1 4))] rfl ?_
  intro p e s m args below meth c A Q C hnm Rt
  have hiX10 : ∀ w ∈ wsX100, w ∈ wsX10_isWord := fun w h => List.mem_cons_of_mem _ (List.mem_append_left _ (List.mem_append_right _ (h)))
  refine r_aload_n 0 0 C dX10_isWord_0 rfl ?_
  refine r_get 1 C dX10_isWord_1 (k := 4) 0 rfl rfl hiX10 (by decide) rfl (mg 1 rfl) (Or.inl rfl) rfl ?_
  refine r_aload_n 4 0 C dX10_isWord_4 rfl ?_
  refine r_get 5 C dX10_isWord_5 (k := 3) 0 rfl rfl hiX10 (by decide) rfl (mg 2 rfl) (Or.inl rfl) rfl ?_
  obtain ⟨z1, ez1⟩ : ∃ z_9, x2 - x1 = z_9 := ⟨_, rfl⟩
  have tz1 : (Int32.toInt z1) = (Int32.toInt x2) - (Int32.toInt x1) := by rw [← ez1]; exact fb_subIv (a := 0) (b := 1500) (c := 0) (d := 1500) i_x2 i_x1 (by decide) (by decide)
  refine r_isub 8 z1 C dX10_isWord_8 ez1 ?_
  refine r_aload_n 9 1 C dX10_isWord_9 rfl ?_
  refine r_scallVi 10 C dX10_isWord_10 [.int z1] 4 (by decide) [] [(h0, .inr (9, [.ref h3, .ref h1, .int x0, .int x1, .int x2, .int x3, .int x4, .int x5, .int x6, .int x7])), (h1, .inr (4, [.ref h2, .int x8])), (h2, .inl (gB g, 1500, .inl fn0))] (fun sz => c144_J0_length_8abf5 l g   sz) gX10_isWord_J0_length_8abf5 rfl ⟨rfl, rfl⟩ 0 (by decide) ⟨Nat.le_of_ble_eq_true rfl, Nat.le_of_ble_eq_true rfl⟩ [] [0, 1, 2] rfl rfl (by decide) (by decide) (by decide) rfl rfl (Nat.le_of_ble_eq_true rfl) ⟨Nat.le_of_ble_eq_true rfl, Nat.le_of_ble_eq_true rfl⟩ (fun r2 _ w3 => ?_)
  refine r_ws [(h0, .inr (9, [.ref h3, .ref h1, .int x0, .int x1, .int x2, .int x3, .int x4, .int x5, .int x6, .int x7])), (h1, .inr (4, [.ref h2, .int x8])), (h2, .inl (gB g, 1500, .inl fn0))] rfl ?_
  have p4 : 3 = r2 := (w3).symm
  subst p4
  refine r_icmp_ne 13 35 C dX10_isWord_13 (by decide) (fun c5 => ?_) (fun c5 => ?_)
  · skip
    have k6 : ¬ ((Int32.toInt z1) = 3) := fun h_9 => c5 ((fa_eq z1 3).mpr h_9)
    refine r_iconst 35 0 C dX10_isWord_35 (by decide) ?_
    exact r_zret 36 Rt dX10_isWord_36 (by decide) () (show 0 ≤ (Int32.toInt 0) ∧ (Int32.toInt 0) ≤ 1 ∧ ISB 0 (IW (GB fn0 (Int32.toInt x8)) (Int32.toInt x1) (Int32.toInt x2) wDup) from ⟨(by ((repeat' apply And.intro) <;> first | trivial | rfl | assumption | omega | decide | exact Or.inl rfl | exact Or.inr (Or.inl rfl) | exact Or.inr (Or.inr rfl))), (by ((repeat' apply And.intro) <;> first | trivial | rfl | assumption | omega | decide | exact Or.inl rfl | exact Or.inr (Or.inl rfl) | exact Or.inr (Or.inr rfl))), (by exact Or.inr ⟨by first | rfl | omega, fun h_9 => absurd h_9.1 (show ¬ (_ = (3 : Int)) by omega)⟩)⟩) [0, 1, 2] (by decide) rfl (Nat.le_of_ble_eq_true rfl) (Nat.le_of_ble_eq_true rfl)
  · skip
    have k7 : (Int32.toInt z1) = 3 := (fa_eq z1 3).mp c5
    refine r_aload_n 16 0 C dX10_isWord_16 rfl ?_
    refine r_get 17 C dX10_isWord_17 (k := 1) 0 rfl rfl hiX10 (by decide) rfl (mg 3 rfl) (Or.inl rfl) rfl ?_
    refine r_aload_n 20 0 C dX10_isWord_20 rfl ?_
    refine r_get 21 C dX10_isWord_21 (k := 3) 0 rfl rfl hiX10 (by decide) rfl (mg 2 rfl) (Or.inl rfl) rfl ?_
    refine r_aload_n 24 1 C dX10_isWord_24 rfl ?_
    refine r_callSi 25 C dX10_isWord_25 [] [(h1, .inr (4, [.ref h2, .int x8])), (h2, .inl (gB g, 1500, .inl fn0))] [(h0, .inr (9, [.ref h3, .ref h1, .int x0, .int x1, .int x2, .int x3, .int x4, .int x5, .int x6, .int x7]))] (fun sz => c151_X10_isAt l g h1 h2 x1 x8 fn0 i_x1 i_x8 sz) gX10_isWord_X10_isAt rfl ⟨rfl, rfl⟩ 3 (by decide) ⟨Nat.le_of_ble_eq_true rfl, Nat.le_of_ble_eq_true rfl⟩ [1, 2] [0] rfl rfl (by decide) (by decide) (by decide) rfl rfl (Nat.le_of_ble_eq_true rfl) ⟨Nat.le_of_ble_eq_true rfl, Nat.le_of_ble_eq_true rfl⟩ (fun r8 _ w9 => ?_)
    refine r_ws [(h0, .inr (9, [.ref h3, .ref h1, .int x0, .int x1, .int x2, .int x3, .int x4, .int x5, .int x6, .int x7])), (h1, .inr (4, [.ref h2, .int x8])), (h2, .inl (gB g, 1500, .inl fn0))] rfl ?_
    have p10 : 0 ≤ (Int32.toInt r8) := w9.1
    have p11 : (Int32.toInt r8) ≤ 1 := w9.2.1
    have p12 : ISB (Int32.toInt r8) (WAT (GB fn0 (Int32.toInt x8)) (Int32.toInt x1) wDup) := w9.2.2
    refine r_if_eq 28 35 C dX10_isWord_28 (by decide) (fun c13 => ?_) (fun c13 => ?_)
    · skip
      have k14 : (Int32.toInt r8) = 0 := (fa_eq r8 0).mp c13
      refine r_iconst 35 0 C dX10_isWord_35 (by decide) ?_
      exact r_zret 36 Rt dX10_isWord_36 (by decide) () (show 0 ≤ (Int32.toInt 0) ∧ (Int32.toInt 0) ≤ 1 ∧ ISB 0 (IW (GB fn0 (Int32.toInt x8)) (Int32.toInt x1) (Int32.toInt x2) wDup) from ⟨(by ((repeat' apply And.intro) <;> first | trivial | rfl | assumption | omega | decide | exact Or.inl rfl | exact Or.inr (Or.inl rfl) | exact Or.inr (Or.inr rfl))), (by ((repeat' apply And.intro) <;> first | trivial | rfl | assumption | omega | decide | exact Or.inl rfl | exact Or.inr (Or.inl rfl) | exact Or.inr (Or.inr rfl))), (by exact isb_r (isb_and p12 (show _ = (3 : Int) by omega)) (by omega))⟩) [0, 1, 2] (by decide) rfl (Nat.le_of_ble_eq_true rfl) (Nat.le_of_ble_eq_true rfl)
    · skip
      have k15 : ¬ ((Int32.toInt r8) = 0) := fun h_9 => c13 ((fa_eq r8 0).mpr h_9)
      refine r_iconst 31 1 C dX10_isWord_31 (by decide) ?_
      refine r_goto 32 36 C dX10_isWord_32 (by decide) ?_
      exact r_zret 36 Rt dX10_isWord_36 (by decide) () (show 0 ≤ (Int32.toInt 1) ∧ (Int32.toInt 1) ≤ 1 ∧ ISB 1 (IW (GB fn0 (Int32.toInt x8)) (Int32.toInt x1) (Int32.toInt x2) wDup) from ⟨(by ((repeat' apply And.intro) <;> first | trivial | rfl | assumption | omega | decide | exact Or.inl rfl | exact Or.inr (Or.inl rfl) | exact Or.inr (Or.inr rfl))), (by ((repeat' apply And.intro) <;> first | trivial | rfl | assumption | omega | decide | exact Or.inl rfl | exact Or.inr (Or.inl rfl) | exact Or.inr (Or.inr rfl))), (by exact isb_r (isb_and p12 (show _ = (3 : Int) by omega)) (by omega))⟩) [0, 1, 2] (by decide) rfl (Nat.le_of_ble_eq_true rfl) (Nat.le_of_ble_eq_true rfl)
set_option maxHeartbeats 4000000 in
set_option maxRecDepth 100000 in
theorem c153_X10_countOfWord (l : Launch) (g : GD) (h0 : Nat) (h1 : Nat) (h2 : Nat) (h3 : Nat) (x0 : Int32) (x1 : Int32) (x2 : Int32) (x3 : Int32) (x4 : Int32) (x5 : Int32) (x6 : Int32) (x7 : Int32) (x8 : Int32) (fn0 : Nat → Int32) (i_x0 : (0 ≤ (Int32.toInt x0) ∧ (Int32.toInt x0) ≤ 1500)) (i_x1 : (0 ≤ (Int32.toInt x1) ∧ (Int32.toInt x1) ≤ 1500)) (i_x2 : (0 ≤ (Int32.toInt x2) ∧ (Int32.toInt x2) ≤ 1500)) (i_x3 : (-1 ≤ (Int32.toInt x3) ∧ (Int32.toInt x3) ≤ 9999)) (i_x4 : (0 ≤ (Int32.toInt x4) ∧ (Int32.toInt x4) ≤ 1)) (i_x5 : (-1 ≤ (Int32.toInt x5) ∧ (Int32.toInt x5) ≤ 9999)) (i_x6 : (0 ≤ (Int32.toInt x6) ∧ (Int32.toInt x6) ≤ 1500)) (i_x7 : (0 ≤ (Int32.toInt x7) ∧ (Int32.toInt x7) ≤ 1500)) (i_x8 : (0 ≤ (Int32.toInt x8) ∧ (Int32.toInt x8) ≤ 1500)) (sz : Nat) : Met l yX10_countOfWord wsX10_countOfWord ({ frames := 1, cells := 0, slots := 0, locals := 22 }) (va_Pc [.ref h0] (PW g [(h0, .inr (9, [.ref h3, .ref h1, .int x0, .int x1, .int x2, .int x3, .int x4, .int x5, .int x6, .int x7])), (h1, .inr (4, [.ref h2, .int x8])), (h2, .inl (gB g, 1500, .inl fn0))] sz)) (va_Qi (fun (r : Int32) (_ : Unit) => -1 ≤ (Int32.toInt r) ∧ (Int32.toInt r) ≤ 9999 ∧ EQP (CNTL (GB fn0 (Int32.toInt x8)) (Int32.toInt x2) (Int32.toInt x1) 0) (Int32.toInt r)) (BW g (va_A [(h0, .inr (9, [.ref h3, .ref h1, .int x0, .int x1, .int x2, .int x3, .int x4, .int x5, .int x6, .int x7])), (h1, .inr (4, [.ref h2, .int x8])), (h2, .inl (gB g, 1500, .inl fn0))] sz) (fun _ : Unit => [(h0, .inr (9, [.ref h3, .ref h1, .int x0, .int x1, .int x2, .int x3, .int x4, .int x5, .int x6, .int x7])), (h1, .inr (4, [.ref h2, .int x8])), (h2, .inl (gB g, 1500, .inl fn0))])) (va_A [(h0, .inr (9, [.ref h3, .ref h1, .int x0, .int x1, .int x2, .int x3, .int x4, .int x5, .int x6, .int x7])), (h1, .inr (4, [.ref h2, .int x8])), (h2, .inl (gB g, 1500, .inl fn0))] sz)) 0 0 (va_A [(h0, .inr (9, [.ref h3, .ref h1, .int x0, .int x1, .int x2, .int x3, .int x4, .int x5, .int x6, .int x7])), (h1, .inr (4, [.ref h2, .int x8])), (h2, .inl (gB g, 1500, .inl fn0))] sz) := by
  refine met_i RX10 (by decide) rfl rfl (Nat.le_of_ble_eq_true rfl) [(0, .ref h0)] rfl ?_
  intro p e s m args below meth c A Q C hnm Rt
  have hiX10 : ∀ w ∈ wsX100, w ∈ wsX10_countOfWord := fun w h => List.mem_cons_of_mem _ (List.mem_append_left _ (List.mem_append_right _ (h)))
  refine r_iconst 0 0 C dX10_countOfWord_0 (by decide) ?_
  refine r_istore_n 1 C dX10_countOfWord_1 [(1, .int 0), (0, .ref h0)] (by decide) rfl ?_
  refine r_aload_n 2 1 C dX10_countOfWord_2 rfl ?_
  refine r_get 3 C dX10_countOfWord_3 (k := 3) 0 rfl rfl hiX10 (by decide) rfl (mg 1 rfl) (Or.inl rfl) rfl ?_
  refine r_istore_n 6 C dX10_countOfWord_6 [(2, .int x1), (1, .int 0), (0, .ref h0)] (by decide) rfl ?_
  have lp4 : ∀ (n3 : Nat) (z1 : Int32) (z2 : Int32), (0 ≤ (Int32.toInt z1) ∧ (Int32.toInt z1) ≤ 1500) → (0 ≤ (Int32.toInt z2) ∧ (Int32.toInt z2) ≤ 10000) → (EQP (CNTL (GB fn0 (Int32.toInt x8)) (Int32.toInt x2) (Int32.toInt x1) 0) (CNTL (GB fn0 (Int32.toInt x8)) (Int32.toInt x2) (Int32.toInt z1) (Int32.toInt z2))) → Int.toNat (1500 - (Int32.toInt z1)) < n3 → WW p l e ({ frames := 1, cells := 0, slots := 0, locals := 22 } : Room) s m args below meth c A Q g 4 0 0 [(h0, .inr (9, [.ref h3, .ref h1, .int x0, .int x1, .int x2, .int x3, .int x4, .int x5, .int x6, .int x7])), (h1, .inr (4, [.ref h2, .int x8])), (h2, .inl (gB g, 1500, .inl fn0))] 7 [(2, .int z1), (1, .int z2), (0, .ref h0)] [] := by
    intro n3
    induction n3 with
    | zero => intro z1 z2 i7 i8 j9 hm6; exact absurd hm6 (Nat.not_lt_zero _)
    | succ n3 ih5 =>
      intro z1 z2 i7 i8 j9 hm6
      obtain ⟨i7a, i7b⟩ := i7
      obtain ⟨i8a, i8b⟩ := i8
      refine r_iload_n 7 0 C dX10_countOfWord_7 rfl ?_
      refine r_aload_n 8 2 C dX10_countOfWord_8 rfl ?_
      refine r_get 9 C dX10_countOfWord_9 (k := 4) 0 rfl rfl hiX10 (by decide) rfl (mg 2 rfl) (Or.inl rfl) rfl ?_
      refine r_icmp_ge 12 61 C dX10_countOfWord_12 (by decide) (fun c10 => ?_) (fun c10 => ?_)
      · skip
        have k11 : (Int32.toInt x2) ≤ (Int32.toInt z1) := (fa_le x2 z1).mp c10
        refine r_iload_n 61 1 C dX10_countOfWord_61 rfl ?_
        refine r_sipush 62 10000 C dX10_countOfWord_62 (by decide) ?_
        refine r_icmp_ge 65 72 C dX10_countOfWord_65 (by decide) (fun c12 => ?_) (fun c12 => ?_)
        · skip
          have k13 : 10000 ≤ (Int32.toInt z2) := (fa_le 10000 z2).mp c12
          refine r_iconst 72 (-1) C dX10_countOfWord_72 (by decide) ?_
          exact r_iret 73 Rt dX10_countOfWord_73 () (show -1 ≤ (Int32.toInt (-1)) ∧ (Int32.toInt (-1)) ≤ 9999 ∧ EQP (CNTL (GB fn0 (Int32.toInt x8)) (Int32.toInt x2) (Int32.toInt x1) 0) (-1) from ⟨(by ((repeat' apply And.intro) <;> first | trivial | rfl | assumption | omega | decide | exact Or.inl rfl | exact Or.inr (Or.inl rfl) | exact Or.inr (Or.inr rfl))), (by ((repeat' apply And.intro) <;> first | trivial | rfl | assumption | omega | decide | exact Or.inl rfl | exact Or.inr (Or.inl rfl) | exact Or.inr (Or.inr rfl))), (by first | exact cnt_end (show EQP (CNTL (GB fn0 (Int32.toInt x8)) (Int32.toInt x2) (Int32.toInt x1) 0) (CNTL (GB fn0 (Int32.toInt x8)) (Int32.toInt x2) (Int32.toInt z1) (Int32.toInt z2)) by assumption) (by omega) (by omega))⟩) [0, 1, 2] (by decide) rfl (Nat.le_of_ble_eq_true rfl) (Nat.le_of_ble_eq_true rfl)
        · skip
          have k14 : ¬ (10000 ≤ (Int32.toInt z2)) := fun h_9 => c12 ((fa_le 10000 z2).mpr h_9)
          refine r_iload_n 68 1 C dX10_countOfWord_68 rfl ?_
          refine r_goto 69 73 C dX10_countOfWord_69 (by decide) ?_
          exact r_iret 73 Rt dX10_countOfWord_73 () (show -1 ≤ (Int32.toInt z2) ∧ (Int32.toInt z2) ≤ 9999 ∧ EQP (CNTL (GB fn0 (Int32.toInt x8)) (Int32.toInt x2) (Int32.toInt x1) 0) (Int32.toInt z2) from ⟨(by ((repeat' apply And.intro) <;> first | trivial | rfl | assumption | omega | decide | exact Or.inl rfl | exact Or.inr (Or.inl rfl) | exact Or.inr (Or.inr rfl))), (by ((repeat' apply And.intro) <;> first | trivial | rfl | assumption | omega | decide | exact Or.inl rfl | exact Or.inr (Or.inl rfl) | exact Or.inr (Or.inr rfl))), (by first | exact cnt_end (show EQP (CNTL (GB fn0 (Int32.toInt x8)) (Int32.toInt x2) (Int32.toInt x1) 0) (CNTL (GB fn0 (Int32.toInt x8)) (Int32.toInt x2) (Int32.toInt z1) (Int32.toInt z2)) by assumption) (by omega) (by omega))⟩) [0, 1, 2] (by decide) rfl (Nat.le_of_ble_eq_true rfl) (Nat.le_of_ble_eq_true rfl)
      · skip
        have k15 : ¬ ((Int32.toInt x2) ≤ (Int32.toInt z1)) := fun h_9 => c10 ((fa_le x2 z1).mpr h_9)
        refine r_aload_n 15 2 C dX10_countOfWord_15 rfl ?_
        refine r_get 16 C dX10_countOfWord_16 (k := 1) 0 rfl rfl hiX10 (by decide) rfl (mg 3 rfl) (Or.inl rfl) rfl ?_
        refine r_iload_n 19 0 C dX10_countOfWord_19 rfl ?_
        obtain ⟨z16, ez16⟩ : ∃ z_9, Int32.toInt64 z1 = z_9 := ⟨_, rfl⟩
        have tz16 : (Int64.toInt z16) = (Int32.toInt z1) := by rw [← ez16]; exact Int32.toInt_toInt64 _
        refine r_i2l 20 z16 C dX10_countOfWord_20 ez16 ?_
        refine r_callVi 21 C dX10_countOfWord_21 [] [(h1, .inr (4, [.ref h2, .int x8])), (h2, .inl (gB g, 1500, .inl fn0))] [(h0, .inr (9, [.ref h3, .ref h1, .int x0, .int x1, .int x2, .int x3, .int x4, .int x5, .int x6, .int x7]))] (fun sz => c14_X5_get l g h1 h2 z16 x8 fn0 i_x8 sz) gX10_countOfWord_X5_get rfl ⟨rfl, rfl⟩ 1 (by decide) ⟨Nat.le_of_ble_eq_true rfl, Nat.le_of_ble_eq_true rfl⟩ 1 rfl rfl [1, 2] [0] rfl rfl (by decide) (by decide) (by decide) rfl rfl (Nat.le_of_ble_eq_true rfl) ⟨Nat.le_of_ble_eq_true rfl, Nat.le_of_ble_eq_true rfl⟩ (fun r17 _ w18 => ?_)
        refine r_ws [(h0, .inr (9, [.ref h3, .ref h1, .int x0, .int x1, .int x2, .int x3, .int x4, .int x5, .int x6, .int x7])), (h1, .inr (4, [.ref h2, .int x8])), (h2, .inl (gB g, 1500, .inl fn0))] rfl ?_
        have p19 : -1 ≤ (Int32.toInt r17) := w18.1
        have p20 : (Int32.toInt r17) ≤ 255 := w18.2.1
        have p21 : HID ((0 ≤ (Int64.toInt z16) ∧ (Int64.toInt z16) < (Int32.toInt x8) ∧ r17 = (fn0 (Int.toNat (Int64.toInt z16)) &&& 255)) ∨ (((Int64.toInt z16) < 0 ∨ (Int32.toInt x8) ≤ (Int64.toInt z16)) ∧ r17 = -1)) := w18.2.2.1
        have p22 : (Int32.toInt r17) = GB fn0 (Int32.toInt x8) (Int64.toInt z16) := w18.2.2.2
        refine r_istore_n 24 C dX10_countOfWord_24 [(3, .int r17), (2, .int z1), (1, .int z2), (0, .ref h0)] (by decide) rfl ?_
        refine r_iload_n 25 0 C dX10_countOfWord_25 rfl ?_
        refine r_bipush 26 48 C dX10_countOfWord_26 (by decide) ?_
        refine r_icmp_lt 28 37 C dX10_countOfWord_28 (by decide) (fun c23 => ?_) (fun c23 => ?_)
        · skip
          have k24 : (Int32.toInt r17) < 48 := (fa_lt r17 48).mp c23
          refine r_iconst 37 (-1) C dX10_countOfWord_37 (by decide) ?_
          exact r_iret 38 Rt dX10_countOfWord_38 () (show -1 ≤ (Int32.toInt (-1)) ∧ (Int32.toInt (-1)) ≤ 9999 ∧ EQP (CNTL (GB fn0 (Int32.toInt x8)) (Int32.toInt x2) (Int32.toInt x1) 0) (-1) from ⟨(by ((repeat' apply And.intro) <;> first | trivial | rfl | assumption | omega | decide | exact Or.inl rfl | exact Or.inr (Or.inl rfl) | exact Or.inr (Or.inr rfl))), (by ((repeat' apply And.intro) <;> first | trivial | rfl | assumption | omega | decide | exact Or.inl rfl | exact Or.inr (Or.inl rfl) | exact Or.inr (Or.inr rfl))), (by first | exact cnt_end (show EQP (CNTL (GB fn0 (Int32.toInt x8)) (Int32.toInt x2) (Int32.toInt x1) 0) (CNTL (GB fn0 (Int32.toInt x8)) (Int32.toInt x2) (Int32.toInt z1) (Int32.toInt z2)) by assumption) (by omega) (by omega) | exact cnt_bad (show EQP (CNTL (GB fn0 (Int32.toInt x8)) (Int32.toInt x2) (Int32.toInt x1) 0) (CNTL (GB fn0 (Int32.toInt x8)) (Int32.toInt x2) (Int32.toInt z1) (Int32.toInt z2)) by assumption) (by omega) (gb_at p22 (by omega)) (by omega))⟩) [0, 1, 2] (by decide) rfl (Nat.le_of_ble_eq_true rfl) (Nat.le_of_ble_eq_true rfl)
        · skip
          have k25 : ¬ ((Int32.toInt r17) < 48) := fun h_9 => c23 ((fa_lt r17 48).mpr h_9)
          refine r_iload_n 31 0 C dX10_countOfWord_31 rfl ?_
          refine r_bipush 32 57 C dX10_countOfWord_32 (by decide) ?_
          refine r_icmp_le 34 39 C dX10_countOfWord_34 (by decide) (fun c26 => ?_) (fun c26 => ?_)
          · skip
            have k27 : (Int32.toInt r17) ≤ 57 := (fa_le r17 57).mp c26
            refine r_iload_n 39 2 C dX10_countOfWord_39 rfl ?_
            refine r_bipush 40 10 C dX10_countOfWord_40 (by decide) ?_
            obtain ⟨z28, ez28⟩ : ∃ z_9, z2 * 10 = z_9 := ⟨_, rfl⟩
            have tz28 : (Int32.toInt z28) = (Int32.toInt z2) * 10 := by rw [← ez28]; exact fb_mulIv (a := 0) (b := 10000) (c := 10) ⟨i8a, i8b⟩ (by decide) (by decide) (by decide) (by decide)
            refine r_imul 42 z28 C dX10_countOfWord_42 ez28 ?_
            refine r_iload_n 43 0 C dX10_countOfWord_43 rfl ?_
            obtain ⟨z29, ez29⟩ : ∃ z_9, z28 + r17 = z_9 := ⟨_, rfl⟩
            have tz29 : (Int32.toInt z29) = (Int32.toInt z28) + (Int32.toInt r17) := by rw [← ez29]; exact fb_addIv (a := 0) (b := 100000) (c := (-1)) (d := 255) (iv_mul (a := 0) (b := 10000) (c := 10) ⟨i8a, i8b⟩ (by decide) tz28) ⟨p19, p20⟩ (by decide) (by decide)
            refine r_iadd 44 z29 C dX10_countOfWord_44 ez29 ?_
            refine r_bipush 45 48 C dX10_countOfWord_45 (by decide) ?_
            obtain ⟨z30, ez30⟩ : ∃ z_9, z29 - 48 = z_9 := ⟨_, rfl⟩
            have tz30 : (Int32.toInt z30) = (Int32.toInt z29) - 48 := by rw [← ez30]; exact fb_subIv (a := (-1)) (b := 100255) (c := 48) (d := 48) (iv_wide (c := (-1)) (d := 100255) (iv_add (a := 0) (b := 100000) (c := (-1)) (d := 255) (iv_mul (a := 0) (b := 10000) (c := 10) ⟨i8a, i8b⟩ (by decide) tz28) ⟨p19, p20⟩ tz29) (by decide) (by decide)) ⟨by decide, by decide⟩ (by decide) (by decide)
            refine r_isub 47 z30 C dX10_countOfWord_47 ez30 ?_
            refine r_sipush 48 10000 C dX10_countOfWord_48 (by decide) ?_
            obtain ⟨z31, ez31⟩ : ∃ z_9, (if 10000 < z30 then 10000 else z30) = z_9 := ⟨_, rfl⟩
            have tz31 : (10000 < (Int32.toInt z30) ∧ (Int32.toInt z31) = 10000) ∨ (¬ (10000 < (Int32.toInt z30)) ∧ (Int32.toInt z31) = (Int32.toInt z30)) := by rw [← ez31]; exact mx_or 10000 z30 10000 z30
            refine r_mmin 51 z31 C dX10_countOfWord_51 (mg 4 rfl) (mg 5 rfl) (mg 6 rfl) (mg 7 rfl) (Nat.le_of_ble_eq_true rfl) (Nat.le_of_ble_eq_true rfl) (Nat.le_of_ble_eq_true rfl) (Nat.le_of_ble_eq_true rfl) ez31 ?_
            refine r_istore_n 54 C dX10_countOfWord_54 [(1, .int z31), (3, .int r17), (2, .int z1), (0, .ref h0)] (by decide) rfl ?_
            obtain ⟨z32, ez32⟩ : ∃ z_9, z1 + Int32.ofInt 1 = z_9 := ⟨_, rfl⟩
            have tz32 : (Int32.toInt z32) = (Int32.toInt z1) + 1 := by rw [← ez32]; exact fb_addIv (a := 0) (b := 1500) (c := 1) (d := 1) ⟨i7a, i7b⟩ ⟨by decide, by decide⟩ (by decide) (by decide)
            refine r_iinc 55 2 z32 C dX10_countOfWord_55 rfl ez32 [(2, .int z32), (1, .int z31), (3, .int r17), (0, .ref h0)] (by decide) rfl ?_
            refine r_goto 58 7 C dX10_countOfWord_58 (by decide) ?_
            refine r_lv [(2, .int z32), (1, .int z31), (0, .ref h0)] [0, 1, 3] rfl ?_
            exact ih5 z32 z31 ⟨by omega, by omega⟩ ⟨by omega, by omega⟩ (cnt_step (show EQP (CNTL (GB fn0 (Int32.toInt x8)) (Int32.toInt x2) (Int32.toInt x1) 0) (CNTL (GB fn0 (Int32.toInt x8)) (Int32.toInt x2) (Int32.toInt z1) (Int32.toInt z2)) by assumption) (by omega) (gb_at p22 (by omega)) (by omega) (by omega) (by omega)) (by omega)
          · skip
            have k33 : ¬ ((Int32.toInt r17) ≤ 57) := fun h_9 => c26 ((fa_le r17 57).mpr h_9)
            refine r_iconst 37 (-1) C dX10_countOfWord_37 (by decide) ?_
            exact r_iret 38 Rt dX10_countOfWord_38 () (show -1 ≤ (Int32.toInt (-1)) ∧ (Int32.toInt (-1)) ≤ 9999 ∧ EQP (CNTL (GB fn0 (Int32.toInt x8)) (Int32.toInt x2) (Int32.toInt x1) 0) (-1) from ⟨(by ((repeat' apply And.intro) <;> first | trivial | rfl | assumption | omega | decide | exact Or.inl rfl | exact Or.inr (Or.inl rfl) | exact Or.inr (Or.inr rfl))), (by ((repeat' apply And.intro) <;> first | trivial | rfl | assumption | omega | decide | exact Or.inl rfl | exact Or.inr (Or.inl rfl) | exact Or.inr (Or.inr rfl))), (by first | exact cnt_end (show EQP (CNTL (GB fn0 (Int32.toInt x8)) (Int32.toInt x2) (Int32.toInt x1) 0) (CNTL (GB fn0 (Int32.toInt x8)) (Int32.toInt x2) (Int32.toInt z1) (Int32.toInt z2)) by assumption) (by omega) (by omega) | exact cnt_bad (show EQP (CNTL (GB fn0 (Int32.toInt x8)) (Int32.toInt x2) (Int32.toInt x1) 0) (CNTL (GB fn0 (Int32.toInt x8)) (Int32.toInt x2) (Int32.toInt z1) (Int32.toInt z2)) by assumption) (by omega) (gb_at p22 (by omega)) (by omega))⟩) [0, 1, 2] (by decide) rfl (Nat.le_of_ble_eq_true rfl) (Nat.le_of_ble_eq_true rfl)
  exact lp4 _ x1 0 i_x1 (by decide) (by exact rfl) (Nat.lt_succ_self _)
set_option maxHeartbeats 4000000 in
set_option maxRecDepth 100000 in
theorem c154_X10_takeCount (l : Launch) (g : GD) (h0 : Nat) (h1 : Nat) (h2 : Nat) (h3 : Nat) (x0 : Int32) (x1 : Int32) (x2 : Int32) (x3 : Int32) (x4 : Int32) (x5 : Int32) (x6 : Int32) (x7 : Int32) (x8 : Int32) (fn0 : Nat → Int32) (i_x0 : (0 ≤ (Int32.toInt x0) ∧ (Int32.toInt x0) ≤ 1500)) (i_x1 : (0 ≤ (Int32.toInt x1) ∧ (Int32.toInt x1) ≤ 1500)) (i_x2 : (0 ≤ (Int32.toInt x2) ∧ (Int32.toInt x2) ≤ 1500)) (i_x3 : (-1 ≤ (Int32.toInt x3) ∧ (Int32.toInt x3) ≤ 9999)) (i_x4 : (0 ≤ (Int32.toInt x4) ∧ (Int32.toInt x4) ≤ 1)) (i_x5 : (-1 ≤ (Int32.toInt x5) ∧ (Int32.toInt x5) ≤ 9999)) (i_x6 : (0 ≤ (Int32.toInt x6) ∧ (Int32.toInt x6) ≤ 1500)) (i_x7 : (0 ≤ (Int32.toInt x7) ∧ (Int32.toInt x7) ≤ 1500)) (i_x8 : (0 ≤ (Int32.toInt x8) ∧ (Int32.toInt x8) ≤ 1500)) (sz : Nat) : Met l yX10_takeCount wsX10_takeCount ({ frames := 2, cells := 0, slots := 0, locals := 45 }) (va_Pc [.ref h0] (PW g [(h0, .inr (9, [.ref h3, .ref h1, .int x0, .int x1, .int x2, .int x3, .int x4, .int x5, .int x6, .int x7])), (h1, .inr (4, [.ref h2, .int x8])), (h2, .inl (gB g, 1500, .inl fn0))] sz)) (va_Qi (fun (r : Int32) (u : (Int32) × (Int32) × (Int32) × (Int32)) => 0 ≤ (Int32.toInt r) ∧ (Int32.toInt r) ≤ 2 ∧ 0 ≤ (Int32.toInt (u.1)) ∧ (Int32.toInt (u.1)) ≤ 1500 ∧ 0 ≤ (Int32.toInt (u.2.1)) ∧ (Int32.toInt (u.2.1)) ≤ 1500 ∧ 0 ≤ (Int32.toInt (u.2.2.1)) ∧ (Int32.toInt (u.2.2.1)) ≤ 1500 ∧ -1 ≤ (Int32.toInt (u.2.2.2)) ∧ (Int32.toInt (u.2.2.2)) ≤ 9999 ∧ SEQ 0 (Int32.toInt r) (TLD (GB fn0 (Int32.toInt x8)) (Int32.toInt x8) (Int32.toInt x0)) (fun v => v = ((Int32.toInt (u.2.2.2)), (Int32.toInt (u.1)))) ∧ (¬ ((Int32.toInt r) = 0) ∨ ((Int32.toInt x0) < (Int32.toInt (u.1)) ∧ (Int32.toInt (u.1)) ≤ (Int32.toInt x8) ∧ 0 ≤ (Int32.toInt (u.2.2.2)))) ∧ (Int32.toInt x0) ≤ (Int32.toInt (u.1))) (BW g (va_A [(h0, .inr (9, [.ref h3, .ref h1, .int x0, .int x1, .int x2, .int x3, .int x4, .int x5, .int x6, .int x7])), (h1, .inr (4, [.ref h2, .int x8])), (h2, .inl (gB g, 1500, .inl fn0))] sz) (fun u : (Int32) × (Int32) × (Int32) × (Int32) => [(h0, .inr (9, [.ref h3, .ref h1, .int u.1, .int u.2.1, .int u.2.2.1, .int x3, .int x4, .int u.2.2.2, .int x6, .int x7])), (h1, .inr (4, [.ref h2, .int x8])), (h2, .inl (gB g, 1500, .inl fn0))])) (va_A [(h0, .inr (9, [.ref h3, .ref h1, .int x0, .int x1, .int x2, .int x3, .int x4, .int x5, .int x6, .int x7])), (h1, .inr (4, [.ref h2, .int x8])), (h2, .inl (gB g, 1500, .inl fn0))] sz)) 0 0 (va_A [(h0, .inr (9, [.ref h3, .ref h1, .int x0, .int x1, .int x2, .int x3, .int x4, .int x5, .int x6, .int x7])), (h1, .inr (4, [.ref h2, .int x8])), (h2, .inl (gB g, 1500, .inl fn0))] sz) := by
  refine met_i RX10 (by decide) rfl rfl (Nat.le_of_ble_eq_true rfl) [(0, .ref h0)] rfl ?_
  intro p e s m args below meth c A Q C hnm Rt
  have hiX10 : ∀ w ∈ wsX100, w ∈ wsX10_takeCount := fun w h => List.mem_cons_of_mem _ (List.mem_append_left _ (List.mem_append_right _ (h)))
  refine r_aload_n 0 0 C dX10_takeCount_0 rfl ?_
  refine r_callVi 1 C dX10_takeCount_1 [] [(h0, .inr (9, [.ref h3, .ref h1, .int x0, .int x1, .int x2, .int x3, .int x4, .int x5, .int x6, .int x7])), (h1, .inr (4, [.ref h2, .int x8])), (h2, .inl (gB g, 1500, .inl fn0))] [] (fun sz => c115_X10_takeWord l g h0 h1 h2 h3 x0 x1 x2 x3 x4 x5 x6 x7 x8 fn0 i_x0 i_x1 i_x2 i_x3 i_x4 i_x5 i_x6 i_x7 i_x8 sz) gX10_takeCount_X10_takeWord rfl ⟨rfl, rfl⟩ 0 (by decide) ⟨Nat.le_of_ble_eq_true rfl, Nat.le_of_ble_eq_true rfl⟩ 0 rfl rfl [0, 1, 2] [] rfl rfl (by decide) (by decide) (by decide) rfl rfl (Nat.le_of_ble_eq_true rfl) ⟨Nat.le_of_ble_eq_true rfl, Nat.le_of_ble_eq_true rfl⟩ (fun r4 u6 w5 => ?_)
  obtain ⟨z1, z2, z3⟩ := u6
  refine r_ws [(h0, .inr (9, [.ref h3, .ref h1, .int z1, .int z2, .int z3, .int x3, .int x4, .int x5, .int x6, .int x7])), (h1, .inr (4, [.ref h2, .int x8])), (h2, .inl (gB g, 1500, .inl fn0))] rfl ?_
  have p7 : 0 ≤ (Int32.toInt r4) := w5.1
  have p8 : (Int32.toInt r4) ≤ 1 := w5.2.1
  have p9 : 0 ≤ (Int32.toInt z1) := w5.2.2.1
  have p10 : (Int32.toInt z1) ≤ 1500 := w5.2.2.2.1
  have p11 : 0 ≤ (Int32.toInt z2) := w5.2.2.2.2.1
  have p12 : (Int32.toInt z2) ≤ 1500 := w5.2.2.2.2.2.1
  have p13 : 0 ≤ (Int32.toInt z3) := w5.2.2.2.2.2.2.1
  have p14 : (Int32.toInt z3) ≤ 1500 := w5.2.2.2.2.2.2.2.1
  have p15 : BSQ (Int32.toInt r4) (WRD (GB fn0 (Int32.toInt x8)) (Int32.toInt x8) (Int32.toInt x0)) (fun w => w = ((Int32.toInt z2), (Int32.toInt z3))) := w5.2.2.2.2.2.2.2.2.1
  have p16 : ((Int32.toInt z1) = (Int32.toInt z3) ∧ (Int32.toInt x0) ≤ (Int32.toInt z2) ∧ (Int32.toInt z2) ≤ (Int32.toInt z3) ∧ (((Int32.toInt r4) = 1 ∧ (Int32.toInt z2) < (Int32.toInt z3) ∧ (Int32.toInt z3) ≤ (Int32.toInt x8)) ∨ (Int32.toInt r4) = 0)) := w5.2.2.2.2.2.2.2.2.2
  refine r_if_ne 4 9 C dX10_takeCount_4 (by decide) (fun c17 => ?_) (fun c17 => ?_)
  · skip
    have k18 : ¬ ((Int32.toInt r4) = 0) := fun h_9 => c17 ((fa_eq r4 0).mpr h_9)
    refine r_aload_n 9 0 C dX10_takeCount_9 rfl ?_
    refine r_aload_n 10 0 C dX10_takeCount_10 rfl ?_
    refine r_callVi 11 C dX10_takeCount_11 [.ref h0] [(h0, .inr (9, [.ref h3, .ref h1, .int z1, .int z2, .int z3, .int x3, .int x4, .int x5, .int x6, .int x7])), (h1, .inr (4, [.ref h2, .int x8])), (h2, .inl (gB g, 1500, .inl fn0))] [] (fun sz => c153_X10_countOfWord l g h0 h1 h2 h3 z1 z2 z3 x3 x4 x5 x6 x7 x8 fn0 ⟨p9, p10⟩ ⟨p11, p12⟩ ⟨p13, p14⟩ i_x3 i_x4 i_x5 i_x6 i_x7 i_x8 sz) gX10_takeCount_X10_countOfWord rfl ⟨rfl, rfl⟩ 0 (by decide) ⟨Nat.le_of_ble_eq_true rfl, Nat.le_of_ble_eq_true rfl⟩ 0 rfl rfl [0, 1, 2] [] rfl rfl (by decide) (by decide) (by decide) rfl rfl (Nat.le_of_ble_eq_true rfl) ⟨Nat.le_of_ble_eq_true rfl, Nat.le_of_ble_eq_true rfl⟩ (fun r19 _ w20 => ?_)
    refine r_ws [(h0, .inr (9, [.ref h3, .ref h1, .int z1, .int z2, .int z3, .int x3, .int x4, .int x5, .int x6, .int x7])), (h1, .inr (4, [.ref h2, .int x8])), (h2, .inl (gB g, 1500, .inl fn0))] rfl ?_
    have p21 : -1 ≤ (Int32.toInt r19) := w20.1
    have p22 : (Int32.toInt r19) ≤ 9999 := w20.2.1
    have p23 : EQP (CNTL (GB fn0 (Int32.toInt x8)) (Int32.toInt z3) (Int32.toInt z2) 0) (Int32.toInt r19) := w20.2.2
    refine r_put 14 C dX10_takeCount_14 (k := 7) 0 rfl rfl hiX10 tyX10 tyX10_ok nmX10 (by decide) rfl (mg 1 rfl) (Or.inl rfl) rfl rfl rfl rfl (Nat.le_of_ble_eq_true rfl) [(h0, .inr (9, [.ref h3, .ref h1, .int z1, .int z2, .int z3, .int x3, .int x4, .int r19, .int x6, .int x7])), (h1, .inr (4, [.ref h2, .int x8])), (h2, .inl (gB g, 1500, .inl fn0))] rfl ?_
    refine r_aload_n 17 0 C dX10_takeCount_17 rfl ?_
    refine r_get 18 C dX10_takeCount_18 (k := 7) 0 rfl rfl hiX10 (by decide) rfl (mg 1 rfl) (Or.inl rfl) rfl ?_
    refine r_iconst 21 (-1) C dX10_takeCount_21 (by decide) ?_
    refine r_icmp_ne 22 29 C dX10_takeCount_22 (by decide) (fun c24 => ?_) (fun c24 => ?_)
    · skip
      have k25 : ¬ ((Int32.toInt r19) = (-1)) := fun h_9 => c24 ((fa_eq r19 (-1)).mpr h_9)
      refine r_iconst 29 0 C dX10_takeCount_29 (by decide) ?_
      exact r_iret 30 Rt dX10_takeCount_30 (z1, z2, z3, r19) (show 0 ≤ (Int32.toInt 0) ∧ (Int32.toInt 0) ≤ 2 ∧ 0 ≤ (Int32.toInt z1) ∧ (Int32.toInt z1) ≤ 1500 ∧ 0 ≤ (Int32.toInt z2) ∧ (Int32.toInt z2) ≤ 1500 ∧ 0 ≤ (Int32.toInt z3) ∧ (Int32.toInt z3) ≤ 1500 ∧ -1 ≤ (Int32.toInt r19) ∧ (Int32.toInt r19) ≤ 9999 ∧ SEQ 0 0 (TLD (GB fn0 (Int32.toInt x8)) (Int32.toInt x8) (Int32.toInt x0)) (fun v => v = ((Int32.toInt r19), (Int32.toInt z1))) ∧ (¬ (0 = 0) ∨ ((Int32.toInt x0) < (Int32.toInt z1) ∧ (Int32.toInt z1) ≤ (Int32.toInt x8) ∧ 0 ≤ (Int32.toInt r19))) ∧ (Int32.toInt x0) ≤ (Int32.toInt z1) from ⟨(by ((repeat' apply And.intro) <;> first | trivial | rfl | assumption | omega | decide | exact Or.inl rfl | exact Or.inr (Or.inl rfl) | exact Or.inr (Or.inr rfl))), (by ((repeat' apply And.intro) <;> first | trivial | rfl | assumption | omega | decide | exact Or.inl rfl | exact Or.inr (Or.inl rfl) | exact Or.inr (Or.inr rfl))), (show _ ∧ _ from ⟨p9, p10⟩).1, (show _ ∧ _ from ⟨p9, p10⟩).2, (show _ ∧ _ from ⟨p11, p12⟩).1, (show _ ∧ _ from ⟨p11, p12⟩).2, (show _ ∧ _ from ⟨p13, p14⟩).1, (show _ ∧ _ from ⟨p13, p14⟩).2, (show _ ∧ _ from ⟨p21, p22⟩).1, (show _ ∧ _ from ⟨p21, p22⟩).2, (by exact tld_pf p15 (by omega) p23 (by omega) (by omega)), (by ((repeat' apply And.intro) <;> first | trivial | rfl | assumption | omega | decide | exact Or.inl rfl | exact Or.inr (Or.inl rfl) | exact Or.inr (Or.inr rfl))), (by ((repeat' apply And.intro) <;> first | trivial | rfl | assumption | omega | decide | exact Or.inl rfl | exact Or.inr (Or.inl rfl) | exact Or.inr (Or.inr rfl)))⟩) [0, 1, 2] (by decide) rfl (Nat.le_of_ble_eq_true rfl) (Nat.le_of_ble_eq_true rfl)
    · skip
      have k26 : (Int32.toInt r19) = (-1) := (fa_eq r19 (-1)).mp c24
      refine r_iconst 25 2 C dX10_takeCount_25 (by decide) ?_
      refine r_goto 26 30 C dX10_takeCount_26 (by decide) ?_
      exact r_iret 30 Rt dX10_takeCount_30 (z1, z2, z3, r19) (show 0 ≤ (Int32.toInt 2) ∧ (Int32.toInt 2) ≤ 2 ∧ 0 ≤ (Int32.toInt z1) ∧ (Int32.toInt z1) ≤ 1500 ∧ 0 ≤ (Int32.toInt z2) ∧ (Int32.toInt z2) ≤ 1500 ∧ 0 ≤ (Int32.toInt z3) ∧ (Int32.toInt z3) ≤ 1500 ∧ -1 ≤ (Int32.toInt r19) ∧ (Int32.toInt r19) ≤ 9999 ∧ SEQ 0 2 (TLD (GB fn0 (Int32.toInt x8)) (Int32.toInt x8) (Int32.toInt x0)) (fun v => v = ((Int32.toInt r19), (Int32.toInt z1))) ∧ (¬ (2 = 0) ∨ ((Int32.toInt x0) < (Int32.toInt z1) ∧ (Int32.toInt z1) ≤ (Int32.toInt x8) ∧ 0 ≤ (Int32.toInt r19))) ∧ (Int32.toInt x0) ≤ (Int32.toInt z1) from ⟨(by ((repeat' apply And.intro) <;> first | trivial | rfl | assumption | omega | decide | exact Or.inl rfl | exact Or.inr (Or.inl rfl) | exact Or.inr (Or.inr rfl))), (by ((repeat' apply And.intro) <;> first | trivial | rfl | assumption | omega | decide | exact Or.inl rfl | exact Or.inr (Or.inl rfl) | exact Or.inr (Or.inr rfl))), (show _ ∧ _ from ⟨p9, p10⟩).1, (show _ ∧ _ from ⟨p9, p10⟩).2, (show _ ∧ _ from ⟨p11, p12⟩).1, (show _ ∧ _ from ⟨p11, p12⟩).2, (show _ ∧ _ from ⟨p13, p14⟩).1, (show _ ∧ _ from ⟨p13, p14⟩).2, (show _ ∧ _ from ⟨p21, p22⟩).1, (show _ ∧ _ from ⟨p21, p22⟩).2, (by exact tld_pf p15 (by omega) p23 (by omega) (by omega)), (by ((repeat' apply And.intro) <;> first | trivial | rfl | assumption | omega | decide | exact Or.inl rfl | exact Or.inr (Or.inl rfl) | exact Or.inr (Or.inr rfl))), (by ((repeat' apply And.intro) <;> first | trivial | rfl | assumption | omega | decide | exact Or.inl rfl | exact Or.inr (Or.inl rfl) | exact Or.inr (Or.inr rfl)))⟩) [0, 1, 2] (by decide) rfl (Nat.le_of_ble_eq_true rfl) (Nat.le_of_ble_eq_true rfl)
  · skip
    have k27 : (Int32.toInt r4) = 0 := (fa_eq r4 0).mp c17
    refine r_iconst 7 1 C dX10_takeCount_7 (by decide) ?_
    exact r_iret 8 Rt dX10_takeCount_8 (z1, z2, z3, x5) (show 0 ≤ (Int32.toInt 1) ∧ (Int32.toInt 1) ≤ 2 ∧ 0 ≤ (Int32.toInt z1) ∧ (Int32.toInt z1) ≤ 1500 ∧ 0 ≤ (Int32.toInt z2) ∧ (Int32.toInt z2) ≤ 1500 ∧ 0 ≤ (Int32.toInt z3) ∧ (Int32.toInt z3) ≤ 1500 ∧ -1 ≤ (Int32.toInt x5) ∧ (Int32.toInt x5) ≤ 9999 ∧ SEQ 0 1 (TLD (GB fn0 (Int32.toInt x8)) (Int32.toInt x8) (Int32.toInt x0)) (fun v => v = ((Int32.toInt x5), (Int32.toInt z1))) ∧ (¬ (1 = 0) ∨ ((Int32.toInt x0) < (Int32.toInt z1) ∧ (Int32.toInt z1) ≤ (Int32.toInt x8) ∧ 0 ≤ (Int32.toInt x5))) ∧ (Int32.toInt x0) ≤ (Int32.toInt z1) from ⟨(by ((repeat' apply And.intro) <;> first | trivial | rfl | assumption | omega | decide | exact Or.inl rfl | exact Or.inr (Or.inl rfl) | exact Or.inr (Or.inr rfl))), (by ((repeat' apply And.intro) <;> first | trivial | rfl | assumption | omega | decide | exact Or.inl rfl | exact Or.inr (Or.inl rfl) | exact Or.inr (Or.inr rfl))), (show _ ∧ _ from ⟨p9, p10⟩).1, (show _ ∧ _ from ⟨p9, p10⟩).2, (show _ ∧ _ from ⟨p11, p12⟩).1, (show _ ∧ _ from ⟨p11, p12⟩).2, (show _ ∧ _ from ⟨p13, p14⟩).1, (show _ ∧ _ from ⟨p13, p14⟩).2, i_x5.1, i_x5.2, (by exact bsq_no p15 (by omega) (by omega)), (by ((repeat' apply And.intro) <;> first | trivial | rfl | assumption | omega | decide | exact Or.inl rfl | exact Or.inr (Or.inl rfl) | exact Or.inr (Or.inr rfl))), (by ((repeat' apply And.intro) <;> first | trivial | rfl | assumption | omega | decide | exact Or.inl rfl | exact Or.inr (Or.inl rfl) | exact Or.inr (Or.inr rfl)))⟩) [0, 1, 2] (by decide) rfl (Nat.le_of_ble_eq_true rfl) (Nat.le_of_ble_eq_true rfl)
set_option maxHeartbeats 4000000 in
set_option maxRecDepth 100000 in
theorem c155_J0_coder_7d493 (l : Launch) (g : GD) (sz : Nat) : Met l yJ0_coder_7d493 wsJ0_coder_7d493 ({ frames := 0, cells := 0, slots := 0, locals := 0 }) (va_Pc [.ref (g.2.2.1 9)] (PW g [] sz)) (va_Qi (fun (r : Int32) (_ : Unit) => r = 0) (BW g (va_A [] sz) (fun _ : Unit => [])) (va_A [] sz)) 0 0 (va_A [] sz) := by
  refine met_b RJ0 (by decide) rfl rfl (Nat.le_of_ble_eq_true rfl) [(0, .ref (g.2.2.1 9))] rfl ?_
  intro p e s m args below meth c A Q C hnm Rt
  refine r_gets 0 C dJ0_coder_7d493_0 C.2.2.2.2.2.1.2.2.2.2.1 (mg 1 rfl) ?_
  refine r_if_eq_f 3 13 C dJ0_coder_7d493_3 (by decide) (by decide) ?_
  refine r_aload_n 6 0 C dJ0_coder_7d493_6 rfl ?_
  refine r_sget 7 9 C dJ0_coder_7d493_7 ((C.2.2.2.2.2.1.2.2.1.1 9 (by decide)).2.1) (mg 2 rfl) ?_
  refine r_goto 10 14 C dJ0_coder_7d493_10 (by decide) ?_
  exact r_bret 14 Rt dJ0_coder_7d493_14 (by decide) () (show 0 = 0 from (by ((repeat' apply And.intro) <;> first | trivial | rfl | assumption | omega | decide | exact Or.inl rfl | exact Or.inr (Or.inl rfl) | exact Or.inr (Or.inr rfl)))) [] (by decide) rfl (Nat.le_of_ble_eq_true rfl) (Nat.le_of_ble_eq_true rfl)
set_option maxHeartbeats 4000000 in
set_option maxRecDepth 100000 in
theorem c156_J0_length_8abf5 (l : Launch) (g : GD) (sz : Nat) : Met l yJ0_length_8abf5 wsJ0_length_8abf5 ({ frames := 1, cells := 0, slots := 0, locals := 20 }) (va_Pc [.ref (g.2.2.1 9)] (PW g [] sz)) (va_Qi (fun (r : Int32) (_ : Unit) => r = 2) (BW g (va_A [] sz) (fun _ : Unit => [])) (va_A [] sz)) 0 0 (va_A [] sz) := by
  refine met_i RJ0 (by decide) rfl rfl (Nat.le_of_ble_eq_true rfl) [(0, .ref (g.2.2.1 9))] rfl ?_
  intro p e s m args below meth c A Q C hnm Rt
  refine r_aload_n 0 0 C dJ0_length_8abf5_0 rfl ?_
  refine r_sget 1 9 C dJ0_length_8abf5_1 ((C.2.2.2.2.2.1.2.2.1.1 9 (by decide)).2.2.1) (mg 1 rfl) ?_
  refine r_stlen 4 2 C dJ0_length_8abf5_4 ((C.2.2.2.2.2.1.2.2.1.1 9 (by decide)).2.2.2) (by decide) ?_
  refine r_aload_n 5 0 C dJ0_length_8abf5_5 rfl ?_
  refine r_scallVi 6 C dJ0_length_8abf5_6 [.int 2] 9 (by decide) [] [] (fun sz => c155_J0_coder_7d493 l g   sz) gJ0_length_8abf5_J0_coder_7d493 rfl ⟨rfl, rfl⟩ 0 (by decide) ⟨Nat.le_of_ble_eq_true rfl, Nat.le_of_ble_eq_true rfl⟩ [] [] rfl rfl (by decide) (by decide) (by decide) rfl rfl (Nat.le_of_ble_eq_true rfl) ⟨Nat.le_of_ble_eq_true rfl, Nat.le_of_ble_eq_true rfl⟩ (fun r1 _ w2 => ?_)
  refine r_ws [] rfl ?_
  have p3 : 0 = r1 := (w2).symm
  subst p3
  refine r_ishr 9 2 C dJ0_length_8abf5_9 (by decide) ?_
  exact r_iret 10 Rt dJ0_length_8abf5_10 () (show 2 = 2 from (by ((repeat' apply And.intro) <;> first | trivial | rfl | assumption | omega | decide | exact Or.inl rfl | exact Or.inr (Or.inl rfl) | exact Or.inr (Or.inr rfl)))) [] (by decide) rfl (Nat.le_of_ble_eq_true rfl) (Nat.le_of_ble_eq_true rfl)
set_option maxHeartbeats 4000000 in
set_option maxRecDepth 100000 in
theorem c157_J0_isLatin1_aae02 (l : Launch) (g : GD) (sz : Nat) : Met l yJ0_isLatin1_aae02 wsJ0_isLatin1_aae02 ({ frames := 0, cells := 0, slots := 0, locals := 0 }) (va_Pc [.ref (g.2.2.1 9)] (PW g [] sz)) (va_Qi (fun (r : Int32) (_ : Unit) => r = 1) (BW g (va_A [] sz) (fun _ : Unit => [])) (va_A [] sz)) 0 0 (va_A [] sz) := by
  refine met_z RJ0 (by decide) rfl rfl (Nat.le_of_ble_eq_true rfl) [(0, .ref (g.2.2.1 9))] rfl ?_
  intro p e s m args below meth c A Q C hnm Rt
  refine r_gets 0 C dJ0_isLatin1_aae02_0 C.2.2.2.2.2.1.2.2.2.2.1 (mg 1 rfl) ?_
  refine r_if_eq_f 3 17 C dJ0_isLatin1_aae02_3 (by decide) (by decide) ?_
  refine r_aload_n 6 0 C dJ0_isLatin1_aae02_6 rfl ?_
  refine r_sget 7 9 C dJ0_isLatin1_aae02_7 ((C.2.2.2.2.2.1.2.2.1.1 9 (by decide)).2.1) (mg 2 rfl) ?_
  refine r_if_ne_f 10 17 C dJ0_isLatin1_aae02_10 (by decide) (by decide) ?_
  refine r_iconst 13 1 C dJ0_isLatin1_aae02_13 (by decide) ?_
  refine r_goto 14 18 C dJ0_isLatin1_aae02_14 (by decide) ?_
  exact r_zret 18 Rt dJ0_isLatin1_aae02_18 (by decide) () (show 1 = 1 from (by ((repeat' apply And.intro) <;> first | trivial | rfl | assumption | omega | decide | exact Or.inl rfl | exact Or.inr (Or.inl rfl) | exact Or.inr (Or.inr rfl)))) [] (by decide) rfl (Nat.le_of_ble_eq_true rfl) (Nat.le_of_ble_eq_true rfl)
set_option maxHeartbeats 4000000 in
set_option maxRecDepth 100000 in
theorem c158_J3_checkIndex_8e157 (l : Launch) (g : GD) (x0 : Int32) (i_x0 : (0 ≤ (Int32.toInt x0) ∧ (Int32.toInt x0) ≤ 1)) (sz : Nat) : Met l yJ3_checkIndex_8e157 wsJ3_checkIndex_8e157 ({ frames := 0, cells := 0, slots := 0, locals := 0 }) (va_Pc [.int x0, .int 2, .null] (PW g [] sz)) (va_Qi (fun (r : Int32) (_ : Unit) => r = x0) (BW g (va_A [] sz) (fun _ : Unit => [])) (va_A [] sz)) 0 0 (va_A [] sz) := by
  refine met_i RJ3 (by decide) rfl rfl (Nat.le_of_ble_eq_true rfl) [(0, .int x0), (1, .int 2), (2, .null)] rfl ?_
  intro p e s m args below meth c A Q C hnm Rt
  refine r_iload_n 0 0 C dJ3_checkIndex_8e157_0 rfl ?_
  refine r_if_lt_f 1 9 C dJ3_checkIndex_8e157_1 (by decide) (fun h_9 => by have h_8 : (Int32.toInt x0) < 0 := (fa_lt x0 0).mp h_9; omega) ?_
  refine r_iload_n 4 0 C dJ3_checkIndex_8e157_4 rfl ?_
  refine r_iload_n 5 1 C dJ3_checkIndex_8e157_5 rfl ?_
  refine r_icmp_lt_t 6 16 C dJ3_checkIndex_8e157_6 (by decide) ((fa_lt x0 2).mpr (by show (Int32.toInt x0) < 2; omega)) ?_
  refine r_iload_n 16 0 C dJ3_checkIndex_8e157_16 rfl ?_
  exact r_iret 17 Rt dJ3_checkIndex_8e157_17 () (show x0 = x0 from (by ((repeat' apply And.intro) <;> first | trivial | rfl | assumption | omega | decide | exact Or.inl rfl | exact Or.inr (Or.inl rfl) | exact Or.inr (Or.inr rfl)))) [] (by decide) rfl (Nat.le_of_ble_eq_true rfl) (Nat.le_of_ble_eq_true rfl)
set_option maxHeartbeats 4000000 in
set_option maxRecDepth 100000 in
theorem c159_J3_checkIndex_8e157 (l : Launch) (g : GD) (x0 : Int32) (h0 : Nat) (i_x0 : (0 ≤ (Int32.toInt x0) ∧ (Int32.toInt x0) ≤ 1)) (sz : Nat) : Met l yJ3_checkIndex_8e157 wsJ3_checkIndex_8e157 ({ frames := 0, cells := 0, slots := 0, locals := 0 }) (va_Pc [.int x0, .int 2, .ref h0] (PW g [] sz)) (va_Qi (fun (r : Int32) (_ : Unit) => r = x0) (BW g (va_A [] sz) (fun _ : Unit => [])) (va_A [] sz)) 0 0 (va_A [] sz) := by
  refine met_i RJ3 (by decide) rfl rfl (Nat.le_of_ble_eq_true rfl) [(0, .int x0), (1, .int 2), (2, .ref h0)] rfl ?_
  intro p e s m args below meth c A Q C hnm Rt
  refine r_iload_n 0 0 C dJ3_checkIndex_8e157_0 rfl ?_
  refine r_if_lt_f 1 9 C dJ3_checkIndex_8e157_1 (by decide) (fun h_9 => by have h_8 : (Int32.toInt x0) < 0 := (fa_lt x0 0).mp h_9; omega) ?_
  refine r_iload_n 4 0 C dJ3_checkIndex_8e157_4 rfl ?_
  refine r_iload_n 5 1 C dJ3_checkIndex_8e157_5 rfl ?_
  refine r_icmp_lt_t 6 16 C dJ3_checkIndex_8e157_6 (by decide) ((fa_lt x0 2).mpr (by show (Int32.toInt x0) < 2; omega)) ?_
  refine r_iload_n 16 0 C dJ3_checkIndex_8e157_16 rfl ?_
  exact r_iret 17 Rt dJ3_checkIndex_8e157_17 () (show x0 = x0 from (by ((repeat' apply And.intro) <;> first | trivial | rfl | assumption | omega | decide | exact Or.inl rfl | exact Or.inr (Or.inl rfl) | exact Or.inr (Or.inr rfl)))) [] (by decide) rfl (Nat.le_of_ble_eq_true rfl) (Nat.le_of_ble_eq_true rfl)
set_option maxHeartbeats 4000000 in
set_option maxRecDepth 100000 in
theorem c160_J0_checkIndex_df160 (l : Launch) (g : GD) (x0 : Int32) (i_x0 : (0 ≤ (Int32.toInt x0) ∧ (Int32.toInt x0) ≤ 1)) (sz : Nat) : Met l yJ0_checkIndex_df160 wsJ0_checkIndex_df160 ({ frames := 1, cells := 0, slots := 0, locals := 22 }) (va_Pc [.int x0, .int 2] (PW g [] sz)) (va_Qv (fun (_ : Unit) => True) (BW g (va_A [] sz) (fun _ : Unit => [])) (va_A [] sz)) 0 0 (va_A [] sz) := by
  refine met_v RJ0 (by decide) rfl rfl (Nat.le_of_ble_eq_true rfl) [(0, .int x0), (1, .int 2)] rfl ?_
  intro p e s m args below meth c A Q C hnm Rt
  refine r_iload_n 0 0 C dJ0_checkIndex_df160_0 rfl ?_
  refine r_iload_n 1 1 C dJ0_checkIndex_df160_1 rfl ?_
  refine r_getsq2 2 C dJ0_checkIndex_df160_2 C.2.2.2.2.2.1.2.2.2.2.2 (mg 1 rfl) ?_ (fun q1 => ?_)
  · skip
    refine r_callSi 5 C dJ0_checkIndex_df160_5 [] [] [] (fun sz => c158_J3_checkIndex_8e157 l g x0 i_x0 sz) gJ0_checkIndex_df160_J3_checkIndex_8e157 rfl ⟨rfl, rfl⟩ 3 (by decide) ⟨Nat.le_of_ble_eq_true rfl, Nat.le_of_ble_eq_true rfl⟩ [] [] rfl rfl (by decide) (by decide) (by decide) rfl rfl (Nat.le_of_ble_eq_true rfl) ⟨Nat.le_of_ble_eq_true rfl, Nat.le_of_ble_eq_true rfl⟩ (fun r2 _ w3 => ?_)
    refine r_ws [] rfl ?_
    have p4 : x0 = r2 := (w3).symm
    subst p4
    refine r_pop 8 C dJ0_checkIndex_df160_8 rfl ?_
    exact r_vret 9 Rt dJ0_checkIndex_df160_9 () trivial [] (by decide) rfl (Nat.le_of_ble_eq_true rfl) (Nat.le_of_ble_eq_true rfl)
  · skip
    refine r_callSi 5 C dJ0_checkIndex_df160_5 [] [] [] (fun sz => c159_J3_checkIndex_8e157 l g x0 q1 i_x0 sz) gJ0_checkIndex_df160_J3_checkIndex_8e157 rfl ⟨rfl, rfl⟩ 3 (by decide) ⟨Nat.le_of_ble_eq_true rfl, Nat.le_of_ble_eq_true rfl⟩ [] [] rfl rfl (by decide) (by decide) (by decide) rfl rfl (Nat.le_of_ble_eq_true rfl) ⟨Nat.le_of_ble_eq_true rfl, Nat.le_of_ble_eq_true rfl⟩ (fun r5 _ w6 => ?_)
    refine r_ws [] rfl ?_
    have p7 : x0 = r5 := (w6).symm
    subst p7
    refine r_pop 8 C dJ0_checkIndex_df160_8 rfl ?_
    exact r_vret 9 Rt dJ0_checkIndex_df160_9 () trivial [] (by decide) rfl (Nat.le_of_ble_eq_true rfl) (Nat.le_of_ble_eq_true rfl)
set_option maxHeartbeats 4000000 in
set_option maxRecDepth 100000 in
theorem c161_J1_charAt_3b067 (l : Launch) (g : GD) (x0 : Int32) (i_x0 : (0 ≤ (Int32.toInt x0) ∧ (Int32.toInt x0) ≤ 1)) (sz : Nat) : Met l yJ1_charAt_3b067 wsJ1_charAt_3b067 ({ frames := 2, cells := 0, slots := 0, locals := 43 }) (va_Pc [.ref (g.2.2.2 9), .int x0] (PW g [] sz)) (va_Qi (fun (r : Int32) (_ : Unit) => 0 ≤ (Int32.toInt r) ∧ (Int32.toInt r) ≤ 65535 ∧ CHA wRd (Int32.toInt x0) (Int32.toInt r)) (BW g (va_A [] sz) (fun _ : Unit => [])) (va_A [] sz)) 0 0 (va_A [] sz) := by
  refine met_c RJ1 (by decide) rfl rfl (Nat.le_of_ble_eq_true rfl) [(0, .ref (g.2.2.2 9)), (1, .int x0)] rfl ?_
  intro p e s m args below meth c A Q C hnm Rt
  refine r_iload_n 0 1 C dJ1_charAt_3b067_0 rfl ?_
  refine r_aload_n 1 0 C dJ1_charAt_3b067_1 rfl ?_
  refine r_stlen 2 2 C dJ1_charAt_3b067_2 ((C.2.2.2.2.2.1.2.2.1.1 9 (by decide)).2.2.2) (by decide) ?_
  refine r_callSv 3 C dJ1_charAt_3b067_3 [] [] [] (fun sz => c160_J0_checkIndex_df160 l g x0 i_x0 sz) gJ1_charAt_3b067_J0_checkIndex_df160 rfl ⟨rfl, rfl⟩ 2 (by decide) ⟨Nat.le_of_ble_eq_true rfl, Nat.le_of_ble_eq_true rfl⟩ [] [] rfl rfl (by decide) (by decide) (by decide) rfl rfl (Nat.le_of_ble_eq_true rfl) ⟨Nat.le_of_ble_eq_true rfl, Nat.le_of_ble_eq_true rfl⟩ (fun  _ w1 => ?_)
  refine r_ws [] rfl ?_
  refine r_aload_n 6 0 C dJ1_charAt_3b067_6 rfl ?_
  refine r_iload_n 7 1 C dJ1_charAt_3b067_7 rfl ?_
  obtain ⟨z2, ez2⟩ : ∃ z_9, (stB.getD 9 []).getD (Int32.toNatClampNeg x0) 0 = z_9 := ⟨_, rfl⟩
  refine r_stb 8 (.int z2) C dJ1_charAt_3b067_8 ((C.2.2.2.2.2.1.2.2.1.1 9 (by decide)).2.2.2) (vinI (n := 2) (by omega) (by omega)) (by rw [← ez2]) ?_
  have gz2 := fb_rng z2
  refine r_sipush 9 255 C dJ1_charAt_3b067_9 (by decide) ?_
  obtain ⟨z3, ez3⟩ : ∃ z_9, z2 &&& 255 = z_9 := ⟨_, rfl⟩
  have tz3 : 0 ≤ (Int32.toInt z3) ∧ (Int32.toInt z3) ≤ 255 := by rw [← ez3]; exact and_255 z2
  refine r_iand 12 z3 C dJ1_charAt_3b067_12 ez3 ?_
  obtain ⟨z4, ez4⟩ : ∃ z_9, (Int32.toUInt32 z3 % 65536).toInt32 = z_9 := ⟨_, rfl⟩
  have tz4 : 0 ≤ (Int32.toInt z4) ∧ (Int32.toInt z4) ≤ 65535 := by rw [← ez4]; exact chr_in _
  refine r_i2c 13 z4 C dJ1_charAt_3b067_13 ez4 ?_
  exact r_cret 14 Rt dJ1_charAt_3b067_14 (by rw [← ez4]; exact pk_nc _) () (show 0 ≤ (Int32.toInt z4) ∧ (Int32.toInt z4) ≤ 65535 ∧ CHA wRd (Int32.toInt x0) (Int32.toInt z4) from ⟨(by ((repeat' apply And.intro) <;> first | trivial | rfl | assumption | omega | decide | exact Or.inl rfl | exact Or.inr (Or.inl rfl) | exact Or.inr (Or.inr rfl))), (by ((repeat' apply And.intro) <;> first | trivial | rfl | assumption | omega | decide | exact Or.inl rfl | exact Or.inr (Or.inl rfl) | exact Or.inr (Or.inr rfl))), (by have h_9 : ∀ j, j < 2 → Int32.toInt ((Int32.toUInt32 ((stB.getD 9 []).getD j 0 &&& 255) % 65536).toInt32) = wRd.getD j 0 := (by decide); subst_vars; exact h_9 _ (show (Int32.toInt x0).toNat < 2 by omega))⟩) [] (by decide) rfl (Nat.le_of_ble_eq_true rfl) (Nat.le_of_ble_eq_true rfl)
set_option maxHeartbeats 4000000 in
set_option maxRecDepth 100000 in
theorem c162_J0_charAt_5068e (l : Launch) (g : GD) (x0 : Int32) (i_x0 : (0 ≤ (Int32.toInt x0) ∧ (Int32.toInt x0) ≤ 1)) (sz : Nat) : Met l yJ0_charAt_5068e wsJ0_charAt_5068e ({ frames := 3, cells := 0, slots := 0, locals := 64 }) (va_Pc [.ref (g.2.2.1 9), .int x0] (PW g [] sz)) (va_Qi (fun (r : Int32) (_ : Unit) => 0 ≤ (Int32.toInt r) ∧ (Int32.toInt r) ≤ 65535 ∧ CHA wRd (Int32.toInt x0) (Int32.toInt r)) (BW g (va_A [] sz) (fun _ : Unit => [])) (va_A [] sz)) 0 0 (va_A [] sz) := by
  refine met_c RJ0 (by decide) rfl rfl (Nat.le_of_ble_eq_true rfl) [(0, .ref (g.2.2.1 9)), (1, .int x0)] rfl ?_
  intro p e s m args below meth c A Q C hnm Rt
  refine r_aload_n 0 0 C dJ0_charAt_5068e_0 rfl ?_
  refine r_scallVi 1 C dJ0_charAt_5068e_1 [] 9 (by decide) [] [] (fun sz => c157_J0_isLatin1_aae02 l g   sz) gJ0_charAt_5068e_J0_isLatin1_aae02 rfl ⟨rfl, rfl⟩ 0 (by decide) ⟨Nat.le_of_ble_eq_true rfl, Nat.le_of_ble_eq_true rfl⟩ [] [] rfl rfl (by decide) (by decide) (by decide) rfl rfl (Nat.le_of_ble_eq_true rfl) ⟨Nat.le_of_ble_eq_true rfl, Nat.le_of_ble_eq_true rfl⟩ (fun r1 _ w2 => ?_)
  refine r_ws [] rfl ?_
  have p3 : 1 = r1 := (w2).symm
  subst p3
  refine r_if_eq_f 4 16 C dJ0_charAt_5068e_4 (by decide) (by decide) ?_
  refine r_aload_n 7 0 C dJ0_charAt_5068e_7 rfl ?_
  refine r_sget 8 9 C dJ0_charAt_5068e_8 ((C.2.2.2.2.2.1.2.2.1.1 9 (by decide)).2.2.1) (mg 1 rfl) ?_
  refine r_iload_n 11 1 C dJ0_charAt_5068e_11 rfl ?_
  refine r_callSi 12 C dJ0_charAt_5068e_12 [] [] [] (fun sz => c161_J1_charAt_3b067 l g x0 i_x0 sz) gJ0_charAt_5068e_J1_charAt_3b067 rfl ⟨rfl, rfl⟩ 2 (by decide) ⟨Nat.le_of_ble_eq_true rfl, Nat.le_of_ble_eq_true rfl⟩ [] [] rfl rfl (by decide) (by decide) (by decide) rfl rfl (Nat.le_of_ble_eq_true rfl) ⟨Nat.le_of_ble_eq_true rfl, Nat.le_of_ble_eq_true rfl⟩ (fun r4 _ w5 => ?_)
  refine r_ws [] rfl ?_
  have p6 : 0 ≤ (Int32.toInt r4) := w5.1
  have p7 : (Int32.toInt r4) ≤ 65535 := w5.2.1
  have p8 : CHA wRd (Int32.toInt x0) (Int32.toInt r4) := w5.2.2
  exact r_cret 15 Rt dJ0_charAt_5068e_15 (nc_in (by omega) (by omega)) () (show 0 ≤ (Int32.toInt r4) ∧ (Int32.toInt r4) ≤ 65535 ∧ CHA wRd (Int32.toInt x0) (Int32.toInt r4) from ⟨(show _ ∧ _ from ⟨p6, p7⟩).1, (show _ ∧ _ from ⟨p6, p7⟩).2, (by exact p8)⟩) [] (by decide) rfl (Nat.le_of_ble_eq_true rfl) (Nat.le_of_ble_eq_true rfl)
set_option maxHeartbeats 4000000 in
set_option maxRecDepth 100000 in
theorem c163_X10_isAt (l : Launch) (g : GD) (h0 : Nat) (h1 : Nat) (x0 : Int32) (x1 : Int32) (fn0 : Nat → Int32) (i_x0 : (0 ≤ (Int32.toInt x0) ∧ (Int32.toInt x0) ≤ 1500)) (i_x1 : (0 ≤ (Int32.toInt x1) ∧ (Int32.toInt x1) ≤ 1500)) (sz : Nat) : Met l yX10_isAt wsX10_isAt ({ frames := 4, cells := 0, slots := 0, locals := 85 }) (va_Pc [.ref h0, .int x0, .ref (g.2.2.1 9)] (PW g [(h0, .inr (4, [.ref h1, .int x1])), (h1, .inl (gB g, 1500, .inl fn0))] sz)) (va_Qi (fun (r : Int32) (_ : Unit) => 0 ≤ (Int32.toInt r) ∧ (Int32.toInt r) ≤ 1 ∧ ISB (Int32.toInt r) (WAT (GB fn0 (Int32.toInt x1)) (Int32.toInt x0) wRd)) (BW g (va_A [(h0, .inr (4, [.ref h1, .int x1])), (h1, .inl (gB g, 1500, .inl fn0))] sz) (fun _ : Unit => [(h0, .inr (4, [.ref h1, .int x1])), (h1, .inl (gB g, 1500, .inl fn0))])) (va_A [(h0, .inr (4, [.ref h1, .int x1])), (h1, .inl (gB g, 1500, .inl fn0))] sz)) 0 0 (va_A [(h0, .inr (4, [.ref h1, .int x1])), (h1, .inl (gB g, 1500, .inl fn0))] sz) := by
  refine met_z RX10 (by decide) rfl rfl (Nat.le_of_ble_eq_true rfl) [(0, .ref h0), (1, .int x0), (2, .ref (g.2.2.1 9))] rfl ?_
  intro p e s m args below meth c A Q C hnm Rt
  refine r_iconst 0 0 C dX10_isAt_0 (by decide) ?_
  refine r_istore_n 1 C dX10_isAt_1 [(3, .int 0), (0, .ref h0), (1, .int x0), (2, .ref (g.2.2.1 9))] (by decide) rfl ?_
  have lp3 : ∀ (n2 : Nat) (z1 : Int32), (0 ≤ (Int32.toInt z1) ∧ (Int32.toInt z1) ≤ 2) → (WPF (GB fn0 (Int32.toInt x1)) (Int32.toInt x0) wRd (Int32.toInt z1)) → Int.toNat (2 - (Int32.toInt z1)) < n2 → WW p l e ({ frames := 4, cells := 0, slots := 0, locals := 85 } : Room) s m args below meth c A Q g 4 0 0 [(h0, .inr (4, [.ref h1, .int x1])), (h1, .inl (gB g, 1500, .inl fn0))] 2 [(3, .int z1), (0, .ref h0), (1, .int x0), (2, .ref (g.2.2.1 9))] [] := by
    intro n2
    induction n2 with
    | zero => intro z1 i6 j7 hm5; exact absurd hm5 (Nat.not_lt_zero _)
    | succ n2 ih4 =>
      intro z1 i6 j7 hm5
      obtain ⟨i6a, i6b⟩ := i6
      refine r_iload_n 2 0 C dX10_isAt_2 rfl ?_
      refine r_aload_n 3 3 C dX10_isAt_3 rfl ?_
      refine r_scallVi 4 C dX10_isAt_4 [.int z1] 9 (by decide) [] [(h0, .inr (4, [.ref h1, .int x1])), (h1, .inl (gB g, 1500, .inl fn0))] (fun sz => c156_J0_length_8abf5 l g   sz) gX10_isAt_J0_length_8abf5 rfl ⟨rfl, rfl⟩ 0 (by decide) ⟨Nat.le_of_ble_eq_true rfl, Nat.le_of_ble_eq_true rfl⟩ [] [0, 1] rfl rfl (by decide) (by decide) (by decide) rfl rfl (Nat.le_of_ble_eq_true rfl) ⟨Nat.le_of_ble_eq_true rfl, Nat.le_of_ble_eq_true rfl⟩ (fun r8 _ w9 => ?_)
      refine r_ws [(h0, .inr (4, [.ref h1, .int x1])), (h1, .inl (gB g, 1500, .inl fn0))] rfl ?_
      have p10 : 2 = r8 := (w9).symm
      subst p10
      refine r_icmp_ge 7 34 C dX10_isAt_7 (by decide) (fun c11 => ?_) (fun c11 => ?_)
      · skip
        have k12 : 2 ≤ (Int32.toInt z1) := (fa_le 2 z1).mp c11
        refine r_iconst 34 1 C dX10_isAt_34 (by decide) ?_
        exact r_zret 35 Rt dX10_isAt_35 (by decide) () (show 0 ≤ (Int32.toInt 1) ∧ (Int32.toInt 1) ≤ 1 ∧ ISB 1 (WAT (GB fn0 (Int32.toInt x1)) (Int32.toInt x0) wRd) from ⟨(by ((repeat' apply And.intro) <;> first | trivial | rfl | assumption | omega | decide | exact Or.inl rfl | exact Or.inr (Or.inl rfl) | exact Or.inr (Or.inr rfl))), (by ((repeat' apply And.intro) <;> first | trivial | rfl | assumption | omega | decide | exact Or.inl rfl | exact Or.inr (Or.inl rfl) | exact Or.inr (Or.inr rfl))), (by first | exact wat_yes (show WPF (GB fn0 (Int32.toInt x1)) (Int32.toInt x0) wRd (Int32.toInt z1) by assumption) (show (2 : Int) ≤ _ by omega))⟩) [0, 1] (by decide) rfl (Nat.le_of_ble_eq_true rfl) (Nat.le_of_ble_eq_true rfl)
      · skip
        have k13 : ¬ (2 ≤ (Int32.toInt z1)) := fun h_9 => c11 ((fa_le 2 z1).mpr h_9)
        refine r_aload_n 10 1 C dX10_isAt_10 rfl ?_
        refine r_iload_n 11 2 C dX10_isAt_11 rfl ?_
        refine r_iload_n 12 0 C dX10_isAt_12 rfl ?_
        obtain ⟨z14, ez14⟩ : ∃ z_9, x0 + z1 = z_9 := ⟨_, rfl⟩
        have tz14 : (Int32.toInt z14) = (Int32.toInt x0) + (Int32.toInt z1) := by rw [← ez14]; exact fb_addIv (a := 0) (b := 1500) (c := 0) (d := 2) i_x0 ⟨i6a, i6b⟩ (by decide) (by decide)
        refine r_iadd 13 z14 C dX10_isAt_13 ez14 ?_
        obtain ⟨z15, ez15⟩ : ∃ z_9, Int32.toInt64 z14 = z_9 := ⟨_, rfl⟩
        have tz15 : (Int64.toInt z15) = (Int32.toInt z14) := by rw [← ez15]; exact Int32.toInt_toInt64 _
        refine r_i2l 14 z15 C dX10_isAt_14 ez15 ?_
        refine r_callVi 15 C dX10_isAt_15 [] [(h0, .inr (4, [.ref h1, .int x1])), (h1, .inl (gB g, 1500, .inl fn0))] [] (fun sz => c14_X5_get l g h0 h1 z15 x1 fn0 i_x1 sz) gX10_isAt_X5_get rfl ⟨rfl, rfl⟩ 1 (by decide) ⟨Nat.le_of_ble_eq_true rfl, Nat.le_of_ble_eq_true rfl⟩ 0 rfl rfl [0, 1] [] rfl rfl (by decide) (by decide) (by decide) rfl rfl (Nat.le_of_ble_eq_true rfl) ⟨Nat.le_of_ble_eq_true rfl, Nat.le_of_ble_eq_true rfl⟩ (fun r16 _ w17 => ?_)
        refine r_ws [(h0, .inr (4, [.ref h1, .int x1])), (h1, .inl (gB g, 1500, .inl fn0))] rfl ?_
        have p18 : -1 ≤ (Int32.toInt r16) := w17.1
        have p19 : (Int32.toInt r16) ≤ 255 := w17.2.1
        have p20 : HID ((0 ≤ (Int64.toInt z15) ∧ (Int64.toInt z15) < (Int32.toInt x1) ∧ r16 = (fn0 (Int.toNat (Int64.toInt z15)) &&& 255)) ∨ (((Int64.toInt z15) < 0 ∨ (Int32.toInt x1) ≤ (Int64.toInt z15)) ∧ r16 = -1)) := w17.2.2.1
        have p21 : (Int32.toInt r16) = GB fn0 (Int32.toInt x1) (Int64.toInt z15) := w17.2.2.2
        refine r_aload_n 18 3 C dX10_isAt_18 rfl ?_
        refine r_iload_n 19 0 C dX10_isAt_19 rfl ?_
        refine r_scallVi 20 C dX10_isAt_20 [.int r16] 9 (by decide) [] [(h0, .inr (4, [.ref h1, .int x1])), (h1, .inl (gB g, 1500, .inl fn0))] (fun sz => c162_J0_charAt_5068e l g z1 ⟨by omega, by omega⟩ sz) gX10_isAt_J0_charAt_5068e rfl ⟨rfl, rfl⟩ 1 (by decide) ⟨Nat.le_of_ble_eq_true rfl, Nat.le_of_ble_eq_true rfl⟩ [] [0, 1] rfl rfl (by decide) (by decide) (by decide) rfl rfl (Nat.le_of_ble_eq_true rfl) ⟨Nat.le_of_ble_eq_true rfl, Nat.le_of_ble_eq_true rfl⟩ (fun r22 _ w23 => ?_)
        refine r_ws [(h0, .inr (4, [.ref h1, .int x1])), (h1, .inl (gB g, 1500, .inl fn0))] rfl ?_
        have p24 : 0 ≤ (Int32.toInt r22) := w23.1
        have p25 : (Int32.toInt r22) ≤ 65535 := w23.2.1
        have p26 : CHA wRd (Int32.toInt z1) (Int32.toInt r22) := w23.2.2
        refine r_icmp_eq 23 28 C dX10_isAt_23 (by decide) (fun c27 => ?_) (fun c27 => ?_)
        · skip
          have k28 : (Int32.toInt r16) = (Int32.toInt r22) := (fa_eq r16 r22).mp c27
          obtain ⟨z29, ez29⟩ : ∃ z_9, z1 + Int32.ofInt 1 = z_9 := ⟨_, rfl⟩
          have tz29 : (Int32.toInt z29) = (Int32.toInt z1) + 1 := by rw [← ez29]; exact fb_addIv (a := 0) (b := 2) (c := 1) (d := 1) ⟨i6a, i6b⟩ ⟨by decide, by decide⟩ (by decide) (by decide)
          refine r_iinc 28 0 z29 C dX10_isAt_28 rfl ez29 [(3, .int z29), (0, .ref h0), (1, .int x0), (2, .ref (g.2.2.1 9))] (by decide) rfl ?_
          refine r_goto 31 2 C dX10_isAt_31 (by decide) ?_
          exact ih4 z29 ⟨by omega, by omega⟩ (wpf_step (show WPF (GB fn0 (Int32.toInt x1)) (Int32.toInt x0) wRd (Int32.toInt z1) by assumption) (by omega) (by omega) p21 (by omega) p26 (by omega)) (by omega)
        · skip
          have k30 : ¬ ((Int32.toInt r16) = (Int32.toInt r22)) := fun h_9 => c27 ((fa_eq r16 r22).mpr h_9)
          refine r_iconst 26 0 C dX10_isAt_26 (by decide) ?_
          exact r_zret 27 Rt dX10_isAt_27 (by decide) () (show 0 ≤ (Int32.toInt 0) ∧ (Int32.toInt 0) ≤ 1 ∧ ISB 0 (WAT (GB fn0 (Int32.toInt x1)) (Int32.toInt x0) wRd) from ⟨(by ((repeat' apply And.intro) <;> first | trivial | rfl | assumption | omega | decide | exact Or.inl rfl | exact Or.inr (Or.inl rfl) | exact Or.inr (Or.inr rfl))), (by ((repeat' apply And.intro) <;> first | trivial | rfl | assumption | omega | decide | exact Or.inl rfl | exact Or.inr (Or.inl rfl) | exact Or.inr (Or.inr rfl))), (by first | exact wat_yes (show WPF (GB fn0 (Int32.toInt x1)) (Int32.toInt x0) wRd (Int32.toInt z1) by assumption) (show (2 : Int) ≤ _ by omega) | exact wat_no (by omega) (show _ < (2 : Int) by omega) p21 (by omega) p26 (by omega))⟩) [0, 1] (by decide) rfl (Nat.le_of_ble_eq_true rfl) (Nat.le_of_ble_eq_true rfl)
  exact lp3 _ 0 (by decide) wpf_0 (Nat.lt_succ_self _)
set_option maxHeartbeats 4000000 in
set_option maxRecDepth 100000 in
theorem c164_X10_isWord (l : Launch) (g : GD) (h0 : Nat) (h1 : Nat) (h2 : Nat) (h3 : Nat) (x0 : Int32) (x1 : Int32) (x2 : Int32) (x3 : Int32) (x4 : Int32) (x5 : Int32) (x6 : Int32) (x7 : Int32) (x8 : Int32) (fn0 : Nat → Int32) (i_x0 : (0 ≤ (Int32.toInt x0) ∧ (Int32.toInt x0) ≤ 1500)) (i_x1 : (0 ≤ (Int32.toInt x1) ∧ (Int32.toInt x1) ≤ 1500)) (i_x2 : (0 ≤ (Int32.toInt x2) ∧ (Int32.toInt x2) ≤ 1500)) (i_x3 : (-1 ≤ (Int32.toInt x3) ∧ (Int32.toInt x3) ≤ 9999)) (i_x4 : (0 ≤ (Int32.toInt x4) ∧ (Int32.toInt x4) ≤ 1)) (i_x5 : (-1 ≤ (Int32.toInt x5) ∧ (Int32.toInt x5) ≤ 9999)) (i_x6 : (0 ≤ (Int32.toInt x6) ∧ (Int32.toInt x6) ≤ 1500)) (i_x7 : (0 ≤ (Int32.toInt x7) ∧ (Int32.toInt x7) ≤ 1500)) (i_x8 : (0 ≤ (Int32.toInt x8) ∧ (Int32.toInt x8) ≤ 1500)) (sz : Nat) : Met l yX10_isWord wsX10_isWord ({ frames := 5, cells := 0, slots := 0, locals := 108 }) (va_Pc [.ref h0, .ref (g.2.2.1 9)] (PW g [(h0, .inr (9, [.ref h3, .ref h1, .int x0, .int x1, .int x2, .int x3, .int x4, .int x5, .int x6, .int x7])), (h1, .inr (4, [.ref h2, .int x8])), (h2, .inl (gB g, 1500, .inl fn0))] sz)) (va_Qi (fun (r : Int32) (_ : Unit) => 0 ≤ (Int32.toInt r) ∧ (Int32.toInt r) ≤ 1 ∧ ISB (Int32.toInt r) (IW (GB fn0 (Int32.toInt x8)) (Int32.toInt x1) (Int32.toInt x2) wRd)) (BW g (va_A [(h0, .inr (9, [.ref h3, .ref h1, .int x0, .int x1, .int x2, .int x3, .int x4, .int x5, .int x6, .int x7])), (h1, .inr (4, [.ref h2, .int x8])), (h2, .inl (gB g, 1500, .inl fn0))] sz) (fun _ : Unit => [(h0, .inr (9, [.ref h3, .ref h1, .int x0, .int x1, .int x2, .int x3, .int x4, .int x5, .int x6, .int x7])), (h1, .inr (4, [.ref h2, .int x8])), (h2, .inl (gB g, 1500, .inl fn0))])) (va_A [(h0, .inr (9, [.ref h3, .ref h1, .int x0, .int x1, .int x2, .int x3, .int x4, .int x5, .int x6, .int x7])), (h1, .inr (4, [.ref h2, .int x8])), (h2, .inl (gB g, 1500, .inl fn0))] sz)) 0 0 (va_A [(h0, .inr (9, [.ref h3, .ref h1, .int x0, .int x1, .int x2, .int x3, .int x4, .int x5, .int x6, .int x7])), (h1, .inr (4, [.ref h2, .int x8])), (h2, .inl (gB g, 1500, .inl fn0))] sz) := by
  refine met_z RX10 (by decide) rfl rfl (Nat.le_of_ble_eq_true rfl) [(0, .ref h0), (1, .ref (g.2.2.1 9))] rfl ?_
  intro p e s m args below meth c A Q C hnm Rt
  have hiX10 : ∀ w ∈ wsX100, w ∈ wsX10_isWord := fun w h => List.mem_cons_of_mem _ (List.mem_append_left _ (List.mem_append_right _ (h)))
  refine r_aload_n 0 0 C dX10_isWord_0 rfl ?_
  refine r_get 1 C dX10_isWord_1 (k := 4) 0 rfl rfl hiX10 (by decide) rfl (mg 1 rfl) (Or.inl rfl) rfl ?_
  refine r_aload_n 4 0 C dX10_isWord_4 rfl ?_
  refine r_get 5 C dX10_isWord_5 (k := 3) 0 rfl rfl hiX10 (by decide) rfl (mg 2 rfl) (Or.inl rfl) rfl ?_
  obtain ⟨z1, ez1⟩ : ∃ z_9, x2 - x1 = z_9 := ⟨_, rfl⟩
  have tz1 : (Int32.toInt z1) = (Int32.toInt x2) - (Int32.toInt x1) := by rw [← ez1]; exact fb_subIv (a := 0) (b := 1500) (c := 0) (d := 1500) i_x2 i_x1 (by decide) (by decide)
  refine r_isub 8 z1 C dX10_isWord_8 ez1 ?_
  refine r_aload_n 9 1 C dX10_isWord_9 rfl ?_
  refine r_scallVi 10 C dX10_isWord_10 [.int z1] 9 (by decide) [] [(h0, .inr (9, [.ref h3, .ref h1, .int x0, .int x1, .int x2, .int x3, .int x4, .int x5, .int x6, .int x7])), (h1, .inr (4, [.ref h2, .int x8])), (h2, .inl (gB g, 1500, .inl fn0))] (fun sz => c156_J0_length_8abf5 l g   sz) gX10_isWord_J0_length_8abf5 rfl ⟨rfl, rfl⟩ 0 (by decide) ⟨Nat.le_of_ble_eq_true rfl, Nat.le_of_ble_eq_true rfl⟩ [] [0, 1, 2] rfl rfl (by decide) (by decide) (by decide) rfl rfl (Nat.le_of_ble_eq_true rfl) ⟨Nat.le_of_ble_eq_true rfl, Nat.le_of_ble_eq_true rfl⟩ (fun r2 _ w3 => ?_)
  refine r_ws [(h0, .inr (9, [.ref h3, .ref h1, .int x0, .int x1, .int x2, .int x3, .int x4, .int x5, .int x6, .int x7])), (h1, .inr (4, [.ref h2, .int x8])), (h2, .inl (gB g, 1500, .inl fn0))] rfl ?_
  have p4 : 2 = r2 := (w3).symm
  subst p4
  refine r_icmp_ne 13 35 C dX10_isWord_13 (by decide) (fun c5 => ?_) (fun c5 => ?_)
  · skip
    have k6 : ¬ ((Int32.toInt z1) = 2) := fun h_9 => c5 ((fa_eq z1 2).mpr h_9)
    refine r_iconst 35 0 C dX10_isWord_35 (by decide) ?_
    exact r_zret 36 Rt dX10_isWord_36 (by decide) () (show 0 ≤ (Int32.toInt 0) ∧ (Int32.toInt 0) ≤ 1 ∧ ISB 0 (IW (GB fn0 (Int32.toInt x8)) (Int32.toInt x1) (Int32.toInt x2) wRd) from ⟨(by ((repeat' apply And.intro) <;> first | trivial | rfl | assumption | omega | decide | exact Or.inl rfl | exact Or.inr (Or.inl rfl) | exact Or.inr (Or.inr rfl))), (by ((repeat' apply And.intro) <;> first | trivial | rfl | assumption | omega | decide | exact Or.inl rfl | exact Or.inr (Or.inl rfl) | exact Or.inr (Or.inr rfl))), (by exact Or.inr ⟨by first | rfl | omega, fun h_9 => absurd h_9.1 (show ¬ (_ = (2 : Int)) by omega)⟩)⟩) [0, 1, 2] (by decide) rfl (Nat.le_of_ble_eq_true rfl) (Nat.le_of_ble_eq_true rfl)
  · skip
    have k7 : (Int32.toInt z1) = 2 := (fa_eq z1 2).mp c5
    refine r_aload_n 16 0 C dX10_isWord_16 rfl ?_
    refine r_get 17 C dX10_isWord_17 (k := 1) 0 rfl rfl hiX10 (by decide) rfl (mg 3 rfl) (Or.inl rfl) rfl ?_
    refine r_aload_n 20 0 C dX10_isWord_20 rfl ?_
    refine r_get 21 C dX10_isWord_21 (k := 3) 0 rfl rfl hiX10 (by decide) rfl (mg 2 rfl) (Or.inl rfl) rfl ?_
    refine r_aload_n 24 1 C dX10_isWord_24 rfl ?_
    refine r_callSi 25 C dX10_isWord_25 [] [(h1, .inr (4, [.ref h2, .int x8])), (h2, .inl (gB g, 1500, .inl fn0))] [(h0, .inr (9, [.ref h3, .ref h1, .int x0, .int x1, .int x2, .int x3, .int x4, .int x5, .int x6, .int x7]))] (fun sz => c163_X10_isAt l g h1 h2 x1 x8 fn0 i_x1 i_x8 sz) gX10_isWord_X10_isAt rfl ⟨rfl, rfl⟩ 3 (by decide) ⟨Nat.le_of_ble_eq_true rfl, Nat.le_of_ble_eq_true rfl⟩ [1, 2] [0] rfl rfl (by decide) (by decide) (by decide) rfl rfl (Nat.le_of_ble_eq_true rfl) ⟨Nat.le_of_ble_eq_true rfl, Nat.le_of_ble_eq_true rfl⟩ (fun r8 _ w9 => ?_)
    refine r_ws [(h0, .inr (9, [.ref h3, .ref h1, .int x0, .int x1, .int x2, .int x3, .int x4, .int x5, .int x6, .int x7])), (h1, .inr (4, [.ref h2, .int x8])), (h2, .inl (gB g, 1500, .inl fn0))] rfl ?_
    have p10 : 0 ≤ (Int32.toInt r8) := w9.1
    have p11 : (Int32.toInt r8) ≤ 1 := w9.2.1
    have p12 : ISB (Int32.toInt r8) (WAT (GB fn0 (Int32.toInt x8)) (Int32.toInt x1) wRd) := w9.2.2
    refine r_if_eq 28 35 C dX10_isWord_28 (by decide) (fun c13 => ?_) (fun c13 => ?_)
    · skip
      have k14 : (Int32.toInt r8) = 0 := (fa_eq r8 0).mp c13
      refine r_iconst 35 0 C dX10_isWord_35 (by decide) ?_
      exact r_zret 36 Rt dX10_isWord_36 (by decide) () (show 0 ≤ (Int32.toInt 0) ∧ (Int32.toInt 0) ≤ 1 ∧ ISB 0 (IW (GB fn0 (Int32.toInt x8)) (Int32.toInt x1) (Int32.toInt x2) wRd) from ⟨(by ((repeat' apply And.intro) <;> first | trivial | rfl | assumption | omega | decide | exact Or.inl rfl | exact Or.inr (Or.inl rfl) | exact Or.inr (Or.inr rfl))), (by ((repeat' apply And.intro) <;> first | trivial | rfl | assumption | omega | decide | exact Or.inl rfl | exact Or.inr (Or.inl rfl) | exact Or.inr (Or.inr rfl))), (by exact isb_r (isb_and p12 (show _ = (2 : Int) by omega)) (by omega))⟩) [0, 1, 2] (by decide) rfl (Nat.le_of_ble_eq_true rfl) (Nat.le_of_ble_eq_true rfl)
    · skip
      have k15 : ¬ ((Int32.toInt r8) = 0) := fun h_9 => c13 ((fa_eq r8 0).mpr h_9)
      refine r_iconst 31 1 C dX10_isWord_31 (by decide) ?_
      refine r_goto 32 36 C dX10_isWord_32 (by decide) ?_
      exact r_zret 36 Rt dX10_isWord_36 (by decide) () (show 0 ≤ (Int32.toInt 1) ∧ (Int32.toInt 1) ≤ 1 ∧ ISB 1 (IW (GB fn0 (Int32.toInt x8)) (Int32.toInt x1) (Int32.toInt x2) wRd) from ⟨(by ((repeat' apply And.intro) <;> first | trivial | rfl | assumption | omega | decide | exact Or.inl rfl | exact Or.inr (Or.inl rfl) | exact Or.inr (Or.inr rfl))), (by ((repeat' apply And.intro) <;> first | trivial | rfl | assumption | omega | decide | exact Or.inl rfl | exact Or.inr (Or.inl rfl) | exact Or.inr (Or.inr rfl))), (by exact isb_r (isb_and p12 (show _ = (2 : Int) by omega)) (by omega))⟩) [0, 1, 2] (by decide) rfl (Nat.le_of_ble_eq_true rfl) (Nat.le_of_ble_eq_true rfl)
set_option maxHeartbeats 4000000 in
set_option maxRecDepth 100000 in
theorem c165_J0_coder_7d493 (l : Launch) (g : GD) (sz : Nat) : Met l yJ0_coder_7d493 wsJ0_coder_7d493 ({ frames := 0, cells := 0, slots := 0, locals := 0 }) (va_Pc [.ref (g.2.2.1 10)] (PW g [] sz)) (va_Qi (fun (r : Int32) (_ : Unit) => r = 0) (BW g (va_A [] sz) (fun _ : Unit => [])) (va_A [] sz)) 0 0 (va_A [] sz) := by
  refine met_b RJ0 (by decide) rfl rfl (Nat.le_of_ble_eq_true rfl) [(0, .ref (g.2.2.1 10))] rfl ?_
  intro p e s m args below meth c A Q C hnm Rt
  refine r_gets 0 C dJ0_coder_7d493_0 C.2.2.2.2.2.1.2.2.2.2.1 (mg 1 rfl) ?_
  refine r_if_eq_f 3 13 C dJ0_coder_7d493_3 (by decide) (by decide) ?_
  refine r_aload_n 6 0 C dJ0_coder_7d493_6 rfl ?_
  refine r_sget 7 10 C dJ0_coder_7d493_7 ((C.2.2.2.2.2.1.2.2.1.1 10 (by decide)).2.1) (mg 2 rfl) ?_
  refine r_goto 10 14 C dJ0_coder_7d493_10 (by decide) ?_
  exact r_bret 14 Rt dJ0_coder_7d493_14 (by decide) () (show 0 = 0 from (by ((repeat' apply And.intro) <;> first | trivial | rfl | assumption | omega | decide | exact Or.inl rfl | exact Or.inr (Or.inl rfl) | exact Or.inr (Or.inr rfl)))) [] (by decide) rfl (Nat.le_of_ble_eq_true rfl) (Nat.le_of_ble_eq_true rfl)
set_option maxHeartbeats 4000000 in
set_option maxRecDepth 100000 in
theorem c166_J0_length_8abf5 (l : Launch) (g : GD) (sz : Nat) : Met l yJ0_length_8abf5 wsJ0_length_8abf5 ({ frames := 1, cells := 0, slots := 0, locals := 20 }) (va_Pc [.ref (g.2.2.1 10)] (PW g [] sz)) (va_Qi (fun (r : Int32) (_ : Unit) => r = 2) (BW g (va_A [] sz) (fun _ : Unit => [])) (va_A [] sz)) 0 0 (va_A [] sz) := by
  refine met_i RJ0 (by decide) rfl rfl (Nat.le_of_ble_eq_true rfl) [(0, .ref (g.2.2.1 10))] rfl ?_
  intro p e s m args below meth c A Q C hnm Rt
  refine r_aload_n 0 0 C dJ0_length_8abf5_0 rfl ?_
  refine r_sget 1 10 C dJ0_length_8abf5_1 ((C.2.2.2.2.2.1.2.2.1.1 10 (by decide)).2.2.1) (mg 1 rfl) ?_
  refine r_stlen 4 2 C dJ0_length_8abf5_4 ((C.2.2.2.2.2.1.2.2.1.1 10 (by decide)).2.2.2) (by decide) ?_
  refine r_aload_n 5 0 C dJ0_length_8abf5_5 rfl ?_
  refine r_scallVi 6 C dJ0_length_8abf5_6 [.int 2] 10 (by decide) [] [] (fun sz => c165_J0_coder_7d493 l g   sz) gJ0_length_8abf5_J0_coder_7d493 rfl ⟨rfl, rfl⟩ 0 (by decide) ⟨Nat.le_of_ble_eq_true rfl, Nat.le_of_ble_eq_true rfl⟩ [] [] rfl rfl (by decide) (by decide) (by decide) rfl rfl (Nat.le_of_ble_eq_true rfl) ⟨Nat.le_of_ble_eq_true rfl, Nat.le_of_ble_eq_true rfl⟩ (fun r1 _ w2 => ?_)
  refine r_ws [] rfl ?_
  have p3 : 0 = r1 := (w2).symm
  subst p3
  refine r_ishr 9 2 C dJ0_length_8abf5_9 (by decide) ?_
  exact r_iret 10 Rt dJ0_length_8abf5_10 () (show 2 = 2 from (by ((repeat' apply And.intro) <;> first | trivial | rfl | assumption | omega | decide | exact Or.inl rfl | exact Or.inr (Or.inl rfl) | exact Or.inr (Or.inr rfl)))) [] (by decide) rfl (Nat.le_of_ble_eq_true rfl) (Nat.le_of_ble_eq_true rfl)
set_option maxHeartbeats 4000000 in
set_option maxRecDepth 100000 in
theorem c167_J0_isLatin1_aae02 (l : Launch) (g : GD) (sz : Nat) : Met l yJ0_isLatin1_aae02 wsJ0_isLatin1_aae02 ({ frames := 0, cells := 0, slots := 0, locals := 0 }) (va_Pc [.ref (g.2.2.1 10)] (PW g [] sz)) (va_Qi (fun (r : Int32) (_ : Unit) => r = 1) (BW g (va_A [] sz) (fun _ : Unit => [])) (va_A [] sz)) 0 0 (va_A [] sz) := by
  refine met_z RJ0 (by decide) rfl rfl (Nat.le_of_ble_eq_true rfl) [(0, .ref (g.2.2.1 10))] rfl ?_
  intro p e s m args below meth c A Q C hnm Rt
  refine r_gets 0 C dJ0_isLatin1_aae02_0 C.2.2.2.2.2.1.2.2.2.2.1 (mg 1 rfl) ?_
  refine r_if_eq_f 3 17 C dJ0_isLatin1_aae02_3 (by decide) (by decide) ?_
  refine r_aload_n 6 0 C dJ0_isLatin1_aae02_6 rfl ?_
  refine r_sget 7 10 C dJ0_isLatin1_aae02_7 ((C.2.2.2.2.2.1.2.2.1.1 10 (by decide)).2.1) (mg 2 rfl) ?_
  refine r_if_ne_f 10 17 C dJ0_isLatin1_aae02_10 (by decide) (by decide) ?_
  refine r_iconst 13 1 C dJ0_isLatin1_aae02_13 (by decide) ?_
  refine r_goto 14 18 C dJ0_isLatin1_aae02_14 (by decide) ?_
  exact r_zret 18 Rt dJ0_isLatin1_aae02_18 (by decide) () (show 1 = 1 from (by ((repeat' apply And.intro) <;> first | trivial | rfl | assumption | omega | decide | exact Or.inl rfl | exact Or.inr (Or.inl rfl) | exact Or.inr (Or.inr rfl)))) [] (by decide) rfl (Nat.le_of_ble_eq_true rfl) (Nat.le_of_ble_eq_true rfl)
set_option maxHeartbeats 4000000 in
set_option maxRecDepth 100000 in
theorem c168_J1_charAt_3b067 (l : Launch) (g : GD) (x0 : Int32) (i_x0 : (0 ≤ (Int32.toInt x0) ∧ (Int32.toInt x0) ≤ 1)) (sz : Nat) : Met l yJ1_charAt_3b067 wsJ1_charAt_3b067 ({ frames := 2, cells := 0, slots := 0, locals := 43 }) (va_Pc [.ref (g.2.2.2 10), .int x0] (PW g [] sz)) (va_Qi (fun (r : Int32) (_ : Unit) => 0 ≤ (Int32.toInt r) ∧ (Int32.toInt r) ≤ 65535 ∧ CHA wBar (Int32.toInt x0) (Int32.toInt r)) (BW g (va_A [] sz) (fun _ : Unit => [])) (va_A [] sz)) 0 0 (va_A [] sz) := by
  refine met_c RJ1 (by decide) rfl rfl (Nat.le_of_ble_eq_true rfl) [(0, .ref (g.2.2.2 10)), (1, .int x0)] rfl ?_
  intro p e s m args below meth c A Q C hnm Rt
  refine r_iload_n 0 1 C dJ1_charAt_3b067_0 rfl ?_
  refine r_aload_n 1 0 C dJ1_charAt_3b067_1 rfl ?_
  refine r_stlen 2 2 C dJ1_charAt_3b067_2 ((C.2.2.2.2.2.1.2.2.1.1 10 (by decide)).2.2.2) (by decide) ?_
  refine r_callSv 3 C dJ1_charAt_3b067_3 [] [] [] (fun sz => c160_J0_checkIndex_df160 l g x0 i_x0 sz) gJ1_charAt_3b067_J0_checkIndex_df160 rfl ⟨rfl, rfl⟩ 2 (by decide) ⟨Nat.le_of_ble_eq_true rfl, Nat.le_of_ble_eq_true rfl⟩ [] [] rfl rfl (by decide) (by decide) (by decide) rfl rfl (Nat.le_of_ble_eq_true rfl) ⟨Nat.le_of_ble_eq_true rfl, Nat.le_of_ble_eq_true rfl⟩ (fun  _ w1 => ?_)
  refine r_ws [] rfl ?_
  refine r_aload_n 6 0 C dJ1_charAt_3b067_6 rfl ?_
  refine r_iload_n 7 1 C dJ1_charAt_3b067_7 rfl ?_
  obtain ⟨z2, ez2⟩ : ∃ z_9, (stB.getD 10 []).getD (Int32.toNatClampNeg x0) 0 = z_9 := ⟨_, rfl⟩
  refine r_stb 8 (.int z2) C dJ1_charAt_3b067_8 ((C.2.2.2.2.2.1.2.2.1.1 10 (by decide)).2.2.2) (vinI (n := 2) (by omega) (by omega)) (by rw [← ez2]) ?_
  have gz2 := fb_rng z2
  refine r_sipush 9 255 C dJ1_charAt_3b067_9 (by decide) ?_
  obtain ⟨z3, ez3⟩ : ∃ z_9, z2 &&& 255 = z_9 := ⟨_, rfl⟩
  have tz3 : 0 ≤ (Int32.toInt z3) ∧ (Int32.toInt z3) ≤ 255 := by rw [← ez3]; exact and_255 z2
  refine r_iand 12 z3 C dJ1_charAt_3b067_12 ez3 ?_
  obtain ⟨z4, ez4⟩ : ∃ z_9, (Int32.toUInt32 z3 % 65536).toInt32 = z_9 := ⟨_, rfl⟩
  have tz4 : 0 ≤ (Int32.toInt z4) ∧ (Int32.toInt z4) ≤ 65535 := by rw [← ez4]; exact chr_in _
  refine r_i2c 13 z4 C dJ1_charAt_3b067_13 ez4 ?_
  exact r_cret 14 Rt dJ1_charAt_3b067_14 (by rw [← ez4]; exact pk_nc _) () (show 0 ≤ (Int32.toInt z4) ∧ (Int32.toInt z4) ≤ 65535 ∧ CHA wBar (Int32.toInt x0) (Int32.toInt z4) from ⟨(by ((repeat' apply And.intro) <;> first | trivial | rfl | assumption | omega | decide | exact Or.inl rfl | exact Or.inr (Or.inl rfl) | exact Or.inr (Or.inr rfl))), (by ((repeat' apply And.intro) <;> first | trivial | rfl | assumption | omega | decide | exact Or.inl rfl | exact Or.inr (Or.inl rfl) | exact Or.inr (Or.inr rfl))), (by have h_9 : ∀ j, j < 2 → Int32.toInt ((Int32.toUInt32 ((stB.getD 10 []).getD j 0 &&& 255) % 65536).toInt32) = wBar.getD j 0 := (by decide); subst_vars; exact h_9 _ (show (Int32.toInt x0).toNat < 2 by omega))⟩) [] (by decide) rfl (Nat.le_of_ble_eq_true rfl) (Nat.le_of_ble_eq_true rfl)
set_option maxHeartbeats 4000000 in
set_option maxRecDepth 100000 in
theorem c169_J0_charAt_5068e (l : Launch) (g : GD) (x0 : Int32) (i_x0 : (0 ≤ (Int32.toInt x0) ∧ (Int32.toInt x0) ≤ 1)) (sz : Nat) : Met l yJ0_charAt_5068e wsJ0_charAt_5068e ({ frames := 3, cells := 0, slots := 0, locals := 64 }) (va_Pc [.ref (g.2.2.1 10), .int x0] (PW g [] sz)) (va_Qi (fun (r : Int32) (_ : Unit) => 0 ≤ (Int32.toInt r) ∧ (Int32.toInt r) ≤ 65535 ∧ CHA wBar (Int32.toInt x0) (Int32.toInt r)) (BW g (va_A [] sz) (fun _ : Unit => [])) (va_A [] sz)) 0 0 (va_A [] sz) := by
  refine met_c RJ0 (by decide) rfl rfl (Nat.le_of_ble_eq_true rfl) [(0, .ref (g.2.2.1 10)), (1, .int x0)] rfl ?_
  intro p e s m args below meth c A Q C hnm Rt
  refine r_aload_n 0 0 C dJ0_charAt_5068e_0 rfl ?_
  refine r_scallVi 1 C dJ0_charAt_5068e_1 [] 10 (by decide) [] [] (fun sz => c167_J0_isLatin1_aae02 l g   sz) gJ0_charAt_5068e_J0_isLatin1_aae02 rfl ⟨rfl, rfl⟩ 0 (by decide) ⟨Nat.le_of_ble_eq_true rfl, Nat.le_of_ble_eq_true rfl⟩ [] [] rfl rfl (by decide) (by decide) (by decide) rfl rfl (Nat.le_of_ble_eq_true rfl) ⟨Nat.le_of_ble_eq_true rfl, Nat.le_of_ble_eq_true rfl⟩ (fun r1 _ w2 => ?_)
  refine r_ws [] rfl ?_
  have p3 : 1 = r1 := (w2).symm
  subst p3
  refine r_if_eq_f 4 16 C dJ0_charAt_5068e_4 (by decide) (by decide) ?_
  refine r_aload_n 7 0 C dJ0_charAt_5068e_7 rfl ?_
  refine r_sget 8 10 C dJ0_charAt_5068e_8 ((C.2.2.2.2.2.1.2.2.1.1 10 (by decide)).2.2.1) (mg 1 rfl) ?_
  refine r_iload_n 11 1 C dJ0_charAt_5068e_11 rfl ?_
  refine r_callSi 12 C dJ0_charAt_5068e_12 [] [] [] (fun sz => c168_J1_charAt_3b067 l g x0 i_x0 sz) gJ0_charAt_5068e_J1_charAt_3b067 rfl ⟨rfl, rfl⟩ 2 (by decide) ⟨Nat.le_of_ble_eq_true rfl, Nat.le_of_ble_eq_true rfl⟩ [] [] rfl rfl (by decide) (by decide) (by decide) rfl rfl (Nat.le_of_ble_eq_true rfl) ⟨Nat.le_of_ble_eq_true rfl, Nat.le_of_ble_eq_true rfl⟩ (fun r4 _ w5 => ?_)
  refine r_ws [] rfl ?_
  have p6 : 0 ≤ (Int32.toInt r4) := w5.1
  have p7 : (Int32.toInt r4) ≤ 65535 := w5.2.1
  have p8 : CHA wBar (Int32.toInt x0) (Int32.toInt r4) := w5.2.2
  exact r_cret 15 Rt dJ0_charAt_5068e_15 (nc_in (by omega) (by omega)) () (show 0 ≤ (Int32.toInt r4) ∧ (Int32.toInt r4) ≤ 65535 ∧ CHA wBar (Int32.toInt x0) (Int32.toInt r4) from ⟨(show _ ∧ _ from ⟨p6, p7⟩).1, (show _ ∧ _ from ⟨p6, p7⟩).2, (by exact p8)⟩) [] (by decide) rfl (Nat.le_of_ble_eq_true rfl) (Nat.le_of_ble_eq_true rfl)
set_option maxHeartbeats 4000000 in
set_option maxRecDepth 100000 in
theorem c170_X10_isAt (l : Launch) (g : GD) (h0 : Nat) (h1 : Nat) (x0 : Int32) (x1 : Int32) (fn0 : Nat → Int32) (i_x0 : (0 ≤ (Int32.toInt x0) ∧ (Int32.toInt x0) ≤ 1500)) (i_x1 : (0 ≤ (Int32.toInt x1) ∧ (Int32.toInt x1) ≤ 1500)) (sz : Nat) : Met l yX10_isAt wsX10_isAt ({ frames := 4, cells := 0, slots := 0, locals := 85 }) (va_Pc [.ref h0, .int x0, .ref (g.2.2.1 10)] (PW g [(h0, .inr (4, [.ref h1, .int x1])), (h1, .inl (gB g, 1500, .inl fn0))] sz)) (va_Qi (fun (r : Int32) (_ : Unit) => 0 ≤ (Int32.toInt r) ∧ (Int32.toInt r) ≤ 1 ∧ ISB (Int32.toInt r) (WAT (GB fn0 (Int32.toInt x1)) (Int32.toInt x0) wBar)) (BW g (va_A [(h0, .inr (4, [.ref h1, .int x1])), (h1, .inl (gB g, 1500, .inl fn0))] sz) (fun _ : Unit => [(h0, .inr (4, [.ref h1, .int x1])), (h1, .inl (gB g, 1500, .inl fn0))])) (va_A [(h0, .inr (4, [.ref h1, .int x1])), (h1, .inl (gB g, 1500, .inl fn0))] sz)) 0 0 (va_A [(h0, .inr (4, [.ref h1, .int x1])), (h1, .inl (gB g, 1500, .inl fn0))] sz) := by
  refine met_z RX10 (by decide) rfl rfl (Nat.le_of_ble_eq_true rfl) [(0, .ref h0), (1, .int x0), (2, .ref (g.2.2.1 10))] rfl ?_
  intro p e s m args below meth c A Q C hnm Rt
  refine r_iconst 0 0 C dX10_isAt_0 (by decide) ?_
  refine r_istore_n 1 C dX10_isAt_1 [(3, .int 0), (0, .ref h0), (1, .int x0), (2, .ref (g.2.2.1 10))] (by decide) rfl ?_
  have lp3 : ∀ (n2 : Nat) (z1 : Int32), (0 ≤ (Int32.toInt z1) ∧ (Int32.toInt z1) ≤ 2) → (WPF (GB fn0 (Int32.toInt x1)) (Int32.toInt x0) wBar (Int32.toInt z1)) → Int.toNat (2 - (Int32.toInt z1)) < n2 → WW p l e ({ frames := 4, cells := 0, slots := 0, locals := 85 } : Room) s m args below meth c A Q g 4 0 0 [(h0, .inr (4, [.ref h1, .int x1])), (h1, .inl (gB g, 1500, .inl fn0))] 2 [(3, .int z1), (0, .ref h0), (1, .int x0), (2, .ref (g.2.2.1 10))] [] := by
    intro n2
    induction n2 with
    | zero => intro z1 i6 j7 hm5; exact absurd hm5 (Nat.not_lt_zero _)
    | succ n2 ih4 =>
      intro z1 i6 j7 hm5
      obtain ⟨i6a, i6b⟩ := i6
      refine r_iload_n 2 0 C dX10_isAt_2 rfl ?_
      refine r_aload_n 3 3 C dX10_isAt_3 rfl ?_
      refine r_scallVi 4 C dX10_isAt_4 [.int z1] 10 (by decide) [] [(h0, .inr (4, [.ref h1, .int x1])), (h1, .inl (gB g, 1500, .inl fn0))] (fun sz => c166_J0_length_8abf5 l g   sz) gX10_isAt_J0_length_8abf5 rfl ⟨rfl, rfl⟩ 0 (by decide) ⟨Nat.le_of_ble_eq_true rfl, Nat.le_of_ble_eq_true rfl⟩ [] [0, 1] rfl rfl (by decide) (by decide) (by decide) rfl rfl (Nat.le_of_ble_eq_true rfl) ⟨Nat.le_of_ble_eq_true rfl, Nat.le_of_ble_eq_true rfl⟩ (fun r8 _ w9 => ?_)
      refine r_ws [(h0, .inr (4, [.ref h1, .int x1])), (h1, .inl (gB g, 1500, .inl fn0))] rfl ?_
      have p10 : 2 = r8 := (w9).symm
      subst p10
      refine r_icmp_ge 7 34 C dX10_isAt_7 (by decide) (fun c11 => ?_) (fun c11 => ?_)
      · skip
        have k12 : 2 ≤ (Int32.toInt z1) := (fa_le 2 z1).mp c11
        refine r_iconst 34 1 C dX10_isAt_34 (by decide) ?_
        exact r_zret 35 Rt dX10_isAt_35 (by decide) () (show 0 ≤ (Int32.toInt 1) ∧ (Int32.toInt 1) ≤ 1 ∧ ISB 1 (WAT (GB fn0 (Int32.toInt x1)) (Int32.toInt x0) wBar) from ⟨(by ((repeat' apply And.intro) <;> first | trivial | rfl | assumption | omega | decide | exact Or.inl rfl | exact Or.inr (Or.inl rfl) | exact Or.inr (Or.inr rfl))), (by ((repeat' apply And.intro) <;> first | trivial | rfl | assumption | omega | decide | exact Or.inl rfl | exact Or.inr (Or.inl rfl) | exact Or.inr (Or.inr rfl))), (by first | exact wat_yes (show WPF (GB fn0 (Int32.toInt x1)) (Int32.toInt x0) wBar (Int32.toInt z1) by assumption) (show (2 : Int) ≤ _ by omega))⟩) [0, 1] (by decide) rfl (Nat.le_of_ble_eq_true rfl) (Nat.le_of_ble_eq_true rfl)
      · skip
        have k13 : ¬ (2 ≤ (Int32.toInt z1)) := fun h_9 => c11 ((fa_le 2 z1).mpr h_9)
        refine r_aload_n 10 1 C dX10_isAt_10 rfl ?_
        refine r_iload_n 11 2 C dX10_isAt_11 rfl ?_
        refine r_iload_n 12 0 C dX10_isAt_12 rfl ?_
        obtain ⟨z14, ez14⟩ : ∃ z_9, x0 + z1 = z_9 := ⟨_, rfl⟩
        have tz14 : (Int32.toInt z14) = (Int32.toInt x0) + (Int32.toInt z1) := by rw [← ez14]; exact fb_addIv (a := 0) (b := 1500) (c := 0) (d := 2) i_x0 ⟨i6a, i6b⟩ (by decide) (by decide)
        refine r_iadd 13 z14 C dX10_isAt_13 ez14 ?_
        obtain ⟨z15, ez15⟩ : ∃ z_9, Int32.toInt64 z14 = z_9 := ⟨_, rfl⟩
        have tz15 : (Int64.toInt z15) = (Int32.toInt z14) := by rw [← ez15]; exact Int32.toInt_toInt64 _
        refine r_i2l 14 z15 C dX10_isAt_14 ez15 ?_
        refine r_callVi 15 C dX10_isAt_15 [] [(h0, .inr (4, [.ref h1, .int x1])), (h1, .inl (gB g, 1500, .inl fn0))] [] (fun sz => c14_X5_get l g h0 h1 z15 x1 fn0 i_x1 sz) gX10_isAt_X5_get rfl ⟨rfl, rfl⟩ 1 (by decide) ⟨Nat.le_of_ble_eq_true rfl, Nat.le_of_ble_eq_true rfl⟩ 0 rfl rfl [0, 1] [] rfl rfl (by decide) (by decide) (by decide) rfl rfl (Nat.le_of_ble_eq_true rfl) ⟨Nat.le_of_ble_eq_true rfl, Nat.le_of_ble_eq_true rfl⟩ (fun r16 _ w17 => ?_)
        refine r_ws [(h0, .inr (4, [.ref h1, .int x1])), (h1, .inl (gB g, 1500, .inl fn0))] rfl ?_
        have p18 : -1 ≤ (Int32.toInt r16) := w17.1
        have p19 : (Int32.toInt r16) ≤ 255 := w17.2.1
        have p20 : HID ((0 ≤ (Int64.toInt z15) ∧ (Int64.toInt z15) < (Int32.toInt x1) ∧ r16 = (fn0 (Int.toNat (Int64.toInt z15)) &&& 255)) ∨ (((Int64.toInt z15) < 0 ∨ (Int32.toInt x1) ≤ (Int64.toInt z15)) ∧ r16 = -1)) := w17.2.2.1
        have p21 : (Int32.toInt r16) = GB fn0 (Int32.toInt x1) (Int64.toInt z15) := w17.2.2.2
        refine r_aload_n 18 3 C dX10_isAt_18 rfl ?_
        refine r_iload_n 19 0 C dX10_isAt_19 rfl ?_
        refine r_scallVi 20 C dX10_isAt_20 [.int r16] 10 (by decide) [] [(h0, .inr (4, [.ref h1, .int x1])), (h1, .inl (gB g, 1500, .inl fn0))] (fun sz => c169_J0_charAt_5068e l g z1 ⟨by omega, by omega⟩ sz) gX10_isAt_J0_charAt_5068e rfl ⟨rfl, rfl⟩ 1 (by decide) ⟨Nat.le_of_ble_eq_true rfl, Nat.le_of_ble_eq_true rfl⟩ [] [0, 1] rfl rfl (by decide) (by decide) (by decide) rfl rfl (Nat.le_of_ble_eq_true rfl) ⟨Nat.le_of_ble_eq_true rfl, Nat.le_of_ble_eq_true rfl⟩ (fun r22 _ w23 => ?_)
        refine r_ws [(h0, .inr (4, [.ref h1, .int x1])), (h1, .inl (gB g, 1500, .inl fn0))] rfl ?_
        have p24 : 0 ≤ (Int32.toInt r22) := w23.1
        have p25 : (Int32.toInt r22) ≤ 65535 := w23.2.1
        have p26 : CHA wBar (Int32.toInt z1) (Int32.toInt r22) := w23.2.2
        refine r_icmp_eq 23 28 C dX10_isAt_23 (by decide) (fun c27 => ?_) (fun c27 => ?_)
        · skip
          have k28 : (Int32.toInt r16) = (Int32.toInt r22) := (fa_eq r16 r22).mp c27
          obtain ⟨z29, ez29⟩ : ∃ z_9, z1 + Int32.ofInt 1 = z_9 := ⟨_, rfl⟩
          have tz29 : (Int32.toInt z29) = (Int32.toInt z1) + 1 := by rw [← ez29]; exact fb_addIv (a := 0) (b := 2) (c := 1) (d := 1) ⟨i6a, i6b⟩ ⟨by decide, by decide⟩ (by decide) (by decide)
          refine r_iinc 28 0 z29 C dX10_isAt_28 rfl ez29 [(3, .int z29), (0, .ref h0), (1, .int x0), (2, .ref (g.2.2.1 10))] (by decide) rfl ?_
          refine r_goto 31 2 C dX10_isAt_31 (by decide) ?_
          exact ih4 z29 ⟨by omega, by omega⟩ (wpf_step (show WPF (GB fn0 (Int32.toInt x1)) (Int32.toInt x0) wBar (Int32.toInt z1) by assumption) (by omega) (by omega) p21 (by omega) p26 (by omega)) (by omega)
        · skip
          have k30 : ¬ ((Int32.toInt r16) = (Int32.toInt r22)) := fun h_9 => c27 ((fa_eq r16 r22).mpr h_9)
          refine r_iconst 26 0 C dX10_isAt_26 (by decide) ?_
          exact r_zret 27 Rt dX10_isAt_27 (by decide) () (show 0 ≤ (Int32.toInt 0) ∧ (Int32.toInt 0) ≤ 1 ∧ ISB 0 (WAT (GB fn0 (Int32.toInt x1)) (Int32.toInt x0) wBar) from ⟨(by ((repeat' apply And.intro) <;> first | trivial | rfl | assumption | omega | decide | exact Or.inl rfl | exact Or.inr (Or.inl rfl) | exact Or.inr (Or.inr rfl))), (by ((repeat' apply And.intro) <;> first | trivial | rfl | assumption | omega | decide | exact Or.inl rfl | exact Or.inr (Or.inl rfl) | exact Or.inr (Or.inr rfl))), (by first | exact wat_yes (show WPF (GB fn0 (Int32.toInt x1)) (Int32.toInt x0) wBar (Int32.toInt z1) by assumption) (show (2 : Int) ≤ _ by omega) | exact wat_no (by omega) (show _ < (2 : Int) by omega) p21 (by omega) p26 (by omega))⟩) [0, 1] (by decide) rfl (Nat.le_of_ble_eq_true rfl) (Nat.le_of_ble_eq_true rfl)
  exact lp3 _ 0 (by decide) wpf_0 (Nat.lt_succ_self _)
set_option maxHeartbeats 4000000 in
set_option maxRecDepth 100000 in
theorem c171_X10_isWord (l : Launch) (g : GD) (h0 : Nat) (h1 : Nat) (h2 : Nat) (h3 : Nat) (x0 : Int32) (x1 : Int32) (x2 : Int32) (x3 : Int32) (x4 : Int32) (x5 : Int32) (x6 : Int32) (x7 : Int32) (x8 : Int32) (fn0 : Nat → Int32) (i_x0 : (0 ≤ (Int32.toInt x0) ∧ (Int32.toInt x0) ≤ 1500)) (i_x1 : (0 ≤ (Int32.toInt x1) ∧ (Int32.toInt x1) ≤ 1500)) (i_x2 : (0 ≤ (Int32.toInt x2) ∧ (Int32.toInt x2) ≤ 1500)) (i_x3 : (-1 ≤ (Int32.toInt x3) ∧ (Int32.toInt x3) ≤ 9999)) (i_x4 : (0 ≤ (Int32.toInt x4) ∧ (Int32.toInt x4) ≤ 1)) (i_x5 : (-1 ≤ (Int32.toInt x5) ∧ (Int32.toInt x5) ≤ 9999)) (i_x6 : (0 ≤ (Int32.toInt x6) ∧ (Int32.toInt x6) ≤ 1500)) (i_x7 : (0 ≤ (Int32.toInt x7) ∧ (Int32.toInt x7) ≤ 1500)) (i_x8 : (0 ≤ (Int32.toInt x8) ∧ (Int32.toInt x8) ≤ 1500)) (sz : Nat) : Met l yX10_isWord wsX10_isWord ({ frames := 5, cells := 0, slots := 0, locals := 108 }) (va_Pc [.ref h0, .ref (g.2.2.1 10)] (PW g [(h0, .inr (9, [.ref h3, .ref h1, .int x0, .int x1, .int x2, .int x3, .int x4, .int x5, .int x6, .int x7])), (h1, .inr (4, [.ref h2, .int x8])), (h2, .inl (gB g, 1500, .inl fn0))] sz)) (va_Qi (fun (r : Int32) (_ : Unit) => 0 ≤ (Int32.toInt r) ∧ (Int32.toInt r) ≤ 1 ∧ ISB (Int32.toInt r) (IW (GB fn0 (Int32.toInt x8)) (Int32.toInt x1) (Int32.toInt x2) wBar)) (BW g (va_A [(h0, .inr (9, [.ref h3, .ref h1, .int x0, .int x1, .int x2, .int x3, .int x4, .int x5, .int x6, .int x7])), (h1, .inr (4, [.ref h2, .int x8])), (h2, .inl (gB g, 1500, .inl fn0))] sz) (fun _ : Unit => [(h0, .inr (9, [.ref h3, .ref h1, .int x0, .int x1, .int x2, .int x3, .int x4, .int x5, .int x6, .int x7])), (h1, .inr (4, [.ref h2, .int x8])), (h2, .inl (gB g, 1500, .inl fn0))])) (va_A [(h0, .inr (9, [.ref h3, .ref h1, .int x0, .int x1, .int x2, .int x3, .int x4, .int x5, .int x6, .int x7])), (h1, .inr (4, [.ref h2, .int x8])), (h2, .inl (gB g, 1500, .inl fn0))] sz)) 0 0 (va_A [(h0, .inr (9, [.ref h3, .ref h1, .int x0, .int x1, .int x2, .int x3, .int x4, .int x5, .int x6, .int x7])), (h1, .inr (4, [.ref h2, .int x8])), (h2, .inl (gB g, 1500, .inl fn0))] sz) := by
  refine met_z RX10 (by decide) rfl rfl (Nat.le_of_ble_eq_true rfl) [(0, .ref h0), (1, .ref (g.2.2.1 10))] rfl ?_
  intro p e s m args below meth c A Q C hnm Rt
  have hiX10 : ∀ w ∈ wsX100, w ∈ wsX10_isWord := fun w h => List.mem_cons_of_mem _ (List.mem_append_left _ (List.mem_append_right _ (h)))
  refine r_aload_n 0 0 C dX10_isWord_0 rfl ?_
  refine r_get 1 C dX10_isWord_1 (k := 4) 0 rfl rfl hiX10 (by decide) rfl (mg 1 rfl) (Or.inl rfl) rfl ?_
  refine r_aload_n 4 0 C dX10_isWord_4 rfl ?_
  refine r_get 5 C dX10_isWord_5 (k := 3) 0 rfl rfl hiX10 (by decide) rfl (mg 2 rfl) (Or.inl rfl) rfl ?_
  obtain ⟨z1, ez1⟩ : ∃ z_9, x2 - x1 = z_9 := ⟨_, rfl⟩
  have tz1 : (Int32.toInt z1) = (Int32.toInt x2) - (Int32.toInt x1) := by rw [← ez1]; exact fb_subIv (a := 0) (b := 1500) (c := 0) (d := 1500) i_x2 i_x1 (by decide) (by decide)
  refine r_isub 8 z1 C dX10_isWord_8 ez1 ?_
  refine r_aload_n 9 1 C dX10_isWord_9 rfl ?_
  refine r_scallVi 10 C dX10_isWord_10 [.int z1] 10 (by decide) [] [(h0, .inr (9, [.ref h3, .ref h1, .int x0, .int x1, .int x2, .int x3, .int x4, .int x5, .int x6, .int x7])), (h1, .inr (4, [.ref h2, .int x8])), (h2, .inl (gB g, 1500, .inl fn0))] (fun sz => c166_J0_length_8abf5 l g   sz) gX10_isWord_J0_length_8abf5 rfl ⟨rfl, rfl⟩ 0 (by decide) ⟨Nat.le_of_ble_eq_true rfl, Nat.le_of_ble_eq_true rfl⟩ [] [0, 1, 2] rfl rfl (by decide) (by decide) (by decide) rfl rfl (Nat.le_of_ble_eq_true rfl) ⟨Nat.le_of_ble_eq_true rfl, Nat.le_of_ble_eq_true rfl⟩ (fun r2 _ w3 => ?_)
  refine r_ws [(h0, .inr (9, [.ref h3, .ref h1, .int x0, .int x1, .int x2, .int x3, .int x4, .int x5, .int x6, .int x7])), (h1, .inr (4, [.ref h2, .int x8])), (h2, .inl (gB g, 1500, .inl fn0))] rfl ?_
  have p4 : 2 = r2 := (w3).symm
  subst p4
  refine r_icmp_ne 13 35 C dX10_isWord_13 (by decide) (fun c5 => ?_) (fun c5 => ?_)
  · skip
    have k6 : ¬ ((Int32.toInt z1) = 2) := fun h_9 => c5 ((fa_eq z1 2).mpr h_9)
    refine r_iconst 35 0 C dX10_isWord_35 (by decide) ?_
    exact r_zret 36 Rt dX10_isWord_36 (by decide) () (show 0 ≤ (Int32.toInt 0) ∧ (Int32.toInt 0) ≤ 1 ∧ ISB 0 (IW (GB fn0 (Int32.toInt x8)) (Int32.toInt x1) (Int32.toInt x2) wBar) from ⟨(by ((repeat' apply And.intro) <;> first | trivial | rfl | assumption | omega | decide | exact Or.inl rfl | exact Or.inr (Or.inl rfl) | exact Or.inr (Or.inr rfl))), (by ((repeat' apply And.intro) <;> first | trivial | rfl | assumption | omega | decide | exact Or.inl rfl | exact Or.inr (Or.inl rfl) | exact Or.inr (Or.inr rfl))), (by exact Or.inr ⟨by first | rfl | omega, fun h_9 => absurd h_9.1 (show ¬ (_ = (2 : Int)) by omega)⟩)⟩) [0, 1, 2] (by decide) rfl (Nat.le_of_ble_eq_true rfl) (Nat.le_of_ble_eq_true rfl)
  · skip
    have k7 : (Int32.toInt z1) = 2 := (fa_eq z1 2).mp c5
    refine r_aload_n 16 0 C dX10_isWord_16 rfl ?_
    refine r_get 17 C dX10_isWord_17 (k := 1) 0 rfl rfl hiX10 (by decide) rfl (mg 3 rfl) (Or.inl rfl) rfl ?_
    refine r_aload_n 20 0 C dX10_isWord_20 rfl ?_
    refine r_get 21 C dX10_isWord_21 (k := 3) 0 rfl rfl hiX10 (by decide) rfl (mg 2 rfl) (Or.inl rfl) rfl ?_
    refine r_aload_n 24 1 C dX10_isWord_24 rfl ?_
    refine r_callSi 25 C dX10_isWord_25 [] [(h1, .inr (4, [.ref h2, .int x8])), (h2, .inl (gB g, 1500, .inl fn0))] [(h0, .inr (9, [.ref h3, .ref h1, .int x0, .int x1, .int x2, .int x3, .int x4, .int x5, .int x6, .int x7]))] (fun sz => c170_X10_isAt l g h1 h2 x1 x8 fn0 i_x1 i_x8 sz) gX10_isWord_X10_isAt rfl ⟨rfl, rfl⟩ 3 (by decide) ⟨Nat.le_of_ble_eq_true rfl, Nat.le_of_ble_eq_true rfl⟩ [1, 2] [0] rfl rfl (by decide) (by decide) (by decide) rfl rfl (Nat.le_of_ble_eq_true rfl) ⟨Nat.le_of_ble_eq_true rfl, Nat.le_of_ble_eq_true rfl⟩ (fun r8 _ w9 => ?_)
    refine r_ws [(h0, .inr (9, [.ref h3, .ref h1, .int x0, .int x1, .int x2, .int x3, .int x4, .int x5, .int x6, .int x7])), (h1, .inr (4, [.ref h2, .int x8])), (h2, .inl (gB g, 1500, .inl fn0))] rfl ?_
    have p10 : 0 ≤ (Int32.toInt r8) := w9.1
    have p11 : (Int32.toInt r8) ≤ 1 := w9.2.1
    have p12 : ISB (Int32.toInt r8) (WAT (GB fn0 (Int32.toInt x8)) (Int32.toInt x1) wBar) := w9.2.2
    refine r_if_eq 28 35 C dX10_isWord_28 (by decide) (fun c13 => ?_) (fun c13 => ?_)
    · skip
      have k14 : (Int32.toInt r8) = 0 := (fa_eq r8 0).mp c13
      refine r_iconst 35 0 C dX10_isWord_35 (by decide) ?_
      exact r_zret 36 Rt dX10_isWord_36 (by decide) () (show 0 ≤ (Int32.toInt 0) ∧ (Int32.toInt 0) ≤ 1 ∧ ISB 0 (IW (GB fn0 (Int32.toInt x8)) (Int32.toInt x1) (Int32.toInt x2) wBar) from ⟨(by ((repeat' apply And.intro) <;> first | trivial | rfl | assumption | omega | decide | exact Or.inl rfl | exact Or.inr (Or.inl rfl) | exact Or.inr (Or.inr rfl))), (by ((repeat' apply And.intro) <;> first | trivial | rfl | assumption | omega | decide | exact Or.inl rfl | exact Or.inr (Or.inl rfl) | exact Or.inr (Or.inr rfl))), (by exact isb_r (isb_and p12 (show _ = (2 : Int) by omega)) (by omega))⟩) [0, 1, 2] (by decide) rfl (Nat.le_of_ble_eq_true rfl) (Nat.le_of_ble_eq_true rfl)
    · skip
      have k15 : ¬ ((Int32.toInt r8) = 0) := fun h_9 => c13 ((fa_eq r8 0).mpr h_9)
      refine r_iconst 31 1 C dX10_isWord_31 (by decide) ?_
      refine r_goto 32 36 C dX10_isWord_32 (by decide) ?_
      exact r_zret 36 Rt dX10_isWord_36 (by decide) () (show 0 ≤ (Int32.toInt 1) ∧ (Int32.toInt 1) ≤ 1 ∧ ISB 1 (IW (GB fn0 (Int32.toInt x8)) (Int32.toInt x1) (Int32.toInt x2) wBar) from ⟨(by ((repeat' apply And.intro) <;> first | trivial | rfl | assumption | omega | decide | exact Or.inl rfl | exact Or.inr (Or.inl rfl) | exact Or.inr (Or.inr rfl))), (by ((repeat' apply And.intro) <;> first | trivial | rfl | assumption | omega | decide | exact Or.inl rfl | exact Or.inr (Or.inl rfl) | exact Or.inr (Or.inr rfl))), (by exact isb_r (isb_and p12 (show _ = (2 : Int) by omega)) (by omega))⟩) [0, 1, 2] (by decide) rfl (Nat.le_of_ble_eq_true rfl) (Nat.le_of_ble_eq_true rfl)
set_option maxHeartbeats 4000000 in
set_option maxRecDepth 100000 in
theorem c172_X10_takeProgram (l : Launch) (g : GD) (h0 : Nat) (h1 : Nat) (h2 : Nat) (h3 : Nat) (x0 : Int32) (x1 : Int32) (x2 : Int32) (x3 : Int32) (x4 : Int32) (x5 : Int32) (x6 : Int32) (x7 : Int32) (x8 : Int32) (fn0 : Nat → Int32) (i_x0 : (0 ≤ (Int32.toInt x0) ∧ (Int32.toInt x0) ≤ 1500)) (i_x1 : (0 ≤ (Int32.toInt x1) ∧ (Int32.toInt x1) ≤ 1500)) (i_x2 : (0 ≤ (Int32.toInt x2) ∧ (Int32.toInt x2) ≤ 1500)) (i_x3 : (-1 ≤ (Int32.toInt x3) ∧ (Int32.toInt x3) ≤ 9999)) (i_x4 : (0 ≤ (Int32.toInt x4) ∧ (Int32.toInt x4) ≤ 1)) (i_x5 : (-1 ≤ (Int32.toInt x5) ∧ (Int32.toInt x5) ≤ 9999)) (i_x6 : (0 ≤ (Int32.toInt x6) ∧ (Int32.toInt x6) ≤ 1500)) (i_x7 : (0 ≤ (Int32.toInt x7) ∧ (Int32.toInt x7) ≤ 1500)) (i_x8 : (0 ≤ (Int32.toInt x8) ∧ (Int32.toInt x8) ≤ 1500)) (sz : Nat) : Met l yX10_takeProgram wsX10_takeProgram ({ frames := 6, cells := 0, slots := 0, locals := 129 }) (va_Pc [.ref h0] (PW g [(h0, .inr (9, [.ref h3, .ref h1, .int x0, .int x1, .int x2, .int x3, .int x4, .int x5, .int x6, .int x7])), (h1, .inr (4, [.ref h2, .int x8])), (h2, .inl (gB g, 1500, .inl fn0))] sz)) (va_Qi (fun (r : Int32) (u : (Int32) × (Int32) × (Int32) × (Int32) × (Int32) × (Int32) × (Nat → Int32)) => 0 ≤ (Int32.toInt r) ∧ (Int32.toInt r) ≤ 2 ∧ 0 ≤ (Int32.toInt (u.1)) ∧ (Int32.toInt (u.1)) ≤ 1500 ∧ 0 ≤ (Int32.toInt (u.2.1)) ∧ (Int32.toInt (u.2.1)) ≤ 1500 ∧ 0 ≤ (Int32.toInt (u.2.2.1)) ∧ (Int32.toInt (u.2.2.1)) ≤ 1500 ∧ -1 ≤ (Int32.toInt (u.2.2.2.1)) ∧ (Int32.toInt (u.2.2.2.1)) ≤ 9999 ∧ 0 ≤ (Int32.toInt (u.2.2.2.2.1)) ∧ (Int32.toInt (u.2.2.2.2.1)) ≤ 1500 ∧ 0 ≤ (Int32.toInt (u.2.2.2.2.2.1)) ∧ (Int32.toInt (u.2.2.2.2.2.1)) ≤ 1500 ∧ SEQ 0 (Int32.toInt r) (PRG (GB fn0 (Int32.toInt x8)) (Int32.toInt x8) (Int32.toInt x0)) (fun v => v = (Int32.toInt (u.1))) ∧ AGR (u.2.2.2.2.2.2) fn0 (Int32.toInt x8) (Int32.toInt (u.1)) ∧ (¬ ((Int32.toInt r) = 0) ∨ ((Int32.toInt x0) < (Int32.toInt (u.1)) ∧ (Int32.toInt (u.1)) ≤ (Int32.toInt x8))) ∧ (Int32.toInt x0) ≤ (Int32.toInt (u.1)) ∧ CND ((Int32.toInt r) = 0) (PRGX (GB fn0 (Int32.toInt x8)) (Int32.toInt x8) (Int32.toInt x0) = some ((Int32.toInt (u.1)), (Int32.toInt (u.2.2.2.1))) ∧ PGP fn0 (Int32.toInt x3) (u.2.2.2.2.2.2) (Int32.toInt (u.1)) (Int32.toInt (u.2.2.2.1)) (Int32.toInt (u.2.2.2.2.1)) (Int32.toInt (u.2.2.2.2.2.1))) ∧ LOW fn0 (u.2.2.2.2.2.2) (Int32.toInt x0)) (BW g (va_A [(h0, .inr (9, [.ref h3, .ref h1, .int x0, .int x1, .int x2, .int x3, .int x4, .int x5, .int x6, .int x7])), (h1, .inr (4, [.ref h2, .int x8])), (h2, .inl (gB g, 1500, .inl fn0))] sz) (fun u : (Int32) × (Int32) × (Int32) × (Int32) × (Int32) × (Int32) × (Nat → Int32) => [(h0, .inr (9, [.ref h3, .ref h1, .int u.1, .int u.2.1, .int u.2.2.1, .int x3, .int x4, .int u.2.2.2.1, .int u.2.2.2.2.1, .int u.2.2.2.2.2.1])), (h1, .inr (4, [.ref h2, .int x8])), (h2, .inl (gB g, 1500, .inl u.2.2.2.2.2.2))])) (va_A [(h0, .inr (9, [.ref h3, .ref h1, .int x0, .int x1, .int x2, .int x3, .int x4, .int x5, .int x6, .int x7])), (h1, .inr (4, [.ref h2, .int x8])), (h2, .inl (gB g, 1500, .inl fn0))] sz)) 0 0 (va_A [(h0, .inr (9, [.ref h3, .ref h1, .int x0, .int x1, .int x2, .int x3, .int x4, .int x5, .int x6, .int x7])), (h1, .inr (4, [.ref h2, .int x8])), (h2, .inl (gB g, 1500, .inl fn0))] sz) := by
  refine met_i RX10 (by decide) rfl rfl (Nat.le_of_ble_eq_true rfl) [(0, .ref h0)] rfl ?_
  intro p e s m args below meth c A Q C hnm Rt
  have hiX10 : ∀ w ∈ wsX100, w ∈ wsX10_takeProgram := fun w h => List.mem_cons_of_mem _ (List.mem_append_left _ (List.mem_append_right _ (h)))
  refine r_aload_n 0 0 C dX10_takeProgram_0 rfl ?_
  refine r_callVi 1 C dX10_takeProgram_1 [] [(h0, .inr (9, [.ref h3, .ref h1, .int x0, .int x1, .int x2, .int x3, .int x4, .int x5, .int x6, .int x7])), (h1, .inr (4, [.ref h2, .int x8])), (h2, .inl (gB g, 1500, .inl fn0))] [] (fun sz => c154_X10_takeCount l g h0 h1 h2 h3 x0 x1 x2 x3 x4 x5 x6 x7 x8 fn0 i_x0 i_x1 i_x2 i_x3 i_x4 i_x5 i_x6 i_x7 i_x8 sz) gX10_takeProgram_X10_takeCount rfl ⟨rfl, rfl⟩ 0 (by decide) ⟨Nat.le_of_ble_eq_true rfl, Nat.le_of_ble_eq_true rfl⟩ 0 rfl rfl [0, 1, 2] [] rfl rfl (by decide) (by decide) (by decide) rfl rfl (Nat.le_of_ble_eq_true rfl) ⟨Nat.le_of_ble_eq_true rfl, Nat.le_of_ble_eq_true rfl⟩ (fun r5 u7 w6 => ?_)
  obtain ⟨z1, z2, z3, z4⟩ := u7
  refine r_ws [(h0, .inr (9, [.ref h3, .ref h1, .int z1, .int z2, .int z3, .int x3, .int x4, .int z4, .int x6, .int x7])), (h1, .inr (4, [.ref h2, .int x8])), (h2, .inl (gB g, 1500, .inl fn0))] rfl ?_
  have p8 : 0 ≤ (Int32.toInt r5) := w6.1
  have p9 : (Int32.toInt r5) ≤ 2 := w6.2.1
  have p10 : 0 ≤ (Int32.toInt z1) := w6.2.2.1
  have p11 : (Int32.toInt z1) ≤ 1500 := w6.2.2.2.1
  have p12 : 0 ≤ (Int32.toInt z2) := w6.2.2.2.2.1
  have p13 : (Int32.toInt z2) ≤ 1500 := w6.2.2.2.2.2.1
  have p14 : 0 ≤ (Int32.toInt z3) := w6.2.2.2.2.2.2.1
  have p15 : (Int32.toInt z3) ≤ 1500 := w6.2.2.2.2.2.2.2.1
  have p16 : -1 ≤ (Int32.toInt z4) := w6.2.2.2.2.2.2.2.2.1
  have p17 : (Int32.toInt z4) ≤ 9999 := w6.2.2.2.2.2.2.2.2.2.1
  have p18 : SEQ 0 (Int32.toInt r5) (TLD (GB fn0 (Int32.toInt x8)) (Int32.toInt x8) (Int32.toInt x0)) (fun v => v = ((Int32.toInt z4), (Int32.toInt z1))) := w6.2.2.2.2.2.2.2.2.2.2.1
  have p19 : (¬ ((Int32.toInt r5) = 0) ∨ ((Int32.toInt x0) < (Int32.toInt z1) ∧ (Int32.toInt z1) ≤ (Int32.toInt x8) ∧ 0 ≤ (Int32.toInt z4))) := w6.2.2.2.2.2.2.2.2.2.2.2.1
  have p20 : (Int32.toInt x0) ≤ (Int32.toInt z1) := w6.2.2.2.2.2.2.2.2.2.2.2.2
  refine r_istore_n 4 C dX10_takeProgram_4 [(1, .int r5), (0, .ref h0)] (by decide) rfl ?_
  refine r_iload_n 5 0 C dX10_takeProgram_5 rfl ?_
  refine r_if_eq 6 11 C dX10_takeProgram_6 (by decide) (fun c21 => ?_) (fun c21 => ?_)
  · skip
    have k22 : (Int32.toInt r5) = 0 := (fa_eq r5 0).mp c21
    refine r_aload_n 11 1 C dX10_takeProgram_11 rfl ?_
    refine r_get 12 C dX10_takeProgram_12 (k := 7) 0 rfl rfl hiX10 (by decide) rfl (mg 1 rfl) (Or.inl rfl) rfl ?_
    refine r_istore_n 15 C dX10_takeProgram_15 [(2, .int z4), (1, .int r5), (0, .ref h0)] (by decide) rfl ?_
    refine r_aload_n 16 2 C dX10_takeProgram_16 rfl ?_
    refine r_callVi 17 C dX10_takeProgram_17 [] [(h0, .inr (9, [.ref h3, .ref h1, .int z1, .int z2, .int z3, .int x3, .int x4, .int z4, .int x6, .int x7])), (h1, .inr (4, [.ref h2, .int x8])), (h2, .inl (gB g, 1500, .inl fn0))] [] (fun sz => c115_X10_takeWord l g h0 h1 h2 h3 z1 z2 z3 x3 x4 z4 x6 x7 x8 fn0 ⟨p10, p11⟩ ⟨p12, p13⟩ ⟨p14, p15⟩ i_x3 i_x4 ⟨p16, p17⟩ i_x6 i_x7 i_x8 sz) gX10_takeProgram_X10_takeWord rfl ⟨rfl, rfl⟩ 0 (by decide) ⟨Nat.le_of_ble_eq_true rfl, Nat.le_of_ble_eq_true rfl⟩ 0 rfl rfl [0, 1, 2] [] rfl rfl (by decide) (by decide) (by decide) rfl rfl (Nat.le_of_ble_eq_true rfl) ⟨Nat.le_of_ble_eq_true rfl, Nat.le_of_ble_eq_true rfl⟩ (fun r26 u28 w27 => ?_)
    obtain ⟨z23, z24, z25⟩ := u28
    refine r_ws [(h0, .inr (9, [.ref h3, .ref h1, .int z23, .int z24, .int z25, .int x3, .int x4, .int z4, .int x6, .int x7])), (h1, .inr (4, [.ref h2, .int x8])), (h2, .inl (gB g, 1500, .inl fn0))] rfl ?_
    have p29 : 0 ≤ (Int32.toInt r26) := w27.1
    have p30 : (Int32.toInt r26) ≤ 1 := w27.2.1
    have p31 : 0 ≤ (Int32.toInt z23) := w27.2.2.1
    have p32 : (Int32.toInt z23) ≤ 1500 := w27.2.2.2.1
    have p33 : 0 ≤ (Int32.toInt z24) := w27.2.2.2.2.1
    have p34 : (Int32.toInt z24) ≤ 1500 := w27.2.2.2.2.2.1
    have p35 : 0 ≤ (Int32.toInt z25) := w27.2.2.2.2.2.2.1
    have p36 : (Int32.toInt z25) ≤ 1500 := w27.2.2.2.2.2.2.2.1
    have p37 : BSQ (Int32.toInt r26) (WRD (GB fn0 (Int32.toInt x8)) (Int32.toInt x8) (Int32.toInt z1)) (fun w => w = ((Int32.toInt z24), (Int32.toInt z25))) := w27.2.2.2.2.2.2.2.2.1
    have p38 : ((Int32.toInt z23) = (Int32.toInt z25) ∧ (Int32.toInt z1) ≤ (Int32.toInt z24) ∧ (Int32.toInt z24) ≤ (Int32.toInt z25) ∧ (((Int32.toInt r26) = 1 ∧ (Int32.toInt z24) < (Int32.toInt z25) ∧ (Int32.toInt z25) ≤ (Int32.toInt x8)) ∨ (Int32.toInt r26) = 0)) := w27.2.2.2.2.2.2.2.2.2
    refine r_if_ne 20 25 C dX10_takeProgram_20 (by decide) (fun c39 => ?_) (fun c39 => ?_)
    · skip
      have k40 : ¬ ((Int32.toInt r26) = 0) := fun h_9 => c39 ((fa_eq r26 0).mpr h_9)
      refine r_aload_n 25 2 C dX10_takeProgram_25 rfl ?_
      refine r_ldcS 26 9 C rfl (by decide) rfl dX10_takeProgram_26 ?_
      refine r_callVi 28 C dX10_takeProgram_28 [] [(h0, .inr (9, [.ref h3, .ref h1, .int z23, .int z24, .int z25, .int x3, .int x4, .int z4, .int x6, .int x7])), (h1, .inr (4, [.ref h2, .int x8])), (h2, .inl (gB g, 1500, .inl fn0))] [] (fun sz => c164_X10_isWord l g h0 h1 h2 h3 z23 z24 z25 x3 x4 z4 x6 x7 x8 fn0 ⟨p31, p32⟩ ⟨p33, p34⟩ ⟨p35, p36⟩ i_x3 i_x4 ⟨p16, p17⟩ i_x6 i_x7 i_x8 sz) gX10_takeProgram_X10_isWord rfl ⟨rfl, rfl⟩ 1 (by decide) ⟨Nat.le_of_ble_eq_true rfl, Nat.le_of_ble_eq_true rfl⟩ 0 rfl rfl [0, 1, 2] [] rfl rfl (by decide) (by decide) (by decide) rfl rfl (Nat.le_of_ble_eq_true rfl) ⟨Nat.le_of_ble_eq_true rfl, Nat.le_of_ble_eq_true rfl⟩ (fun r41 _ w42 => ?_)
      refine r_ws [(h0, .inr (9, [.ref h3, .ref h1, .int z23, .int z24, .int z25, .int x3, .int x4, .int z4, .int x6, .int x7])), (h1, .inr (4, [.ref h2, .int x8])), (h2, .inl (gB g, 1500, .inl fn0))] rfl ?_
      have p43 : 0 ≤ (Int32.toInt r41) := w42.1
      have p44 : (Int32.toInt r41) ≤ 1 := w42.2.1
      have p45 : ISB (Int32.toInt r41) (IW (GB fn0 (Int32.toInt x8)) (Int32.toInt z24) (Int32.toInt z25) wRd) := w42.2.2
      refine r_if_ne 31 45 C dX10_takeProgram_31 (by decide) (fun c46 => ?_) (fun c46 => ?_)
      · skip
        have k47 : ¬ ((Int32.toInt r41) = 0) := fun h_9 => c46 ((fa_eq r41 0).mpr h_9)
        refine r_aload_n 45 2 C dX10_takeProgram_45 rfl ?_
        refine r_get 46 C dX10_takeProgram_46 (k := 2) 0 rfl rfl hiX10 (by decide) rfl (mg 2 rfl) (Or.inl rfl) rfl ?_
        refine r_iconst 49 1 C dX10_takeProgram_49 (by decide) ?_
        obtain ⟨z48, ez48⟩ : ∃ z_9, z23 + 1 = z_9 := ⟨_, rfl⟩
        have tz48 : (Int32.toInt z48) = (Int32.toInt z23) + 1 := by rw [← ez48]; exact fb_addIv (a := 0) (b := 1500) (c := 1) (d := 1) ⟨p31, p32⟩ ⟨by decide, by decide⟩ (by decide) (by decide)
        refine r_iadd 50 z48 C dX10_takeProgram_50 ez48 ?_
        refine r_istore_n 51 C dX10_takeProgram_51 [(3, .int z48), (2, .int z4), (1, .int r5), (0, .ref h0)] (by decide) rfl ?_
        refine r_iload_n 52 0 C dX10_takeProgram_52 rfl ?_
        refine r_iload_n 53 1 C dX10_takeProgram_53 rfl ?_
        obtain ⟨z49, ez49⟩ : ∃ z_9, z48 + z4 = z_9 := ⟨_, rfl⟩
        have tz49 : (Int32.toInt z49) = (Int32.toInt z48) + (Int32.toInt z4) := by rw [← ez49]; exact fb_addIv (a := 1) (b := 1501) (c := (-1)) (d := 9999) (iv_add (a := 0) (b := 1500) (c := 1) (d := 1) ⟨p31, p32⟩ ⟨by decide, by decide⟩ tz48) ⟨p16, p17⟩ (by decide) (by decide)
        refine r_iadd 54 z49 C dX10_takeProgram_54 ez49 ?_
        refine r_aload_n 55 3 C dX10_takeProgram_55 rfl ?_
        refine r_get 56 C dX10_takeProgram_56 (k := 1) 0 rfl rfl hiX10 (by decide) rfl (mg 3 rfl) (Or.inl rfl) rfl ?_
        refine r_callVi 59 C dX10_takeProgram_59 [.int z49] [(h1, .inr (4, [.ref h2, .int x8]))] [(h0, .inr (9, [.ref h3, .ref h1, .int z23, .int z24, .int z25, .int x3, .int x4, .int z4, .int x6, .int x7])), (h2, .inl (gB g, 1500, .inl fn0))] (fun sz => c0_X5_size l g h1 h2 x8 i_x8 sz) gX10_takeProgram_X5_size rfl ⟨rfl, rfl⟩ 0 (by decide) ⟨Nat.le_of_ble_eq_true rfl, Nat.le_of_ble_eq_true rfl⟩ 1 rfl rfl [1] [0, 2] rfl rfl (by decide) (by decide) (by decide) rfl rfl (Nat.le_of_ble_eq_true rfl) ⟨Nat.le_of_ble_eq_true rfl, Nat.le_of_ble_eq_true rfl⟩ (fun r50 _ w51 => ?_)
        refine r_ws [(h0, .inr (9, [.ref h3, .ref h1, .int z23, .int z24, .int z25, .int x3, .int x4, .int z4, .int x6, .int x7])), (h2, .inl (gB g, 1500, .inl fn0)), (h1, .inr (4, [.ref h2, .int x8]))] rfl ?_
        have p52 : x8 = r50 := (w51).symm
        subst p52
        refine r_icmp_le 62 67 C dX10_takeProgram_62 (by decide) (fun c53 => ?_) (fun c53 => ?_)
        · skip
          have k54 : (Int32.toInt z49) ≤ (Int32.toInt x8) := (fa_le z49 x8).mp c53
          refine r_aload_n 67 3 C dX10_takeProgram_67 rfl ?_
          refine r_iload_n 68 0 C dX10_takeProgram_68 rfl ?_
          refine r_iload_n 69 1 C dX10_takeProgram_69 rfl ?_
          obtain ⟨z55, ez55⟩ : ∃ z_9, z48 + z4 = z_9 := ⟨_, rfl⟩
          have tz55 : (Int32.toInt z55) = (Int32.toInt z48) + (Int32.toInt z4) := by rw [← ez55]; exact fb_addIv (a := 1) (b := 1501) (c := (-1)) (d := 9999) (iv_add (a := 0) (b := 1500) (c := 1) (d := 1) ⟨p31, p32⟩ ⟨by decide, by decide⟩ tz48) ⟨p16, p17⟩ (by decide) (by decide)
          refine r_iadd 70 z55 C dX10_takeProgram_70 ez55 ?_
          refine r_put 71 C dX10_takeProgram_71 (k := 2) 0 rfl rfl hiX10 tyX10 tyX10_ok nmX10 (by decide) rfl (mg 2 rfl) (Or.inl rfl) rfl rfl rfl rfl (Nat.le_of_ble_eq_true rfl) [(h0, .inr (9, [.ref h3, .ref h1, .int z55, .int z24, .int z25, .int x3, .int x4, .int z4, .int x6, .int x7])), (h2, .inl (gB g, 1500, .inl fn0)), (h1, .inr (4, [.ref h2, .int x8]))] rfl ?_
          refine r_aload_n 74 3 C dX10_takeProgram_74 rfl ?_
          refine r_get 75 C dX10_takeProgram_75 (k := 1) 0 rfl rfl hiX10 (by decide) rfl (mg 3 rfl) (Or.inl rfl) rfl ?_
          refine r_sipush 78 4330 C dX10_takeProgram_78 (by decide) ?_
          refine r_iload_n 81 0 C dX10_takeProgram_81 rfl ?_
          refine r_aload_n 82 3 C dX10_takeProgram_82 rfl ?_
          refine r_get 83 C dX10_takeProgram_83 (k := 2) 0 rfl rfl hiX10 (by decide) rfl (mg 2 rfl) (Or.inl rfl) rfl ?_
          refine r_callVv 86 C dX10_takeProgram_86 [] [(h1, .inr (4, [.ref h2, .int x8])), (h2, .inl (gB g, 1500, .inl fn0))] [(h0, .inr (9, [.ref h3, .ref h1, .int z55, .int z24, .int z25, .int x3, .int x4, .int z4, .int x6, .int x7]))] (fun sz => c21_X5_decipher l g h1 h2 4330 z48 z55 x8 fn0 i_x8 sz) gX10_takeProgram_X5_decipher rfl ⟨rfl, rfl⟩ 3 (by decide) ⟨Nat.le_of_ble_eq_true rfl, Nat.le_of_ble_eq_true rfl⟩ 2 rfl rfl [2, 1] [0] rfl rfl (by decide) (by decide) (by decide) rfl rfl (Nat.le_of_ble_eq_true rfl) ⟨Nat.le_of_ble_eq_true rfl, Nat.le_of_ble_eq_true rfl⟩ (fun  f56 w57 => ?_)
          refine r_ws [(h0, .inr (9, [.ref h3, .ref h1, .int z55, .int z24, .int z25, .int x3, .int x4, .int z4, .int x6, .int x7])), (h1, .inr (4, [.ref h2, .int x8])), (h2, .inl (gB g, 1500, .inl f56))] rfl ?_
          have p58 : HID (¬ ((Int32.toInt z48) = 0) ∨ ¬ ((Int32.toInt z55) = (Int32.toInt x8)) ∨ f56 = (dec fn0 4330 (Int.toNat (Int32.toInt x8))).1) := w57.1
          have p59 : KPT fn0 f56 (Int32.toInt z55) := w57.2.1
          have p60 : CND (0 ≤ (Int32.toInt z48) ∧ (Int32.toInt z48) ≤ (Int32.toInt z55) ∧ (Int32.toInt z55) ≤ (Int32.toInt x8)) (f56 = (decF fn0 4330 (Int.toNat (Int32.toInt z48)) (Int.toNat ((Int32.toInt z55) - (Int32.toInt z48)))).1) := w57.2.2
          refine r_aload_n 89 3 C dX10_takeProgram_89 rfl ?_
          refine r_iload_n 90 0 C dX10_takeProgram_90 rfl ?_
          refine r_aload_n 91 3 C dX10_takeProgram_91 rfl ?_
          refine r_get 92 C dX10_takeProgram_92 (k := 5) 0 rfl rfl hiX10 (by decide) rfl (mg 4 rfl) (Or.inl rfl) rfl ?_
          obtain ⟨z61, ez61⟩ : ∃ z_9, z48 + x3 = z_9 := ⟨_, rfl⟩
          have tz61 : (Int32.toInt z61) = (Int32.toInt z48) + (Int32.toInt x3) := by rw [← ez61]; exact fb_addIv (a := 1) (b := 1501) (c := (-1)) (d := 9999) (iv_add (a := 0) (b := 1500) (c := 1) (d := 1) ⟨p31, p32⟩ ⟨by decide, by decide⟩ tz48) i_x3 (by decide) (by decide)
          refine r_iadd 95 z61 C dX10_takeProgram_95 ez61 ?_
          refine r_aload_n 96 3 C dX10_takeProgram_96 rfl ?_
          refine r_get 97 C dX10_takeProgram_97 (k := 2) 0 rfl rfl hiX10 (by decide) rfl (mg 2 rfl) (Or.inl rfl) rfl ?_
          obtain ⟨z62, ez62⟩ : ∃ z_9, (if z55 < z61 then z55 else z61) = z_9 := ⟨_, rfl⟩
          have tz62 : ((Int32.toInt z55) < (Int32.toInt z61) ∧ (Int32.toInt z62) = (Int32.toInt z55)) ∨ (¬ ((Int32.toInt z55) < (Int32.toInt z61)) ∧ (Int32.toInt z62) = (Int32.toInt z61)) := by rw [← ez62]; exact mx_or z55 z61 z55 z61
          refine r_mmin 100 z62 C dX10_takeProgram_100 (mg 5 rfl) (mg 6 rfl) (mg 7 rfl) (mg 8 rfl) (Nat.le_of_ble_eq_true rfl) (Nat.le_of_ble_eq_true rfl) (Nat.le_of_ble_eq_true rfl) (Nat.le_of_ble_eq_true rfl) ez62 ?_
          refine r_put 103 C dX10_takeProgram_103 (k := 8) 0 rfl rfl hiX10 tyX10 tyX10_ok nmX10 (by decide) rfl (mg 9 rfl) (Or.inl rfl) rfl rfl rfl rfl (Nat.le_of_ble_eq_true rfl) [(h0, .inr (9, [.ref h3, .ref h1, .int z55, .int z24, .int z25, .int x3, .int x4, .int z4, .int z62, .int x7])), (h1, .inr (4, [.ref h2, .int x8])), (h2, .inl (gB g, 1500, .inl f56))] rfl ?_
          refine r_aload_n 106 3 C dX10_takeProgram_106 rfl ?_
          refine r_aload_n 107 3 C dX10_takeProgram_107 rfl ?_
          refine r_get 108 C dX10_takeProgram_108 (k := 2) 0 rfl rfl hiX10 (by decide) rfl (mg 2 rfl) (Or.inl rfl) rfl ?_
          refine r_put 111 C dX10_takeProgram_111 (k := 9) 0 rfl rfl hiX10 tyX10 tyX10_ok nmX10 (by decide) rfl (mg 10 rfl) (Or.inl rfl) rfl rfl rfl rfl (Nat.le_of_ble_eq_true rfl) [(h0, .inr (9, [.ref h3, .ref h1, .int z55, .int z24, .int z25, .int x3, .int x4, .int z4, .int z62, .int z55])), (h1, .inr (4, [.ref h2, .int x8])), (h2, .inl (gB g, 1500, .inl f56))] rfl ?_
          refine r_iconst 114 0 C dX10_takeProgram_114 (by decide) ?_
          exact r_iret 115 Rt dX10_takeProgram_115 (z55, z24, z25, z4, z62, z55, f56) (show 0 ≤ (Int32.toInt 0) ∧ (Int32.toInt 0) ≤ 2 ∧ 0 ≤ (Int32.toInt z55) ∧ (Int32.toInt z55) ≤ 1500 ∧ 0 ≤ (Int32.toInt z24) ∧ (Int32.toInt z24) ≤ 1500 ∧ 0 ≤ (Int32.toInt z25) ∧ (Int32.toInt z25) ≤ 1500 ∧ -1 ≤ (Int32.toInt z4) ∧ (Int32.toInt z4) ≤ 9999 ∧ 0 ≤ (Int32.toInt z62) ∧ (Int32.toInt z62) ≤ 1500 ∧ 0 ≤ (Int32.toInt z55) ∧ (Int32.toInt z55) ≤ 1500 ∧ SEQ 0 0 (PRG (GB fn0 (Int32.toInt x8)) (Int32.toInt x8) (Int32.toInt x0)) (fun v => v = (Int32.toInt z55)) ∧ AGR f56 fn0 (Int32.toInt x8) (Int32.toInt z55) ∧ (¬ (0 = 0) ∨ ((Int32.toInt x0) < (Int32.toInt z55) ∧ (Int32.toInt z55) ≤ (Int32.toInt x8))) ∧ (Int32.toInt x0) ≤ (Int32.toInt z55) ∧ CND (0 = 0) (PRGX (GB fn0 (Int32.toInt x8)) (Int32.toInt x8) (Int32.toInt x0) = some ((Int32.toInt z55), (Int32.toInt z4)) ∧ PGP fn0 (Int32.toInt x3) f56 (Int32.toInt z55) (Int32.toInt z4) (Int32.toInt z62) (Int32.toInt z55)) ∧ LOW fn0 f56 (Int32.toInt x0) from ⟨(by ((repeat' apply And.intro) <;> first | trivial | rfl | assumption | omega | decide | exact Or.inl rfl | exact Or.inr (Or.inl rfl) | exact Or.inr (Or.inr rfl))), (by ((repeat' apply And.intro) <;> first | trivial | rfl | assumption | omega | decide | exact Or.inl rfl | exact Or.inr (Or.inl rfl) | exact Or.inr (Or.inr rfl))), (by ((repeat' apply And.intro) <;> first | trivial | rfl | assumption | omega | decide | exact Or.inl rfl | exact Or.inr (Or.inl rfl) | exact Or.inr (Or.inr rfl))), (by ((repeat' apply And.intro) <;> first | trivial | rfl | assumption | omega | decide | exact Or.inl rfl | exact Or.inr (Or.inl rfl) | exact Or.inr (Or.inr rfl))), (show _ ∧ _ from ⟨p33, p34⟩).1, (show _ ∧ _ from ⟨p33, p34⟩).2, (show _ ∧ _ from ⟨p35, p36⟩).1, (show _ ∧ _ from ⟨p35, p36⟩).2, (show _ ∧ _ from ⟨p16, p17⟩).1, (show _ ∧ _ from ⟨p16, p17⟩).2, (by ((repeat' apply And.intro) <;> first | trivial | rfl | assumption | omega | decide | exact Or.inl rfl | exact Or.inr (Or.inl rfl) | exact Or.inr (Or.inr rfl))), (by ((repeat' apply And.intro) <;> first | trivial | rfl | assumption | omega | decide | exact Or.inl rfl | exact Or.inr (Or.inl rfl) | exact Or.inr (Or.inr rfl))), (by ((repeat' apply And.intro) <;> first | trivial | rfl | assumption | omega | decide | exact Or.inl rfl | exact Or.inr (Or.inl rfl) | exact Or.inr (Or.inr rfl))), (by ((repeat' apply And.intro) <;> first | trivial | rfl | assumption | omega | decide | exact Or.inl rfl | exact Or.inr (Or.inl rfl) | exact Or.inr (Or.inr rfl))), (by first | exact prg_go (s := 1) p18 (by omega) p37 (by omega) (isb_or1 p45 (by omega)) (by omega) | exact prg_go (s := 0) p18 (by omega) p37 (by omega) (isb_or1 p45 (by omega)) (by omega)), (by exact agr_kpt p59 (by omega)), (by ((repeat' apply And.intro) <;> first | trivial | rfl | assumption | omega | decide | exact Or.inl rfl | exact Or.inr (Or.inl rfl) | exact Or.inr (Or.inr rfl))), (by ((repeat' apply And.intro) <;> first | trivial | rfl | assumption | omega | decide | exact Or.inl rfl | exact Or.inr (Or.inl rfl) | exact Or.inr (Or.inr rfl))), (by exact fun _ => ⟨prgx_pf p18 (by omega) p37 (by omega) (Or.inl (isb_1 p45 (by omega))) (by omega) (by omega), pgp_pf (p60 ⟨by omega, by omega, by omega⟩) (by omega) (by omega) (by omega) (by omega)⟩), (by exact low_dec (p60 ⟨by omega, by omega, by omega⟩) (by omega))⟩) [0, 1, 2] (by decide) rfl (Nat.le_of_ble_eq_true rfl) (Nat.le_of_ble_eq_true rfl)
        · skip
          have k63 : ¬ ((Int32.toInt z49) ≤ (Int32.toInt x8)) := fun h_9 => c53 ((fa_le z49 x8).mpr h_9)
          refine r_iconst 65 1 C dX10_takeProgram_65 (by decide) ?_
          exact r_iret 66 Rt dX10_takeProgram_66 (z23, z24, z25, z4, x6, x7, fn0) (show 0 ≤ (Int32.toInt 1) ∧ (Int32.toInt 1) ≤ 2 ∧ 0 ≤ (Int32.toInt z23) ∧ (Int32.toInt z23) ≤ 1500 ∧ 0 ≤ (Int32.toInt z24) ∧ (Int32.toInt z24) ≤ 1500 ∧ 0 ≤ (Int32.toInt z25) ∧ (Int32.toInt z25) ≤ 1500 ∧ -1 ≤ (Int32.toInt z4) ∧ (Int32.toInt z4) ≤ 9999 ∧ 0 ≤ (Int32.toInt x6) ∧ (Int32.toInt x6) ≤ 1500 ∧ 0 ≤ (Int32.toInt x7) ∧ (Int32.toInt x7) ≤ 1500 ∧ SEQ 0 1 (PRG (GB fn0 (Int32.toInt x8)) (Int32.toInt x8) (Int32.toInt x0)) (fun v => v = (Int32.toInt z23)) ∧ AGR fn0 fn0 (Int32.toInt x8) (Int32.toInt z23) ∧ (¬ (1 = 0) ∨ ((Int32.toInt x0) < (Int32.toInt z23) ∧ (Int32.toInt z23) ≤ (Int32.toInt x8))) ∧ (Int32.toInt x0) ≤ (Int32.toInt z23) ∧ CND (1 = 0) (PRGX (GB fn0 (Int32.toInt x8)) (Int32.toInt x8) (Int32.toInt x0) = some ((Int32.toInt z23), (Int32.toInt z4)) ∧ PGP fn0 (Int32.toInt x3) fn0 (Int32.toInt z23) (Int32.toInt z4) (Int32.toInt x6) (Int32.toInt x7)) ∧ LOW fn0 fn0 (Int32.toInt x0) from ⟨(by ((repeat' apply And.intro) <;> first | trivial | rfl | assumption | omega | decide | exact Or.inl rfl | exact Or.inr (Or.inl rfl) | exact Or.inr (Or.inr rfl))), (by ((repeat' apply And.intro) <;> first | trivial | rfl | assumption | omega | decide | exact Or.inl rfl | exact Or.inr (Or.inl rfl) | exact Or.inr (Or.inr rfl))), (show _ ∧ _ from ⟨p31, p32⟩).1, (show _ ∧ _ from ⟨p31, p32⟩).2, (show _ ∧ _ from ⟨p33, p34⟩).1, (show _ ∧ _ from ⟨p33, p34⟩).2, (show _ ∧ _ from ⟨p35, p36⟩).1, (show _ ∧ _ from ⟨p35, p36⟩).2, (show _ ∧ _ from ⟨p16, p17⟩).1, (show _ ∧ _ from ⟨p16, p17⟩).2, i_x6.1, i_x6.2, i_x7.1, i_x7.2, (by first | exact prg_go (s := 1) p18 (by omega) p37 (by omega) (isb_or1 p45 (by omega)) (by omega) | exact prg_go (s := 0) p18 (by omega) p37 (by omega) (isb_or1 p45 (by omega)) (by omega)), (by exact agr_refl), (by ((repeat' apply And.intro) <;> first | trivial | rfl | assumption | omega | decide | exact Or.inl rfl | exact Or.inr (Or.inl rfl) | exact Or.inr (Or.inr rfl))), (by ((repeat' apply And.intro) <;> first | trivial | rfl | assumption | omega | decide | exact Or.inl rfl | exact Or.inr (Or.inl rfl) | exact Or.inr (Or.inr rfl))), (by exact fun h_9 => absurd h_9 (by omega)), (by exact low_0)⟩) [0, 2, 1] (by decide) rfl (Nat.le_of_ble_eq_true rfl) (Nat.le_of_ble_eq_true rfl)
      · skip
        have k64 : (Int32.toInt r41) = 0 := (fa_eq r41 0).mp c46
        refine r_aload_n 34 2 C dX10_takeProgram_34 rfl ?_
        refine r_ldcS 35 10 C rfl (by decide) rfl dX10_takeProgram_35 ?_
        refine r_callVi 37 C dX10_takeProgram_37 [] [(h0, .inr (9, [.ref h3, .ref h1, .int z23, .int z24, .int z25, .int x3, .int x4, .int z4, .int x6, .int x7])), (h1, .inr (4, [.ref h2, .int x8])), (h2, .inl (gB g, 1500, .inl fn0))] [] (fun sz => c171_X10_isWord l g h0 h1 h2 h3 z23 z24 z25 x3 x4 z4 x6 x7 x8 fn0 ⟨p31, p32⟩ ⟨p33, p34⟩ ⟨p35, p36⟩ i_x3 i_x4 ⟨p16, p17⟩ i_x6 i_x7 i_x8 sz) gX10_takeProgram_X10_isWord rfl ⟨rfl, rfl⟩ 1 (by decide) ⟨Nat.le_of_ble_eq_true rfl, Nat.le_of_ble_eq_true rfl⟩ 0 rfl rfl [0, 1, 2] [] rfl rfl (by decide) (by decide) (by decide) rfl rfl (Nat.le_of_ble_eq_true rfl) ⟨Nat.le_of_ble_eq_true rfl, Nat.le_of_ble_eq_true rfl⟩ (fun r65 _ w66 => ?_)
        refine r_ws [(h0, .inr (9, [.ref h3, .ref h1, .int z23, .int z24, .int z25, .int x3, .int x4, .int z4, .int x6, .int x7])), (h1, .inr (4, [.ref h2, .int x8])), (h2, .inl (gB g, 1500, .inl fn0))] rfl ?_
        have p67 : 0 ≤ (Int32.toInt r65) := w66.1
        have p68 : (Int32.toInt r65) ≤ 1 := w66.2.1
        have p69 : ISB (Int32.toInt r65) (IW (GB fn0 (Int32.toInt x8)) (Int32.toInt z24) (Int32.toInt z25) wBar) := w66.2.2
        refine r_if_ne 40 45 C dX10_takeProgram_40 (by decide) (fun c70 => ?_) (fun c70 => ?_)
        · skip
          have k71 : ¬ ((Int32.toInt r65) = 0) := fun h_9 => c70 ((fa_eq r65 0).mpr h_9)
          refine r_aload_n 45 2 C dX10_takeProgram_45 rfl ?_
          refine r_get 46 C dX10_takeProgram_46 (k := 2) 0 rfl rfl hiX10 (by decide) rfl (mg 2 rfl) (Or.inl rfl) rfl ?_
          refine r_iconst 49 1 C dX10_takeProgram_49 (by decide) ?_
          obtain ⟨z72, ez72⟩ : ∃ z_9, z23 + 1 = z_9 := ⟨_, rfl⟩
          have tz72 : (Int32.toInt z72) = (Int32.toInt z23) + 1 := by rw [← ez72]; exact fb_addIv (a := 0) (b := 1500) (c := 1) (d := 1) ⟨p31, p32⟩ ⟨by decide, by decide⟩ (by decide) (by decide)
          refine r_iadd 50 z72 C dX10_takeProgram_50 ez72 ?_
          refine r_istore_n 51 C dX10_takeProgram_51 [(3, .int z72), (2, .int z4), (1, .int r5), (0, .ref h0)] (by decide) rfl ?_
          refine r_iload_n 52 0 C dX10_takeProgram_52 rfl ?_
          refine r_iload_n 53 1 C dX10_takeProgram_53 rfl ?_
          obtain ⟨z73, ez73⟩ : ∃ z_9, z72 + z4 = z_9 := ⟨_, rfl⟩
          have tz73 : (Int32.toInt z73) = (Int32.toInt z72) + (Int32.toInt z4) := by rw [← ez73]; exact fb_addIv (a := 1) (b := 1501) (c := (-1)) (d := 9999) (iv_add (a := 0) (b := 1500) (c := 1) (d := 1) ⟨p31, p32⟩ ⟨by decide, by decide⟩ tz72) ⟨p16, p17⟩ (by decide) (by decide)
          refine r_iadd 54 z73 C dX10_takeProgram_54 ez73 ?_
          refine r_aload_n 55 3 C dX10_takeProgram_55 rfl ?_
          refine r_get 56 C dX10_takeProgram_56 (k := 1) 0 rfl rfl hiX10 (by decide) rfl (mg 3 rfl) (Or.inl rfl) rfl ?_
          refine r_callVi 59 C dX10_takeProgram_59 [.int z73] [(h1, .inr (4, [.ref h2, .int x8]))] [(h0, .inr (9, [.ref h3, .ref h1, .int z23, .int z24, .int z25, .int x3, .int x4, .int z4, .int x6, .int x7])), (h2, .inl (gB g, 1500, .inl fn0))] (fun sz => c0_X5_size l g h1 h2 x8 i_x8 sz) gX10_takeProgram_X5_size rfl ⟨rfl, rfl⟩ 0 (by decide) ⟨Nat.le_of_ble_eq_true rfl, Nat.le_of_ble_eq_true rfl⟩ 1 rfl rfl [1] [0, 2] rfl rfl (by decide) (by decide) (by decide) rfl rfl (Nat.le_of_ble_eq_true rfl) ⟨Nat.le_of_ble_eq_true rfl, Nat.le_of_ble_eq_true rfl⟩ (fun r74 _ w75 => ?_)
          refine r_ws [(h0, .inr (9, [.ref h3, .ref h1, .int z23, .int z24, .int z25, .int x3, .int x4, .int z4, .int x6, .int x7])), (h2, .inl (gB g, 1500, .inl fn0)), (h1, .inr (4, [.ref h2, .int x8]))] rfl ?_
          have p76 : x8 = r74 := (w75).symm
          subst p76
          refine r_icmp_le 62 67 C dX10_takeProgram_62 (by decide) (fun c77 => ?_) (fun c77 => ?_)
          · skip
            have k78 : (Int32.toInt z73) ≤ (Int32.toInt x8) := (fa_le z73 x8).mp c77
            refine r_aload_n 67 3 C dX10_takeProgram_67 rfl ?_
            refine r_iload_n 68 0 C dX10_takeProgram_68 rfl ?_
            refine r_iload_n 69 1 C dX10_takeProgram_69 rfl ?_
            obtain ⟨z79, ez79⟩ : ∃ z_9, z72 + z4 = z_9 := ⟨_, rfl⟩
            have tz79 : (Int32.toInt z79) = (Int32.toInt z72) + (Int32.toInt z4) := by rw [← ez79]; exact fb_addIv (a := 1) (b := 1501) (c := (-1)) (d := 9999) (iv_add (a := 0) (b := 1500) (c := 1) (d := 1) ⟨p31, p32⟩ ⟨by decide, by decide⟩ tz72) ⟨p16, p17⟩ (by decide) (by decide)
            refine r_iadd 70 z79 C dX10_takeProgram_70 ez79 ?_
            refine r_put 71 C dX10_takeProgram_71 (k := 2) 0 rfl rfl hiX10 tyX10 tyX10_ok nmX10 (by decide) rfl (mg 2 rfl) (Or.inl rfl) rfl rfl rfl rfl (Nat.le_of_ble_eq_true rfl) [(h0, .inr (9, [.ref h3, .ref h1, .int z79, .int z24, .int z25, .int x3, .int x4, .int z4, .int x6, .int x7])), (h2, .inl (gB g, 1500, .inl fn0)), (h1, .inr (4, [.ref h2, .int x8]))] rfl ?_
            refine r_aload_n 74 3 C dX10_takeProgram_74 rfl ?_
            refine r_get 75 C dX10_takeProgram_75 (k := 1) 0 rfl rfl hiX10 (by decide) rfl (mg 3 rfl) (Or.inl rfl) rfl ?_
            refine r_sipush 78 4330 C dX10_takeProgram_78 (by decide) ?_
            refine r_iload_n 81 0 C dX10_takeProgram_81 rfl ?_
            refine r_aload_n 82 3 C dX10_takeProgram_82 rfl ?_
            refine r_get 83 C dX10_takeProgram_83 (k := 2) 0 rfl rfl hiX10 (by decide) rfl (mg 2 rfl) (Or.inl rfl) rfl ?_
            refine r_callVv 86 C dX10_takeProgram_86 [] [(h1, .inr (4, [.ref h2, .int x8])), (h2, .inl (gB g, 1500, .inl fn0))] [(h0, .inr (9, [.ref h3, .ref h1, .int z79, .int z24, .int z25, .int x3, .int x4, .int z4, .int x6, .int x7]))] (fun sz => c21_X5_decipher l g h1 h2 4330 z72 z79 x8 fn0 i_x8 sz) gX10_takeProgram_X5_decipher rfl ⟨rfl, rfl⟩ 3 (by decide) ⟨Nat.le_of_ble_eq_true rfl, Nat.le_of_ble_eq_true rfl⟩ 2 rfl rfl [2, 1] [0] rfl rfl (by decide) (by decide) (by decide) rfl rfl (Nat.le_of_ble_eq_true rfl) ⟨Nat.le_of_ble_eq_true rfl, Nat.le_of_ble_eq_true rfl⟩ (fun  f80 w81 => ?_)
            refine r_ws [(h0, .inr (9, [.ref h3, .ref h1, .int z79, .int z24, .int z25, .int x3, .int x4, .int z4, .int x6, .int x7])), (h1, .inr (4, [.ref h2, .int x8])), (h2, .inl (gB g, 1500, .inl f80))] rfl ?_
            have p82 : HID (¬ ((Int32.toInt z72) = 0) ∨ ¬ ((Int32.toInt z79) = (Int32.toInt x8)) ∨ f80 = (dec fn0 4330 (Int.toNat (Int32.toInt x8))).1) := w81.1
            have p83 : KPT fn0 f80 (Int32.toInt z79) := w81.2.1
            have p84 : CND (0 ≤ (Int32.toInt z72) ∧ (Int32.toInt z72) ≤ (Int32.toInt z79) ∧ (Int32.toInt z79) ≤ (Int32.toInt x8)) (f80 = (decF fn0 4330 (Int.toNat (Int32.toInt z72)) (Int.toNat ((Int32.toInt z79) - (Int32.toInt z72)))).1) := w81.2.2
            refine r_aload_n 89 3 C dX10_takeProgram_89 rfl ?_
            refine r_iload_n 90 0 C dX10_takeProgram_90 rfl ?_
            refine r_aload_n 91 3 C dX10_takeProgram_91 rfl ?_
            refine r_get 92 C dX10_takeProgram_92 (k := 5) 0 rfl rfl hiX10 (by decide) rfl (mg 4 rfl) (Or.inl rfl) rfl ?_
            obtain ⟨z85, ez85⟩ : ∃ z_9, z72 + x3 = z_9 := ⟨_, rfl⟩
            have tz85 : (Int32.toInt z85) = (Int32.toInt z72) + (Int32.toInt x3) := by rw [← ez85]; exact fb_addIv (a := 1) (b := 1501) (c := (-1)) (d := 9999) (iv_add (a := 0) (b := 1500) (c := 1) (d := 1) ⟨p31, p32⟩ ⟨by decide, by decide⟩ tz72) i_x3 (by decide) (by decide)
            refine r_iadd 95 z85 C dX10_takeProgram_95 ez85 ?_
            refine r_aload_n 96 3 C dX10_takeProgram_96 rfl ?_
            refine r_get 97 C dX10_takeProgram_97 (k := 2) 0 rfl rfl hiX10 (by decide) rfl (mg 2 rfl) (Or.inl rfl) rfl ?_
            obtain ⟨z86, ez86⟩ : ∃ z_9, (if z79 < z85 then z79 else z85) = z_9 := ⟨_, rfl⟩
            have tz86 : ((Int32.toInt z79) < (Int32.toInt z85) ∧ (Int32.toInt z86) = (Int32.toInt z79)) ∨ (¬ ((Int32.toInt z79) < (Int32.toInt z85)) ∧ (Int32.toInt z86) = (Int32.toInt z85)) := by rw [← ez86]; exact mx_or z79 z85 z79 z85
            refine r_mmin 100 z86 C dX10_takeProgram_100 (mg 5 rfl) (mg 6 rfl) (mg 7 rfl) (mg 8 rfl) (Nat.le_of_ble_eq_true rfl) (Nat.le_of_ble_eq_true rfl) (Nat.le_of_ble_eq_true rfl) (Nat.le_of_ble_eq_true rfl) ez86 ?_
            refine r_put 103 C dX10_takeProgram_103 (k := 8) 0 rfl rfl hiX10 tyX10 tyX10_ok nmX10 (by decide) rfl (mg 9 rfl) (Or.inl rfl) rfl rfl rfl rfl (Nat.le_of_ble_eq_true rfl) [(h0, .inr (9, [.ref h3, .ref h1, .int z79, .int z24, .int z25, .int x3, .int x4, .int z4, .int z86, .int x7])), (h1, .inr (4, [.ref h2, .int x8])), (h2, .inl (gB g, 1500, .inl f80))] rfl ?_
            refine r_aload_n 106 3 C dX10_takeProgram_106 rfl ?_
            refine r_aload_n 107 3 C dX10_takeProgram_107 rfl ?_
            refine r_get 108 C dX10_takeProgram_108 (k := 2) 0 rfl rfl hiX10 (by decide) rfl (mg 2 rfl) (Or.inl rfl) rfl ?_
            refine r_put 111 C dX10_takeProgram_111 (k := 9) 0 rfl rfl hiX10 tyX10 tyX10_ok nmX10 (by decide) rfl (mg 10 rfl) (Or.inl rfl) rfl rfl rfl rfl (Nat.le_of_ble_eq_true rfl) [(h0, .inr (9, [.ref h3, .ref h1, .int z79, .int z24, .int z25, .int x3, .int x4, .int z4, .int z86, .int z79])), (h1, .inr (4, [.ref h2, .int x8])), (h2, .inl (gB g, 1500, .inl f80))] rfl ?_
            refine r_iconst 114 0 C dX10_takeProgram_114 (by decide) ?_
            exact r_iret 115 Rt dX10_takeProgram_115 (z79, z24, z25, z4, z86, z79, f80) (show 0 ≤ (Int32.toInt 0) ∧ (Int32.toInt 0) ≤ 2 ∧ 0 ≤ (Int32.toInt z79) ∧ (Int32.toInt z79) ≤ 1500 ∧ 0 ≤ (Int32.toInt z24) ∧ (Int32.toInt z24) ≤ 1500 ∧ 0 ≤ (Int32.toInt z25) ∧ (Int32.toInt z25) ≤ 1500 ∧ -1 ≤ (Int32.toInt z4) ∧ (Int32.toInt z4) ≤ 9999 ∧ 0 ≤ (Int32.toInt z86) ∧ (Int32.toInt z86) ≤ 1500 ∧ 0 ≤ (Int32.toInt z79) ∧ (Int32.toInt z79) ≤ 1500 ∧ SEQ 0 0 (PRG (GB fn0 (Int32.toInt x8)) (Int32.toInt x8) (Int32.toInt x0)) (fun v => v = (Int32.toInt z79)) ∧ AGR f80 fn0 (Int32.toInt x8) (Int32.toInt z79) ∧ (¬ (0 = 0) ∨ ((Int32.toInt x0) < (Int32.toInt z79) ∧ (Int32.toInt z79) ≤ (Int32.toInt x8))) ∧ (Int32.toInt x0) ≤ (Int32.toInt z79) ∧ CND (0 = 0) (PRGX (GB fn0 (Int32.toInt x8)) (Int32.toInt x8) (Int32.toInt x0) = some ((Int32.toInt z79), (Int32.toInt z4)) ∧ PGP fn0 (Int32.toInt x3) f80 (Int32.toInt z79) (Int32.toInt z4) (Int32.toInt z86) (Int32.toInt z79)) ∧ LOW fn0 f80 (Int32.toInt x0) from ⟨(by ((repeat' apply And.intro) <;> first | trivial | rfl | assumption | omega | decide | exact Or.inl rfl | exact Or.inr (Or.inl rfl) | exact Or.inr (Or.inr rfl))), (by ((repeat' apply And.intro) <;> first | trivial | rfl | assumption | omega | decide | exact Or.inl rfl | exact Or.inr (Or.inl rfl) | exact Or.inr (Or.inr rfl))), (by ((repeat' apply And.intro) <;> first | trivial | rfl | assumption | omega | decide | exact Or.inl rfl | exact Or.inr (Or.inl rfl) | exact Or.inr (Or.inr rfl))), (by ((repeat' apply And.intro) <;> first | trivial | rfl | assumption | omega | decide | exact Or.inl rfl | exact Or.inr (Or.inl rfl) | exact Or.inr (Or.inr rfl))), (show _ ∧ _ from ⟨p33, p34⟩).1, (show _ ∧ _ from ⟨p33, p34⟩).2, (show _ ∧ _ from ⟨p35, p36⟩).1, (show _ ∧ _ from ⟨p35, p36⟩).2, (show _ ∧ _ from ⟨p16, p17⟩).1, (show _ ∧ _ from ⟨p16, p17⟩).2, (by ((repeat' apply And.intro) <;> first | trivial | rfl | assumption | omega | decide | exact Or.inl rfl | exact Or.inr (Or.inl rfl) | exact Or.inr (Or.inr rfl))), (by ((repeat' apply And.intro) <;> first | trivial | rfl | assumption | omega | decide | exact Or.inl rfl | exact Or.inr (Or.inl rfl) | exact Or.inr (Or.inr rfl))), (by ((repeat' apply And.intro) <;> first | trivial | rfl | assumption | omega | decide | exact Or.inl rfl | exact Or.inr (Or.inl rfl) | exact Or.inr (Or.inr rfl))), (by ((repeat' apply And.intro) <;> first | trivial | rfl | assumption | omega | decide | exact Or.inl rfl | exact Or.inr (Or.inl rfl) | exact Or.inr (Or.inr rfl))), (by first | exact prg_go (s := 1) p18 (by omega) p37 (by omega) (by first | exact isb_or2 p69 (by omega) | exact isb_or0 p45 (by omega) p69 (by omega)) (by omega) | exact prg_go (s := 0) p18 (by omega) p37 (by omega) (by first | exact isb_or2 p69 (by omega) | exact isb_or0 p45 (by omega) p69 (by omega)) (by omega)), (by exact agr_kpt p83 (by omega)), (by ((repeat' apply And.intro) <;> first | trivial | rfl | assumption | omega | decide | exact Or.inl rfl | exact Or.inr (Or.inl rfl) | exact Or.inr (Or.inr rfl))), (by ((repeat' apply And.intro) <;> first | trivial | rfl | assumption | omega | decide | exact Or.inl rfl | exact Or.inr (Or.inl rfl) | exact Or.inr (Or.inr rfl))), (by exact fun _ => ⟨prgx_pf p18 (by omega) p37 (by omega) (Or.inr (isb_1 p69 (by omega))) (by omega) (by omega), pgp_pf (p84 ⟨by omega, by omega, by omega⟩) (by omega) (by omega) (by omega) (by omega)⟩), (by exact low_dec (p84 ⟨by omega, by omega, by omega⟩) (by omega))⟩) [0, 1, 2] (by decide) rfl (Nat.le_of_ble_eq_true rfl) (Nat.le_of_ble_eq_true rfl)
          · skip
            have k87 : ¬ ((Int32.toInt z73) ≤ (Int32.toInt x8)) := fun h_9 => c77 ((fa_le z73 x8).mpr h_9)
            refine r_iconst 65 1 C dX10_takeProgram_65 (by decide) ?_
            exact r_iret 66 Rt dX10_takeProgram_66 (z23, z24, z25, z4, x6, x7, fn0) (show 0 ≤ (Int32.toInt 1) ∧ (Int32.toInt 1) ≤ 2 ∧ 0 ≤ (Int32.toInt z23) ∧ (Int32.toInt z23) ≤ 1500 ∧ 0 ≤ (Int32.toInt z24) ∧ (Int32.toInt z24) ≤ 1500 ∧ 0 ≤ (Int32.toInt z25) ∧ (Int32.toInt z25) ≤ 1500 ∧ -1 ≤ (Int32.toInt z4) ∧ (Int32.toInt z4) ≤ 9999 ∧ 0 ≤ (Int32.toInt x6) ∧ (Int32.toInt x6) ≤ 1500 ∧ 0 ≤ (Int32.toInt x7) ∧ (Int32.toInt x7) ≤ 1500 ∧ SEQ 0 1 (PRG (GB fn0 (Int32.toInt x8)) (Int32.toInt x8) (Int32.toInt x0)) (fun v => v = (Int32.toInt z23)) ∧ AGR fn0 fn0 (Int32.toInt x8) (Int32.toInt z23) ∧ (¬ (1 = 0) ∨ ((Int32.toInt x0) < (Int32.toInt z23) ∧ (Int32.toInt z23) ≤ (Int32.toInt x8))) ∧ (Int32.toInt x0) ≤ (Int32.toInt z23) ∧ CND (1 = 0) (PRGX (GB fn0 (Int32.toInt x8)) (Int32.toInt x8) (Int32.toInt x0) = some ((Int32.toInt z23), (Int32.toInt z4)) ∧ PGP fn0 (Int32.toInt x3) fn0 (Int32.toInt z23) (Int32.toInt z4) (Int32.toInt x6) (Int32.toInt x7)) ∧ LOW fn0 fn0 (Int32.toInt x0) from ⟨(by ((repeat' apply And.intro) <;> first | trivial | rfl | assumption | omega | decide | exact Or.inl rfl | exact Or.inr (Or.inl rfl) | exact Or.inr (Or.inr rfl))), (by ((repeat' apply And.intro) <;> first | trivial | rfl | assumption | omega | decide | exact Or.inl rfl | exact Or.inr (Or.inl rfl) | exact Or.inr (Or.inr rfl))), (show _ ∧ _ from ⟨p31, p32⟩).1, (show _ ∧ _ from ⟨p31, p32⟩).2, (show _ ∧ _ from ⟨p33, p34⟩).1, (show _ ∧ _ from ⟨p33, p34⟩).2, (show _ ∧ _ from ⟨p35, p36⟩).1, (show _ ∧ _ from ⟨p35, p36⟩).2, (show _ ∧ _ from ⟨p16, p17⟩).1, (show _ ∧ _ from ⟨p16, p17⟩).2, i_x6.1, i_x6.2, i_x7.1, i_x7.2, (by first | exact prg_go (s := 1) p18 (by omega) p37 (by omega) (by first | exact isb_or2 p69 (by omega) | exact isb_or0 p45 (by omega) p69 (by omega)) (by omega) | exact prg_go (s := 0) p18 (by omega) p37 (by omega) (by first | exact isb_or2 p69 (by omega) | exact isb_or0 p45 (by omega) p69 (by omega)) (by omega)), (by exact agr_refl), (by ((repeat' apply And.intro) <;> first | trivial | rfl | assumption | omega | decide | exact Or.inl rfl | exact Or.inr (Or.inl rfl) | exact Or.inr (Or.inr rfl))), (by ((repeat' apply And.intro) <;> first | trivial | rfl | assumption | omega | decide | exact Or.inl rfl | exact Or.inr (Or.inl rfl) | exact Or.inr (Or.inr rfl))), (by exact fun h_9 => absurd h_9 (by omega)), (by exact low_0)⟩) [0, 2, 1] (by decide) rfl (Nat.le_of_ble_eq_true rfl) (Nat.le_of_ble_eq_true rfl)
        · skip
          have k88 : (Int32.toInt r65) = 0 := (fa_eq r65 0).mp c70
          refine r_iconst 43 2 C dX10_takeProgram_43 (by decide) ?_
          exact r_iret 44 Rt dX10_takeProgram_44 (z23, z24, z25, z4, x6, x7, fn0) (show 0 ≤ (Int32.toInt 2) ∧ (Int32.toInt 2) ≤ 2 ∧ 0 ≤ (Int32.toInt z23) ∧ (Int32.toInt z23) ≤ 1500 ∧ 0 ≤ (Int32.toInt z24) ∧ (Int32.toInt z24) ≤ 1500 ∧ 0 ≤ (Int32.toInt z25) ∧ (Int32.toInt z25) ≤ 1500 ∧ -1 ≤ (Int32.toInt z4) ∧ (Int32.toInt z4) ≤ 9999 ∧ 0 ≤ (Int32.toInt x6) ∧ (Int32.toInt x6) ≤ 1500 ∧ 0 ≤ (Int32.toInt x7) ∧ (Int32.toInt x7) ≤ 1500 ∧ SEQ 0 2 (PRG (GB fn0 (Int32.toInt x8)) (Int32.toInt x8) (Int32.toInt x0)) (fun v => v = (Int32.toInt z23)) ∧ AGR fn0 fn0 (Int32.toInt x8) (Int32.toInt z23) ∧ (¬ (2 = 0) ∨ ((Int32.toInt x0) < (Int32.toInt z23) ∧ (Int32.toInt z23) ≤ (Int32.toInt x8))) ∧ (Int32.toInt x0) ≤ (Int32.toInt z23) ∧ CND (2 = 0) (PRGX (GB fn0 (Int32.toInt x8)) (Int32.toInt x8) (Int32.toInt x0) = some ((Int32.toInt z23), (Int32.toInt z4)) ∧ PGP fn0 (Int32.toInt x3) fn0 (Int32.toInt z23) (Int32.toInt z4) (Int32.toInt x6) (Int32.toInt x7)) ∧ LOW fn0 fn0 (Int32.toInt x0) from ⟨(by ((repeat' apply And.intro) <;> first | trivial | rfl | assumption | omega | decide | exact Or.inl rfl | exact Or.inr (Or.inl rfl) | exact Or.inr (Or.inr rfl))), (by ((repeat' apply And.intro) <;> first | trivial | rfl | assumption | omega | decide | exact Or.inl rfl | exact Or.inr (Or.inl rfl) | exact Or.inr (Or.inr rfl))), (show _ ∧ _ from ⟨p31, p32⟩).1, (show _ ∧ _ from ⟨p31, p32⟩).2, (show _ ∧ _ from ⟨p33, p34⟩).1, (show _ ∧ _ from ⟨p33, p34⟩).2, (show _ ∧ _ from ⟨p35, p36⟩).1, (show _ ∧ _ from ⟨p35, p36⟩).2, (show _ ∧ _ from ⟨p16, p17⟩).1, (show _ ∧ _ from ⟨p16, p17⟩).2, i_x6.1, i_x6.2, i_x7.1, i_x7.2, (by first | exact prg_go (s := 1) p18 (by omega) p37 (by omega) (by first | exact isb_or2 p69 (by omega) | exact isb_or0 p45 (by omega) p69 (by omega)) (by omega) | exact prg_go (s := 0) p18 (by omega) p37 (by omega) (by first | exact isb_or2 p69 (by omega) | exact isb_or0 p45 (by omega) p69 (by omega)) (by omega)), (by exact agr_refl), (by ((repeat' apply And.intro) <;> first | trivial | rfl | assumption | omega | decide | exact Or.inl rfl | exact Or.inr (Or.inl rfl) | exact Or.inr (Or.inr rfl))), (by ((repeat' apply And.intro) <;> first | trivial | rfl | assumption | omega | decide | exact Or.inl rfl | exact Or.inr (Or.inl rfl) | exact Or.inr (Or.inr rfl))), (by exact fun h_9 => absurd h_9 (by omega)), (by exact low_0)⟩) [0, 1, 2] (by decide) rfl (Nat.le_of_ble_eq_true rfl) (Nat.le_of_ble_eq_true rfl)
    · skip
      have k89 : (Int32.toInt r26) = 0 := (fa_eq r26 0).mp c39
      refine r_iconst 23 1 C dX10_takeProgram_23 (by decide) ?_
      exact r_iret 24 Rt dX10_takeProgram_24 (z23, z24, z25, z4, x6, x7, fn0) (show 0 ≤ (Int32.toInt 1) ∧ (Int32.toInt 1) ≤ 2 ∧ 0 ≤ (Int32.toInt z23) ∧ (Int32.toInt z23) ≤ 1500 ∧ 0 ≤ (Int32.toInt z24) ∧ (Int32.toInt z24) ≤ 1500 ∧ 0 ≤ (Int32.toInt z25) ∧ (Int32.toInt z25) ≤ 1500 ∧ -1 ≤ (Int32.toInt z4) ∧ (Int32.toInt z4) ≤ 9999 ∧ 0 ≤ (Int32.toInt x6) ∧ (Int32.toInt x6) ≤ 1500 ∧ 0 ≤ (Int32.toInt x7) ∧ (Int32.toInt x7) ≤ 1500 ∧ SEQ 0 1 (PRG (GB fn0 (Int32.toInt x8)) (Int32.toInt x8) (Int32.toInt x0)) (fun v => v = (Int32.toInt z23)) ∧ AGR fn0 fn0 (Int32.toInt x8) (Int32.toInt z23) ∧ (¬ (1 = 0) ∨ ((Int32.toInt x0) < (Int32.toInt z23) ∧ (Int32.toInt z23) ≤ (Int32.toInt x8))) ∧ (Int32.toInt x0) ≤ (Int32.toInt z23) ∧ CND (1 = 0) (PRGX (GB fn0 (Int32.toInt x8)) (Int32.toInt x8) (Int32.toInt x0) = some ((Int32.toInt z23), (Int32.toInt z4)) ∧ PGP fn0 (Int32.toInt x3) fn0 (Int32.toInt z23) (Int32.toInt z4) (Int32.toInt x6) (Int32.toInt x7)) ∧ LOW fn0 fn0 (Int32.toInt x0) from ⟨(by ((repeat' apply And.intro) <;> first | trivial | rfl | assumption | omega | decide | exact Or.inl rfl | exact Or.inr (Or.inl rfl) | exact Or.inr (Or.inr rfl))), (by ((repeat' apply And.intro) <;> first | trivial | rfl | assumption | omega | decide | exact Or.inl rfl | exact Or.inr (Or.inl rfl) | exact Or.inr (Or.inr rfl))), (show _ ∧ _ from ⟨p31, p32⟩).1, (show _ ∧ _ from ⟨p31, p32⟩).2, (show _ ∧ _ from ⟨p33, p34⟩).1, (show _ ∧ _ from ⟨p33, p34⟩).2, (show _ ∧ _ from ⟨p35, p36⟩).1, (show _ ∧ _ from ⟨p35, p36⟩).2, (show _ ∧ _ from ⟨p16, p17⟩).1, (show _ ∧ _ from ⟨p16, p17⟩).2, i_x6.1, i_x6.2, i_x7.1, i_x7.2, (by exact prg_w0 p18 (by omega) p37 (by omega) (by omega)), (by exact agr_refl), (by ((repeat' apply And.intro) <;> first | trivial | rfl | assumption | omega | decide | exact Or.inl rfl | exact Or.inr (Or.inl rfl) | exact Or.inr (Or.inr rfl))), (by ((repeat' apply And.intro) <;> first | trivial | rfl | assumption | omega | decide | exact Or.inl rfl | exact Or.inr (Or.inl rfl) | exact Or.inr (Or.inr rfl))), (by exact fun h_9 => absurd h_9 (by omega)), (by exact low_0)⟩) [0, 1, 2] (by decide) rfl (Nat.le_of_ble_eq_true rfl) (Nat.le_of_ble_eq_true rfl)
  · skip
    have k90 : ¬ ((Int32.toInt r5) = 0) := fun h_9 => c21 ((fa_eq r5 0).mpr h_9)
    refine r_iload_n 9 0 C dX10_takeProgram_9 rfl ?_
    exact r_iret 10 Rt dX10_takeProgram_10 (z1, z2, z3, z4, x6, x7, fn0) (show 0 ≤ (Int32.toInt r5) ∧ (Int32.toInt r5) ≤ 2 ∧ 0 ≤ (Int32.toInt z1) ∧ (Int32.toInt z1) ≤ 1500 ∧ 0 ≤ (Int32.toInt z2) ∧ (Int32.toInt z2) ≤ 1500 ∧ 0 ≤ (Int32.toInt z3) ∧ (Int32.toInt z3) ≤ 1500 ∧ -1 ≤ (Int32.toInt z4) ∧ (Int32.toInt z4) ≤ 9999 ∧ 0 ≤ (Int32.toInt x6) ∧ (Int32.toInt x6) ≤ 1500 ∧ 0 ≤ (Int32.toInt x7) ∧ (Int32.toInt x7) ≤ 1500 ∧ SEQ 0 (Int32.toInt r5) (PRG (GB fn0 (Int32.toInt x8)) (Int32.toInt x8) (Int32.toInt x0)) (fun v => v = (Int32.toInt z1)) ∧ AGR fn0 fn0 (Int32.toInt x8) (Int32.toInt z1) ∧ (¬ ((Int32.toInt r5) = 0) ∨ ((Int32.toInt x0) < (Int32.toInt z1) ∧ (Int32.toInt z1) ≤ (Int32.toInt x8))) ∧ (Int32.toInt x0) ≤ (Int32.toInt z1) ∧ CND ((Int32.toInt r5) = 0) (PRGX (GB fn0 (Int32.toInt x8)) (Int32.toInt x8) (Int32.toInt x0) = some ((Int32.toInt z1), (Int32.toInt z4)) ∧ PGP fn0 (Int32.toInt x3) fn0 (Int32.toInt z1) (Int32.toInt z4) (Int32.toInt x6) (Int32.toInt x7)) ∧ LOW fn0 fn0 (Int32.toInt x0) from ⟨(show _ ∧ _ from ⟨p8, p9⟩).1, (show _ ∧ _ from ⟨p8, p9⟩).2, (show _ ∧ _ from ⟨p10, p11⟩).1, (show _ ∧ _ from ⟨p10, p11⟩).2, (show _ ∧ _ from ⟨p12, p13⟩).1, (show _ ∧ _ from ⟨p12, p13⟩).2, (show _ ∧ _ from ⟨p14, p15⟩).1, (show _ ∧ _ from ⟨p14, p15⟩).2, (show _ ∧ _ from ⟨p16, p17⟩).1, (show _ ∧ _ from ⟨p16, p17⟩).2, i_x6.1, i_x6.2, i_x7.1, i_x7.2, (by exact seq0_stop p18 (by omega) (by omega)), (by exact agr_refl), (by ((repeat' apply And.intro) <;> first | trivial | rfl | assumption | omega | decide | exact Or.inl rfl | exact Or.inr (Or.inl rfl) | exact Or.inr (Or.inr rfl))), (by ((repeat' apply And.intro) <;> first | trivial | rfl | assumption | omega | decide | exact Or.inl rfl | exact Or.inr (Or.inl rfl) | exact Or.inr (Or.inr rfl))), (by exact fun h_9 => absurd h_9 (by omega)), (by exact low_0)⟩) [0, 1, 2] (by decide) rfl (Nat.le_of_ble_eq_true rfl) (Nat.le_of_ble_eq_true rfl)
set_option maxHeartbeats 4000000 in
set_option maxRecDepth 100000 in
theorem c173_X8_put (l : Launch) (g : GD) (h0 : Nat) (h1 : Nat) (h2 : Nat) (x0 : Int32) (x1 : Int32) (x2 : Int32) (h3 : Nat) (x3 : Int32) (x4 : Int32) (x5 : Int32) (fn0 : Nat → Int32) (fn1 : Nat → Int32) (sz : Nat) : Met l yX8_put wsX8_put ({ frames := 0, cells := 0, slots := 0, locals := 0 }) (va_Pc [.ref h0, .int x0, .int x1, .int x2] (PW g [(h0, .inr (7, [.ref h3, .ref h1, .ref h2, .int x3, .int x4, .int x5])), (h1, .inl (gI g, 200, .inl fn0)), (h2, .inl (gI g, 200, .inl fn1))] sz)) (va_Qv (fun (u : (Nat → Int32) × (Nat → Int32)) => CND (0 ≤ (Int32.toInt x0) ∧ (Int32.toInt x0) < (Int32.toInt x3) ∧ (Int32.toInt x0) < 200) ((u.1) = upd fn0 (Int.toNat (Int32.toInt x0)) x1 ∧ (u.2) = upd fn1 (Int.toNat (Int32.toInt x0)) x2)) (BW g (va_A [(h0, .inr (7, [.ref h3, .ref h1, .ref h2, .int x3, .int x4, .int x5])), (h1, .inl (gI g, 200, .inl fn0)), (h2, .inl (gI g, 200, .inl fn1))] sz) (fun u : (Nat → Int32) × (Nat → Int32) => [(h0, .inr (7, [.ref h3, .ref h1, .ref h2, .int x3, .int x4, .int x5])), (h1, .inl (gI g, 200, .inl u.1)), (h2, .inl (gI g, 200, .inl u.2))])) (va_A [(h0, .inr (7, [.ref h3, .ref h1, .ref h2, .int x3, .int x4, .int x5])), (h1, .inl (gI g, 200, .inl fn0)), (h2, .inl (gI g, 200, .inl fn1))] sz)) 0 0 (va_A [(h0, .inr (7, [.ref h3, .ref h1, .ref h2, .int x3, .int x4, .int x5])), (h1, .inl (gI g, 200, .inl fn0)), (h2, .inl (gI g, 200, .inl fn1))] sz) := by
  refine met_v RX8 (by decide) rfl rfl (Nat.le_of_ble_eq_true rfl) [(0, .ref h0), (1, .int x0), (2, .int x1), (3, .int x2)] rfl ?_
  intro p e s m args below meth c A Q C hnm Rt
  have gx0 := fb_rng x0
  have gx3 := fb_rng x3
  have hiX8 : ∀ w ∈ wsX80, w ∈ wsX8_put := fun w h => List.mem_cons_of_mem _ (List.mem_append_right _ (h))
  refine r_iload_n 0 1 C dX8_put_0 rfl ?_
  refine r_if_lt 1 35 C dX8_put_1 (by decide) (fun c1 => ?_) (fun c1 => ?_)
  · skip
    have k2 : (Int32.toInt x0) < 0 := (fa_lt x0 0).mp c1
    exact r_vret 35 Rt dX8_put_35 (fn0, fn1) (show CND (0 ≤ (Int32.toInt x0) ∧ (Int32.toInt x0) < (Int32.toInt x3) ∧ (Int32.toInt x0) < 200) (fn0 = upd fn0 (Int.toNat (Int32.toInt x0)) x1 ∧ fn1 = upd fn1 (Int.toNat (Int32.toInt x0)) x2) from (by exact fun h_9 => absurd h_9 (by omega))) [0, 1, 2] (by decide) rfl (Nat.le_of_ble_eq_true rfl) (Nat.le_of_ble_eq_true rfl)
  · skip
    have k3 : ¬ ((Int32.toInt x0) < 0) := fun h_9 => c1 ((fa_lt x0 0).mpr h_9)
    refine r_iload_n 4 1 C dX8_put_4 rfl ?_
    refine r_aload_n 5 0 C dX8_put_5 rfl ?_
    refine r_get 6 C dX8_put_6 (k := 3) 0 rfl rfl hiX8 (by decide) rfl (mg 1 rfl) (Or.inl rfl) rfl ?_
    refine r_icmp_ge 9 35 C dX8_put_9 (by decide) (fun c4 => ?_) (fun c4 => ?_)
    · skip
      have k5 : (Int32.toInt x3) ≤ (Int32.toInt x0) := (fa_le x3 x0).mp c4
      exact r_vret 35 Rt dX8_put_35 (fn0, fn1) (show CND (0 ≤ (Int32.toInt x0) ∧ (Int32.toInt x0) < (Int32.toInt x3) ∧ (Int32.toInt x0) < 200) (fn0 = upd fn0 (Int.toNat (Int32.toInt x0)) x1 ∧ fn1 = upd fn1 (Int.toNat (Int32.toInt x0)) x2) from (by exact fun h_9 => absurd h_9 (by omega))) [0, 1, 2] (by decide) rfl (Nat.le_of_ble_eq_true rfl) (Nat.le_of_ble_eq_true rfl)
    · skip
      have k6 : ¬ ((Int32.toInt x3) ≤ (Int32.toInt x0)) := fun h_9 => c4 ((fa_le x3 x0).mpr h_9)
      refine r_iload_n 12 1 C dX8_put_12 rfl ?_
      refine r_aload_n 13 0 C dX8_put_13 rfl ?_
      refine r_get 14 C dX8_put_14 (k := 1) 0 rfl rfl hiX8 (by decide) rfl (mg 2 rfl) (Or.inl rfl) rfl ?_
      refine r_ialen 17 200 C dX8_put_17 1 rfl (by decide) ?_
      refine r_icmp_ge 18 35 C dX8_put_18 (by decide) (fun c7 => ?_) (fun c7 => ?_)
      · skip
        have k8 : 200 ≤ (Int32.toInt x0) := (fa_le 200 x0).mp c7
        exact r_vret 35 Rt dX8_put_35 (fn0, fn1) (show CND (0 ≤ (Int32.toInt x0) ∧ (Int32.toInt x0) < (Int32.toInt x3) ∧ (Int32.toInt x0) < 200) (fn0 = upd fn0 (Int.toNat (Int32.toInt x0)) x1 ∧ fn1 = upd fn1 (Int.toNat (Int32.toInt x0)) x2) from (by exact fun h_9 => absurd h_9 (by omega))) [0, 1, 2] (by decide) rfl (Nat.le_of_ble_eq_true rfl) (Nat.le_of_ble_eq_true rfl)
      · skip
        have k9 : ¬ (200 ≤ (Int32.toInt x0)) := fun h_9 => c7 ((fa_le 200 x0).mpr h_9)
        refine r_aload_n 21 0 C dX8_put_21 rfl ?_
        refine r_get 22 C dX8_put_22 (k := 1) 0 rfl rfl hiX8 (by decide) rfl (mg 2 rfl) (Or.inl rfl) rfl ?_
        refine r_iload_n 25 1 C dX8_put_25 rfl ?_
        refine r_iload_n 26 2 C dX8_put_26 rfl ?_
        obtain ⟨f10, ef10⟩ : ∃ f_9, upd fn0 (Int32.toNatClampNeg x0) x1 = f_9 := ⟨_, rfl⟩
        refine r_iast 27 C dX8_put_27 1 rfl (vinI (by omega) (by omega)) f10 ef10 [(h0, .inr (7, [.ref h3, .ref h1, .ref h2, .int x3, .int x4, .int x5])), (h1, .inl (gI g, 200, .inl f10)), (h2, .inl (gI g, 200, .inl fn1))] rfl ?_
        refine r_aload_n 28 0 C dX8_put_28 rfl ?_
        refine r_get 29 C dX8_put_29 (k := 2) 0 rfl rfl hiX8 (by decide) rfl (mg 3 rfl) (Or.inl rfl) rfl ?_
        refine r_iload_n 32 1 C dX8_put_32 rfl ?_
        refine r_iload_n 33 3 C dX8_put_33 rfl ?_
        obtain ⟨f11, ef11⟩ : ∃ f_9, upd fn1 (Int32.toNatClampNeg x0) x2 = f_9 := ⟨_, rfl⟩
        refine r_iast 34 C dX8_put_34 2 rfl (vinI (by omega) (by omega)) f11 ef11 [(h0, .inr (7, [.ref h3, .ref h1, .ref h2, .int x3, .int x4, .int x5])), (h1, .inl (gI g, 200, .inl f10)), (h2, .inl (gI g, 200, .inl f11))] rfl ?_
        exact r_vret 35 Rt dX8_put_35 (f10, f11) (show CND (0 ≤ (Int32.toInt x0) ∧ (Int32.toInt x0) < (Int32.toInt x3) ∧ (Int32.toInt x0) < 200) (f10 = upd fn0 (Int.toNat (Int32.toInt x0)) x1 ∧ f11 = upd fn1 (Int.toNat (Int32.toInt x0)) x2) from (by exact fun _ => ⟨ef10.symm, ef11.symm⟩)) [0, 1, 2] (by decide) rfl (Nat.le_of_ble_eq_true rfl) (Nat.le_of_ble_eq_true rfl)
set_option maxHeartbeats 4000000 in
set_option maxRecDepth 100000 in
theorem c174_X10_takeLocal (l : Launch) (g : GD) (h0 : Nat) (h1 : Nat) (h2 : Nat) (h3 : Nat) (h4 : Nat) (h5 : Nat) (h6 : Nat) (x0 : Int32) (x1 : Int32) (x2 : Int32) (x3 : Int32) (x4 : Int32) (x5 : Int32) (x6 : Int32) (x7 : Int32) (h7 : Nat) (h8 : Nat) (x8 : Int32) (x9 : Int32) (x10 : Int32) (x11 : Int32) (x12 : Int32) (x13 : Int32) (x14 : Int32) (fn0 : Nat → Int32) (fn1 : Nat → Int32) (fn2 : Nat → Int32) (i_x0 : (0 ≤ (Int32.toInt x0) ∧ (Int32.toInt x0) ≤ 1500)) (i_x1 : (0 ≤ (Int32.toInt x1) ∧ (Int32.toInt x1) ≤ 1500)) (i_x2 : (0 ≤ (Int32.toInt x2) ∧ (Int32.toInt x2) ≤ 1500)) (i_x3 : (-1 ≤ (Int32.toInt x3) ∧ (Int32.toInt x3) ≤ 9999)) (i_x4 : (0 ≤ (Int32.toInt x4) ∧ (Int32.toInt x4) ≤ 1)) (i_x5 : (-1 ≤ (Int32.toInt x5) ∧ (Int32.toInt x5) ≤ 9999)) (i_x6 : (0 ≤ (Int32.toInt x6) ∧ (Int32.toInt x6) ≤ 1500)) (i_x7 : (0 ≤ (Int32.toInt x7) ∧ (Int32.toInt x7) ≤ 1500)) (i_x11 : (0 ≤ (Int32.toInt x11) ∧ (Int32.toInt x11) ≤ 1500)) (sz : Nat) : Met l yX10_takeLocal wsX10_takeLocal ({ frames := 7, cells := 0, slots := 0, locals := 152 }) (va_Pc [.ref h0] (PW g [(h0, .inr (9, [.ref h1, .ref h2, .int x0, .int x1, .int x2, .int x3, .int x4, .int x5, .int x6, .int x7])), (h1, .inr (3, [.ref h2, .ref h7, .ref h3, .ref h8, .int x8, .int x9, .int x10])), (h2, .inr (4, [.ref h4, .int x11])), (h3, .inr (7, [.ref h2, .ref h5, .ref h6, .int x12, .int x13, .int x14])), (h4, .inl (gB g, 1500, .inl fn0)), (h5, .inl (gI g, 200, .inl fn1)), (h6, .inl (gI g, 200, .inl fn2))] sz)) (va_Qi (fun (r : Int32) (u : (Int32) × (Int32) × (Int32) × (Int32) × (Int32) × (Int32) × (Nat → Int32) × (Nat → Int32) × (Nat → Int32)) => 0 ≤ (Int32.toInt r) ∧ (Int32.toInt r) ≤ 2 ∧ 0 ≤ (Int32.toInt (u.1)) ∧ (Int32.toInt (u.1)) ≤ 1500 ∧ 0 ≤ (Int32.toInt (u.2.1)) ∧ (Int32.toInt (u.2.1)) ≤ 1500 ∧ 0 ≤ (Int32.toInt (u.2.2.1)) ∧ (Int32.toInt (u.2.2.1)) ≤ 1500 ∧ -1 ≤ (Int32.toInt (u.2.2.2.1)) ∧ (Int32.toInt (u.2.2.2.1)) ≤ 9999 ∧ 0 ≤ (Int32.toInt (u.2.2.2.2.1)) ∧ (Int32.toInt (u.2.2.2.2.1)) ≤ 1500 ∧ 0 ≤ (Int32.toInt (u.2.2.2.2.2.1)) ∧ (Int32.toInt (u.2.2.2.2.2.1)) ≤ 1500 ∧ SEQ 0 (Int32.toInt r) (LOC (GB fn0 (Int32.toInt x11)) (Int32.toInt x11) (Int32.toInt x0) (Int32.toInt x12)) (fun v => v = (Int32.toInt (u.1))) ∧ AGR (u.2.2.2.2.2.2.1) fn0 (Int32.toInt x11) (Int32.toInt (u.1)) ∧ (¬ ((Int32.toInt r) = 0) ∨ ((Int32.toInt x0) ≤ (Int32.toInt (u.1)) ∧ ((Int32.toInt (u.1)) = (Int32.toInt x0) ∨ (Int32.toInt (u.1)) ≤ (Int32.toInt x11)))) ∧ (Int32.toInt x0) ≤ (Int32.toInt (u.1)) ∧ CND ((Int32.toInt r) = 0 ∧ (Int32.toInt x12) ≤ 200) (LCR fn0 (Int32.toInt x11) (Int32.toInt x0) (Int32.toInt x12) (Int32.toInt x3) fn1 fn2 (u.2.2.2.2.2.2.1) (Int32.toInt (u.1)) (u.2.2.2.2.2.2.2.1) (u.2.2.2.2.2.2.2.2))) (BW g (va_A [(h0, .inr (9, [.ref h1, .ref h2, .int x0, .int x1, .int x2, .int x3, .int x4, .int x5, .int x6, .int x7])), (h1, .inr (3, [.ref h2, .ref h7, .ref h3, .ref h8, .int x8, .int x9, .int x10])), (h2, .inr (4, [.ref h4, .int x11])), (h3, .inr (7, [.ref h2, .ref h5, .ref h6, .int x12, .int x13, .int x14])), (h4, .inl (gB g, 1500, .inl fn0)), (h5, .inl (gI g, 200, .inl fn1)), (h6, .inl (gI g, 200, .inl fn2))] sz) (fun u : (Int32) × (Int32) × (Int32) × (Int32) × (Int32) × (Int32) × (Nat → Int32) × (Nat → Int32) × (Nat → Int32) => [(h0, .inr (9, [.ref h1, .ref h2, .int u.1, .int u.2.1, .int u.2.2.1, .int x3, .int x4, .int u.2.2.2.1, .int u.2.2.2.2.1, .int u.2.2.2.2.2.1])), (h1, .inr (3, [.ref h2, .ref h7, .ref h3, .ref h8, .int x8, .int x9, .int x10])), (h2, .inr (4, [.ref h4, .int x11])), (h3, .inr (7, [.ref h2, .ref h5, .ref h6, .int x12, .int x13, .int x14])), (h4, .inl (gB g, 1500, .inl u.2.2.2.2.2.2.1)), (h5, .inl (gI g, 200, .inl u.2.2.2.2.2.2.2.1)), (h6, .inl (gI g, 200, .inl u.2.2.2.2.2.2.2.2))])) (va_A [(h0, .inr (9, [.ref h1, .ref h2, .int x0, .int x1, .int x2, .int x3, .int x4, .int x5, .int x6, .int x7])), (h1, .inr (3, [.ref h2, .ref h7, .ref h3, .ref h8, .int x8, .int x9, .int x10])), (h2, .inr (4, [.ref h4, .int x11])), (h3, .inr (7, [.ref h2, .ref h5, .ref h6, .int x12, .int x13, .int x14])), (h4, .inl (gB g, 1500, .inl fn0)), (h5, .inl (gI g, 200, .inl fn1)), (h6, .inl (gI g, 200, .inl fn2))] sz)) 0 0 (va_A [(h0, .inr (9, [.ref h1, .ref h2, .int x0, .int x1, .int x2, .int x3, .int x4, .int x5, .int x6, .int x7])), (h1, .inr (3, [.ref h2, .ref h7, .ref h3, .ref h8, .int x8, .int x9, .int x10])), (h2, .inr (4, [.ref h4, .int x11])), (h3, .inr (7, [.ref h2, .ref h5, .ref h6, .int x12, .int x13, .int x14])), (h4, .inl (gB g, 1500, .inl fn0)), (h5, .inl (gI g, 200, .inl fn1)), (h6, .inl (gI g, 200, .inl fn2))] sz) := by
  refine met_i RX10 (by decide) rfl rfl (Nat.le_of_ble_eq_true rfl) [(0, .ref h0)] rfl ?_
  intro p e s m args below meth c A Q C hnm Rt
  have gx12 := fb_rng x12
  have hiX10 : ∀ w ∈ wsX100, w ∈ wsX10_takeLocal := fun w h => List.mem_cons_of_mem _ (List.mem_append_left _ (List.mem_append_left _ (List.mem_append_left _ (List.mem_append_right _ (h)))))
  have hiX3 : ∀ w ∈ wsX30, w ∈ wsX10_takeLocal := fun w h => List.mem_cons_of_mem _ (List.mem_append_left _ (List.mem_append_left _ (List.mem_append_right _ (h))))
  refine r_aload_n 0 0 C dX10_takeLocal_0 rfl ?_
  refine r_get 1 C dX10_takeLocal_1 (k := 2) 0 rfl rfl hiX10 (by decide) rfl (mg 1 rfl) (Or.inl rfl) rfl ?_
  refine r_istore_n 4 C dX10_takeLocal_4 [(1, .int x0), (0, .ref h0)] (by decide) rfl ?_
  refine r_aload_n 5 1 C dX10_takeLocal_5 rfl ?_
  refine r_callVi 6 C dX10_takeLocal_6 [] [(h0, .inr (9, [.ref h1, .ref h2, .int x0, .int x1, .int x2, .int x3, .int x4, .int x5, .int x6, .int x7])), (h2, .inr (4, [.ref h4, .int x11])), (h4, .inl (gB g, 1500, .inl fn0))] [(h1, .inr (3, [.ref h2, .ref h7, .ref h3, .ref h8, .int x8, .int x9, .int x10])), (h3, .inr (7, [.ref h2, .ref h5, .ref h6, .int x12, .int x13, .int x14])), (h5, .inl (gI g, 200, .inl fn1)), (h6, .inl (gI g, 200, .inl fn2))] (fun sz => c115_X10_takeWord l g h0 h2 h4 h1 x0 x1 x2 x3 x4 x5 x6 x7 x11 fn0 i_x0 i_x1 i_x2 i_x3 i_x4 i_x5 i_x6 i_x7 i_x11 sz) gX10_takeLocal_X10_takeWord rfl ⟨rfl, rfl⟩ 0 (by decide) ⟨Nat.le_of_ble_eq_true rfl, Nat.le_of_ble_eq_true rfl⟩ 0 rfl rfl [0, 2, 4] [1, 3, 5, 6] rfl rfl (by decide) (by decide) (by decide) rfl rfl (Nat.le_of_ble_eq_true rfl) ⟨Nat.le_of_ble_eq_true rfl, Nat.le_of_ble_eq_true rfl⟩ (fun r4 u6 w5 => ?_)
  obtain ⟨z1, z2, z3⟩ := u6
  refine r_ws [(h1, .inr (3, [.ref h2, .ref h7, .ref h3, .ref h8, .int x8, .int x9, .int x10])), (h3, .inr (7, [.ref h2, .ref h5, .ref h6, .int x12, .int x13, .int x14])), (h5, .inl (gI g, 200, .inl fn1)), (h6, .inl (gI g, 200, .inl fn2)), (h0, .inr (9, [.ref h1, .ref h2, .int z1, .int z2, .int z3, .int x3, .int x4, .int x5, .int x6, .int x7])), (h2, .inr (4, [.ref h4, .int x11])), (h4, .inl (gB g, 1500, .inl fn0))] rfl ?_
  have p7 : 0 ≤ (Int32.toInt r4) := w5.1
  have p8 : (Int32.toInt r4) ≤ 1 := w5.2.1
  have p9 : 0 ≤ (Int32.toInt z1) := w5.2.2.1
  have p10 : (Int32.toInt z1) ≤ 1500 := w5.2.2.2.1
  have p11 : 0 ≤ (Int32.toInt z2) := w5.2.2.2.2.1
  have p12 : (Int32.toInt z2) ≤ 1500 := w5.2.2.2.2.2.1
  have p13 : 0 ≤ (Int32.toInt z3) := w5.2.2.2.2.2.2.1
  have p14 : (Int32.toInt z3) ≤ 1500 := w5.2.2.2.2.2.2.2.1
  have p15 : BSQ (Int32.toInt r4) (WRD (GB fn0 (Int32.toInt x11)) (Int32.toInt x11) (Int32.toInt x0)) (fun w => w = ((Int32.toInt z2), (Int32.toInt z3))) := w5.2.2.2.2.2.2.2.2.1
  have p16 : ((Int32.toInt z1) = (Int32.toInt z3) ∧ (Int32.toInt x0) ≤ (Int32.toInt z2) ∧ (Int32.toInt z2) ≤ (Int32.toInt z3) ∧ (((Int32.toInt r4) = 1 ∧ (Int32.toInt z2) < (Int32.toInt z3) ∧ (Int32.toInt z3) ≤ (Int32.toInt x11)) ∨ (Int32.toInt r4) = 0)) := w5.2.2.2.2.2.2.2.2.2
  refine r_if_ne 9 14 C dX10_takeLocal_9 (by decide) (fun c17 => ?_) (fun c17 => ?_)
  · skip
    have k18 : ¬ ((Int32.toInt r4) = 0) := fun h_9 => c17 ((fa_eq r4 0).mpr h_9)
    refine r_aload_n 14 1 C dX10_takeLocal_14 rfl ?_
    refine r_callVi 15 C dX10_takeLocal_15 [] [(h0, .inr (9, [.ref h1, .ref h2, .int z1, .int z2, .int z3, .int x3, .int x4, .int x5, .int x6, .int x7])), (h2, .inr (4, [.ref h4, .int x11])), (h4, .inl (gB g, 1500, .inl fn0))] [(h1, .inr (3, [.ref h2, .ref h7, .ref h3, .ref h8, .int x8, .int x9, .int x10])), (h3, .inr (7, [.ref h2, .ref h5, .ref h6, .int x12, .int x13, .int x14])), (h5, .inl (gI g, 200, .inl fn1)), (h6, .inl (gI g, 200, .inl fn2))] (fun sz => c153_X10_countOfWord l g h0 h2 h4 h1 z1 z2 z3 x3 x4 x5 x6 x7 x11 fn0 ⟨p9, p10⟩ ⟨p11, p12⟩ ⟨p13, p14⟩ i_x3 i_x4 i_x5 i_x6 i_x7 i_x11 sz) gX10_takeLocal_X10_countOfWord rfl ⟨rfl, rfl⟩ 0 (by decide) ⟨Nat.le_of_ble_eq_true rfl, Nat.le_of_ble_eq_true rfl⟩ 4 rfl rfl [4, 5, 6] [0, 1, 2, 3] rfl rfl (by decide) (by decide) (by decide) rfl rfl (Nat.le_of_ble_eq_true rfl) ⟨Nat.le_of_ble_eq_true rfl, Nat.le_of_ble_eq_true rfl⟩ (fun r19 _ w20 => ?_)
    refine r_ws [(h1, .inr (3, [.ref h2, .ref h7, .ref h3, .ref h8, .int x8, .int x9, .int x10])), (h3, .inr (7, [.ref h2, .ref h5, .ref h6, .int x12, .int x13, .int x14])), (h5, .inl (gI g, 200, .inl fn1)), (h6, .inl (gI g, 200, .inl fn2)), (h0, .inr (9, [.ref h1, .ref h2, .int z1, .int z2, .int z3, .int x3, .int x4, .int x5, .int x6, .int x7])), (h2, .inr (4, [.ref h4, .int x11])), (h4, .inl (gB g, 1500, .inl fn0))] rfl ?_
    have p21 : -1 ≤ (Int32.toInt r19) := w20.1
    have p22 : (Int32.toInt r19) ≤ 9999 := w20.2.1
    have p23 : EQP (CNTL (GB fn0 (Int32.toInt x11)) (Int32.toInt z3) (Int32.toInt z2) 0) (Int32.toInt r19) := w20.2.2
    refine r_istore_n 18 C dX10_takeLocal_18 [(2, .int r19), (1, .int x0), (0, .ref h0)] (by decide) rfl ?_
    refine r_iload_n 19 0 C dX10_takeLocal_19 rfl ?_
    refine r_iconst 20 (-1) C dX10_takeLocal_20 (by decide) ?_
    refine r_icmp_ne 21 31 C dX10_takeLocal_21 (by decide) (fun c24 => ?_) (fun c24 => ?_)
    · skip
      have k25 : ¬ ((Int32.toInt r19) = (-1)) := fun h_9 => c24 ((fa_eq r19 (-1)).mpr h_9)
      refine r_iload_n 31 0 C dX10_takeLocal_31 rfl ?_
      refine r_aload_n 32 2 C dX10_takeLocal_32 rfl ?_
      refine r_get 33 C dX10_takeLocal_33 (k := 0) 4 rfl rfl hiX10 (by decide) rfl (mg 2 rfl) (Or.inl rfl) rfl ?_
      refine r_getN 36 C dX10_takeLocal_36 (k := 2) 0 rfl rfl hiX3 (by decide) rfl (mg 22 rfl) rfl rfl ?_
      refine r_callVi 39 C dX10_takeLocal_39 [.int r19] [(h3, .inr (7, [.ref h2, .ref h5, .ref h6, .int x12, .int x13, .int x14]))] [(h1, .inr (3, [.ref h2, .ref h7, .ref h3, .ref h8, .int x8, .int x9, .int x10])), (h5, .inl (gI g, 200, .inl fn1)), (h6, .inl (gI g, 200, .inl fn2)), (h0, .inr (9, [.ref h1, .ref h2, .int z1, .int z2, .int z3, .int x3, .int x4, .int x5, .int x6, .int x7])), (h2, .inr (4, [.ref h4, .int x11])), (h4, .inl (gB g, 1500, .inl fn0))] (fun sz => c6_X8_size l g h3 h2 h5 h6 x12 x13 x14  sz) gX10_takeLocal_X8_size rfl ⟨rfl, rfl⟩ 0 (by decide) ⟨Nat.le_of_ble_eq_true rfl, Nat.le_of_ble_eq_true rfl⟩ 1 rfl rfl [1] [0, 2, 3, 4, 5, 6] rfl rfl (by decide) (by decide) (by decide) rfl rfl (Nat.le_of_ble_eq_true rfl) ⟨Nat.le_of_ble_eq_true rfl, Nat.le_of_ble_eq_true rfl⟩ (fun r26 _ w27 => ?_)
      refine r_ws [(h1, .inr (3, [.ref h2, .ref h7, .ref h3, .ref h8, .int x8, .int x9, .int x10])), (h5, .inl (gI g, 200, .inl fn1)), (h6, .inl (gI g, 200, .inl fn2)), (h0, .inr (9, [.ref h1, .ref h2, .int z1, .int z2, .int z3, .int x3, .int x4, .int x5, .int x6, .int x7])), (h2, .inr (4, [.ref h4, .int x11])), (h4, .inl (gB g, 1500, .inl fn0)), (h3, .inr (7, [.ref h2, .ref h5, .ref h6, .int x12, .int x13, .int x14]))] rfl ?_
      have p28 : x12 = r26 := (w27).symm
      subst p28
      refine r_icmp_lt 42 47 C dX10_takeLocal_42 (by decide) (fun c29 => ?_) (fun c29 => ?_)
      · skip
        have k30 : (Int32.toInt r19) < (Int32.toInt x12) := (fa_lt r19 x12).mp c29
        refine r_aload_n 47 2 C dX10_takeLocal_47 rfl ?_
        refine r_callVi 48 C dX10_takeLocal_48 [] [(h0, .inr (9, [.ref h1, .ref h2, .int z1, .int z2, .int z3, .int x3, .int x4, .int x5, .int x6, .int x7])), (h2, .inr (4, [.ref h4, .int x11])), (h4, .inl (gB g, 1500, .inl fn0))] [(h1, .inr (3, [.ref h2, .ref h7, .ref h3, .ref h8, .int x8, .int x9, .int x10])), (h5, .inl (gI g, 200, .inl fn1)), (h6, .inl (gI g, 200, .inl fn2)), (h3, .inr (7, [.ref h2, .ref h5, .ref h6, .int x12, .int x13, .int x14]))] (fun sz => c172_X10_takeProgram l g h0 h2 h4 h1 z1 z2 z3 x3 x4 x5 x6 x7 x11 fn0 ⟨p9, p10⟩ ⟨p11, p12⟩ ⟨p13, p14⟩ i_x3 i_x4 i_x5 i_x6 i_x7 i_x11 sz) gX10_takeLocal_X10_takeProgram rfl ⟨rfl, rfl⟩ 0 (by decide) ⟨Nat.le_of_ble_eq_true rfl, Nat.le_of_ble_eq_true rfl⟩ 3 rfl rfl [3, 4, 5] [0, 1, 2, 6] rfl rfl (by decide) (by decide) (by decide) rfl rfl (Nat.le_of_ble_eq_true rfl) ⟨Nat.le_of_ble_eq_true rfl, Nat.le_of_ble_eq_true rfl⟩ (fun r38 u40 w39 => ?_)
        obtain ⟨z31, z32, z33, z34, z35, z36, f37⟩ := u40
        refine r_ws [(h1, .inr (3, [.ref h2, .ref h7, .ref h3, .ref h8, .int x8, .int x9, .int x10])), (h5, .inl (gI g, 200, .inl fn1)), (h6, .inl (gI g, 200, .inl fn2)), (h3, .inr (7, [.ref h2, .ref h5, .ref h6, .int x12, .int x13, .int x14])), (h0, .inr (9, [.ref h1, .ref h2, .int z31, .int z32, .int z33, .int x3, .int x4, .int z34, .int z35, .int z36])), (h2, .inr (4, [.ref h4, .int x11])), (h4, .inl (gB g, 1500, .inl f37))] rfl ?_
        have p41 : 0 ≤ (Int32.toInt r38) := w39.1
        have p42 : (Int32.toInt r38) ≤ 2 := w39.2.1
        have p43 : 0 ≤ (Int32.toInt z31) := w39.2.2.1
        have p44 : (Int32.toInt z31) ≤ 1500 := w39.2.2.2.1
        have p45 : 0 ≤ (Int32.toInt z32) := w39.2.2.2.2.1
        have p46 : (Int32.toInt z32) ≤ 1500 := w39.2.2.2.2.2.1
        have p47 : 0 ≤ (Int32.toInt z33) := w39.2.2.2.2.2.2.1
        have p48 : (Int32.toInt z33) ≤ 1500 := w39.2.2.2.2.2.2.2.1
        have p49 : -1 ≤ (Int32.toInt z34) := w39.2.2.2.2.2.2.2.2.1
        have p50 : (Int32.toInt z34) ≤ 9999 := w39.2.2.2.2.2.2.2.2.2.1
        have p51 : 0 ≤ (Int32.toInt z35) := w39.2.2.2.2.2.2.2.2.2.2.1
        have p52 : (Int32.toInt z35) ≤ 1500 := w39.2.2.2.2.2.2.2.2.2.2.2.1
        have p53 : 0 ≤ (Int32.toInt z36) := w39.2.2.2.2.2.2.2.2.2.2.2.2.1
        have p54 : (Int32.toInt z36) ≤ 1500 := w39.2.2.2.2.2.2.2.2.2.2.2.2.2.1
        have p55 : SEQ 0 (Int32.toInt r38) (PRG (GB fn0 (Int32.toInt x11)) (Int32.toInt x11) (Int32.toInt z1)) (fun v => v = (Int32.toInt z31)) := w39.2.2.2.2.2.2.2.2.2.2.2.2.2.2.1
        have p56 : AGR f37 fn0 (Int32.toInt x11) (Int32.toInt z31) := w39.2.2.2.2.2.2.2.2.2.2.2.2.2.2.2.1
        have p57 : (¬ ((Int32.toInt r38) = 0) ∨ ((Int32.toInt z1) < (Int32.toInt z31) ∧ (Int32.toInt z31) ≤ (Int32.toInt x11))) := w39.2.2.2.2.2.2.2.2.2.2.2.2.2.2.2.2.1
        have p58 : (Int32.toInt z1) ≤ (Int32.toInt z31) := w39.2.2.2.2.2.2.2.2.2.2.2.2.2.2.2.2.2.1
        have p59 : CND ((Int32.toInt r38) = 0) (PRGX (GB fn0 (Int32.toInt x11)) (Int32.toInt x11) (Int32.toInt z1) = some ((Int32.toInt z31), (Int32.toInt z34)) ∧ PGP fn0 (Int32.toInt x3) f37 (Int32.toInt z31) (Int32.toInt z34) (Int32.toInt z35) (Int32.toInt z36)) := w39.2.2.2.2.2.2.2.2.2.2.2.2.2.2.2.2.2.2.1
        have p60 : LOW fn0 f37 (Int32.toInt z1) := w39.2.2.2.2.2.2.2.2.2.2.2.2.2.2.2.2.2.2.2
        refine r_istore_n 51 C dX10_takeLocal_51 [(3, .int r38), (2, .int r19), (1, .int x0), (0, .ref h0)] (by decide) rfl ?_
        refine r_iload_n 52 0 C dX10_takeLocal_52 rfl ?_
        refine r_if_ne 53 75 C dX10_takeLocal_53 (by decide) (fun c61 => ?_) (fun c61 => ?_)
        · skip
          have k62 : ¬ ((Int32.toInt r38) = 0) := fun h_9 => c61 ((fa_eq r38 0).mpr h_9)
          refine r_iload_n 75 0 C dX10_takeLocal_75 rfl ?_
          exact r_iret 76 Rt dX10_takeLocal_76 (z31, z32, z33, z34, z35, z36, f37, fn1, fn2) (show 0 ≤ (Int32.toInt r38) ∧ (Int32.toInt r38) ≤ 2 ∧ 0 ≤ (Int32.toInt z31) ∧ (Int32.toInt z31) ≤ 1500 ∧ 0 ≤ (Int32.toInt z32) ∧ (Int32.toInt z32) ≤ 1500 ∧ 0 ≤ (Int32.toInt z33) ∧ (Int32.toInt z33) ≤ 1500 ∧ -1 ≤ (Int32.toInt z34) ∧ (Int32.toInt z34) ≤ 9999 ∧ 0 ≤ (Int32.toInt z35) ∧ (Int32.toInt z35) ≤ 1500 ∧ 0 ≤ (Int32.toInt z36) ∧ (Int32.toInt z36) ≤ 1500 ∧ SEQ 0 (Int32.toInt r38) (LOC (GB fn0 (Int32.toInt x11)) (Int32.toInt x11) (Int32.toInt x0) (Int32.toInt x12)) (fun v => v = (Int32.toInt z31)) ∧ AGR f37 fn0 (Int32.toInt x11) (Int32.toInt z31) ∧ (¬ ((Int32.toInt r38) = 0) ∨ ((Int32.toInt x0) ≤ (Int32.toInt z31) ∧ ((Int32.toInt z31) = (Int32.toInt x0) ∨ (Int32.toInt z31) ≤ (Int32.toInt x11)))) ∧ (Int32.toInt x0) ≤ (Int32.toInt z31) ∧ CND ((Int32.toInt r38) = 0 ∧ (Int32.toInt x12) ≤ 200) (LCR fn0 (Int32.toInt x11) (Int32.toInt x0) (Int32.toInt x12) (Int32.toInt x3) fn1 fn2 f37 (Int32.toInt z31) fn1 fn2) from ⟨(show _ ∧ _ from ⟨p41, p42⟩).1, (show _ ∧ _ from ⟨p41, p42⟩).2, (show _ ∧ _ from ⟨p43, p44⟩).1, (show _ ∧ _ from ⟨p43, p44⟩).2, (show _ ∧ _ from ⟨p45, p46⟩).1, (show _ ∧ _ from ⟨p45, p46⟩).2, (show _ ∧ _ from ⟨p47, p48⟩).1, (show _ ∧ _ from ⟨p47, p48⟩).2, (show _ ∧ _ from ⟨p49, p50⟩).1, (show _ ∧ _ from ⟨p49, p50⟩).2, (show _ ∧ _ from ⟨p51, p52⟩).1, (show _ ∧ _ from ⟨p51, p52⟩).2, (show _ ∧ _ from ⟨p53, p54⟩).1, (show _ ∧ _ from ⟨p53, p54⟩).2, (by exact loc_c p15 (by omega) p23 (by omega) (by omega) p55 (by omega)), (by exact p56), (by ((repeat' apply And.intro) <;> first | trivial | rfl | assumption | omega | decide | exact Or.inl rfl | exact Or.inr (Or.inl rfl) | exact Or.inr (Or.inr rfl))), (by ((repeat' apply And.intro) <;> first | trivial | rfl | assumption | omega | decide | exact Or.inl rfl | exact Or.inr (Or.inl rfl) | exact Or.inr (Or.inr rfl))), (by exact fun h_9 => absurd h_9 (by omega))⟩) [4, 0, 5, 3, 6, 1, 2] (by decide) rfl (Nat.le_of_ble_eq_true rfl) (Nat.le_of_ble_eq_true rfl)
        · skip
          have k63 : (Int32.toInt r38) = 0 := (fa_eq r38 0).mp c61
          refine r_aload_n 56 3 C dX10_takeLocal_56 rfl ?_
          refine r_get 57 C dX10_takeLocal_57 (k := 0) 4 rfl rfl hiX10 (by decide) rfl (mg 2 rfl) (Or.inl rfl) rfl ?_
          refine r_getN 60 C dX10_takeLocal_60 (k := 2) 0 rfl rfl hiX3 (by decide) rfl (mg 22 rfl) rfl rfl ?_
          refine r_iload_n 63 1 C dX10_takeLocal_63 rfl ?_
          refine r_aload_n 64 3 C dX10_takeLocal_64 rfl ?_
          refine r_get 65 C dX10_takeLocal_65 (k := 8) 4 rfl rfl hiX10 (by decide) rfl (mg 3 rfl) (Or.inl rfl) rfl ?_
          refine r_aload_n 68 3 C dX10_takeLocal_68 rfl ?_
          refine r_get 69 C dX10_takeLocal_69 (k := 9) 4 rfl rfl hiX10 (by decide) rfl (mg 4 rfl) (Or.inl rfl) rfl ?_
          refine r_callVv 72 C dX10_takeLocal_72 [] [(h3, .inr (7, [.ref h2, .ref h5, .ref h6, .int x12, .int x13, .int x14])), (h5, .inl (gI g, 200, .inl fn1)), (h6, .inl (gI g, 200, .inl fn2))] [(h1, .inr (3, [.ref h2, .ref h7, .ref h3, .ref h8, .int x8, .int x9, .int x10])), (h0, .inr (9, [.ref h1, .ref h2, .int z31, .int z32, .int z33, .int x3, .int x4, .int z34, .int z35, .int z36])), (h2, .inr (4, [.ref h4, .int x11])), (h4, .inl (gB g, 1500, .inl f37))] (fun sz => c173_X8_put l g h3 h5 h6 r19 z35 z36 h2 x12 x13 x14 fn1 fn2  sz) gX10_takeLocal_X8_put rfl ⟨rfl, rfl⟩ 3 (by decide) ⟨Nat.le_of_ble_eq_true rfl, Nat.le_of_ble_eq_true rfl⟩ 3 rfl rfl [3, 1, 2] [0, 4, 5, 6] rfl rfl (by decide) (by decide) (by decide) rfl rfl (Nat.le_of_ble_eq_true rfl) ⟨Nat.le_of_ble_eq_true rfl, Nat.le_of_ble_eq_true rfl⟩ (fun  u67 w66 => ?_)
          obtain ⟨f64, f65⟩ := u67
          refine r_ws [(h1, .inr (3, [.ref h2, .ref h7, .ref h3, .ref h8, .int x8, .int x9, .int x10])), (h0, .inr (9, [.ref h1, .ref h2, .int z31, .int z32, .int z33, .int x3, .int x4, .int z34, .int z35, .int z36])), (h2, .inr (4, [.ref h4, .int x11])), (h4, .inl (gB g, 1500, .inl f37)), (h3, .inr (7, [.ref h2, .ref h5, .ref h6, .int x12, .int x13, .int x14])), (h5, .inl (gI g, 200, .inl f64)), (h6, .inl (gI g, 200, .inl f65))] rfl ?_
          have p68 : CND (0 ≤ (Int32.toInt r19) ∧ (Int32.toInt r19) < (Int32.toInt x12) ∧ (Int32.toInt r19) < 200) (f64 = upd fn1 (Int.toNat (Int32.toInt r19)) z35 ∧ f65 = upd fn2 (Int.toNat (Int32.toInt r19)) z36) := w66
          refine r_iload_n 75 0 C dX10_takeLocal_75 rfl ?_
          exact r_iret 76 Rt dX10_takeLocal_76 (z31, z32, z33, z34, z35, z36, f37, f64, f65) (show 0 ≤ (Int32.toInt r38) ∧ (Int32.toInt r38) ≤ 2 ∧ 0 ≤ (Int32.toInt z31) ∧ (Int32.toInt z31) ≤ 1500 ∧ 0 ≤ (Int32.toInt z32) ∧ (Int32.toInt z32) ≤ 1500 ∧ 0 ≤ (Int32.toInt z33) ∧ (Int32.toInt z33) ≤ 1500 ∧ -1 ≤ (Int32.toInt z34) ∧ (Int32.toInt z34) ≤ 9999 ∧ 0 ≤ (Int32.toInt z35) ∧ (Int32.toInt z35) ≤ 1500 ∧ 0 ≤ (Int32.toInt z36) ∧ (Int32.toInt z36) ≤ 1500 ∧ SEQ 0 (Int32.toInt r38) (LOC (GB fn0 (Int32.toInt x11)) (Int32.toInt x11) (Int32.toInt x0) (Int32.toInt x12)) (fun v => v = (Int32.toInt z31)) ∧ AGR f37 fn0 (Int32.toInt x11) (Int32.toInt z31) ∧ (¬ ((Int32.toInt r38) = 0) ∨ ((Int32.toInt x0) ≤ (Int32.toInt z31) ∧ ((Int32.toInt z31) = (Int32.toInt x0) ∨ (Int32.toInt z31) ≤ (Int32.toInt x11)))) ∧ (Int32.toInt x0) ≤ (Int32.toInt z31) ∧ CND ((Int32.toInt r38) = 0 ∧ (Int32.toInt x12) ≤ 200) (LCR fn0 (Int32.toInt x11) (Int32.toInt x0) (Int32.toInt x12) (Int32.toInt x3) fn1 fn2 f37 (Int32.toInt z31) f64 f65) from ⟨(show _ ∧ _ from ⟨p41, p42⟩).1, (show _ ∧ _ from ⟨p41, p42⟩).2, (show _ ∧ _ from ⟨p43, p44⟩).1, (show _ ∧ _ from ⟨p43, p44⟩).2, (show _ ∧ _ from ⟨p45, p46⟩).1, (show _ ∧ _ from ⟨p45, p46⟩).2, (show _ ∧ _ from ⟨p47, p48⟩).1, (show _ ∧ _ from ⟨p47, p48⟩).2, (show _ ∧ _ from ⟨p49, p50⟩).1, (show _ ∧ _ from ⟨p49, p50⟩).2, (show _ ∧ _ from ⟨p51, p52⟩).1, (show _ ∧ _ from ⟨p51, p52⟩).2, (show _ ∧ _ from ⟨p53, p54⟩).1, (show _ ∧ _ from ⟨p53, p54⟩).2, (by exact loc_c p15 (by omega) p23 (by omega) (by omega) p55 (by omega)), (by exact p56), (by ((repeat' apply And.intro) <;> first | trivial | rfl | assumption | omega | decide | exact Or.inl rfl | exact Or.inr (Or.inl rfl) | exact Or.inr (Or.inr rfl))), (by ((repeat' apply And.intro) <;> first | trivial | rfl | assumption | omega | decide | exact Or.inl rfl | exact Or.inr (Or.inl rfl) | exact Or.inr (Or.inr rfl))), (by exact fun h_9 => lcr_p p15 (by omega) p23 (by omega) (by omega) (by omega) (p59 (by omega)) (by omega) (p68 ⟨by omega, by omega, by omega⟩) (by omega))⟩) [1, 0, 2, 4, 3, 5, 6] (by decide) rfl (Nat.le_of_ble_eq_true rfl) (Nat.le_of_ble_eq_true rfl)
      · skip
        have k69 : ¬ ((Int32.toInt r19) < (Int32.toInt x12)) := fun h_9 => c29 ((fa_lt r19 x12).mpr h_9)
        refine r_iconst 45 2 C dX10_takeLocal_45 (by decide) ?_
        exact r_iret 46 Rt dX10_takeLocal_46 (z1, z2, z3, x5, x6, x7, fn0, fn1, fn2) (show 0 ≤ (Int32.toInt 2) ∧ (Int32.toInt 2) ≤ 2 ∧ 0 ≤ (Int32.toInt z1) ∧ (Int32.toInt z1) ≤ 1500 ∧ 0 ≤ (Int32.toInt z2) ∧ (Int32.toInt z2) ≤ 1500 ∧ 0 ≤ (Int32.toInt z3) ∧ (Int32.toInt z3) ≤ 1500 ∧ -1 ≤ (Int32.toInt x5) ∧ (Int32.toInt x5) ≤ 9999 ∧ 0 ≤ (Int32.toInt x6) ∧ (Int32.toInt x6) ≤ 1500 ∧ 0 ≤ (Int32.toInt x7) ∧ (Int32.toInt x7) ≤ 1500 ∧ SEQ 0 2 (LOC (GB fn0 (Int32.toInt x11)) (Int32.toInt x11) (Int32.toInt x0) (Int32.toInt x12)) (fun v => v = (Int32.toInt z1)) ∧ AGR fn0 fn0 (Int32.toInt x11) (Int32.toInt z1) ∧ (¬ (2 = 0) ∨ ((Int32.toInt x0) ≤ (Int32.toInt z1) ∧ ((Int32.toInt z1) = (Int32.toInt x0) ∨ (Int32.toInt z1) ≤ (Int32.toInt x11)))) ∧ (Int32.toInt x0) ≤ (Int32.toInt z1) ∧ CND (2 = 0 ∧ (Int32.toInt x12) ≤ 200) (LCR fn0 (Int32.toInt x11) (Int32.toInt x0) (Int32.toInt x12) (Int32.toInt x3) fn1 fn2 fn0 (Int32.toInt z1) fn1 fn2) from ⟨(by ((repeat' apply And.intro) <;> first | trivial | rfl | assumption | omega | decide | exact Or.inl rfl | exact Or.inr (Or.inl rfl) | exact Or.inr (Or.inr rfl))), (by ((repeat' apply And.intro) <;> first | trivial | rfl | assumption | omega | decide | exact Or.inl rfl | exact Or.inr (Or.inl rfl) | exact Or.inr (Or.inr rfl))), (show _ ∧ _ from ⟨p9, p10⟩).1, (show _ ∧ _ from ⟨p9, p10⟩).2, (show _ ∧ _ from ⟨p11, p12⟩).1, (show _ ∧ _ from ⟨p11, p12⟩).2, (show _ ∧ _ from ⟨p13, p14⟩).1, (show _ ∧ _ from ⟨p13, p14⟩).2, i_x5.1, i_x5.2, i_x6.1, i_x6.2, i_x7.1, i_x7.2, (by first | exact loc_a p15 (by omega) p23 (by omega) (by omega) (by omega) | exact loc_b p15 (by omega) p23 (by omega) (by omega) (by omega)), (by exact agr_refl), (by ((repeat' apply And.intro) <;> first | trivial | rfl | assumption | omega | decide | exact Or.inl rfl | exact Or.inr (Or.inl rfl) | exact Or.inr (Or.inr rfl))), (by ((repeat' apply And.intro) <;> first | trivial | rfl | assumption | omega | decide | exact Or.inl rfl | exact Or.inr (Or.inl rfl) | exact Or.inr (Or.inr rfl))), (by first | exact fun h_9 => absurd h_9 (by omega) | exact fun _ => lcr_a p15 (by omega) p23 (by omega) (by omega))⟩) [3, 0, 4, 6, 5, 1, 2] (by decide) rfl (Nat.le_of_ble_eq_true rfl) (Nat.le_of_ble_eq_true rfl)
    · skip
      have k70 : (Int32.toInt r19) = (-1) := (fa_eq r19 (-1)).mp c24
      refine r_aload_n 24 2 C dX10_takeLocal_24 rfl ?_
      refine r_iload_n 25 1 C dX10_takeLocal_25 rfl ?_
      refine r_put 26 C dX10_takeLocal_26 (k := 2) 4 rfl rfl hiX10 tyX10 tyX10_ok nmX10 (by decide) rfl (mg 1 rfl) (Or.inl rfl) rfl rfl rfl rfl (Nat.le_of_ble_eq_true rfl) [(h1, .inr (3, [.ref h2, .ref h7, .ref h3, .ref h8, .int x8, .int x9, .int x10])), (h3, .inr (7, [.ref h2, .ref h5, .ref h6, .int x12, .int x13, .int x14])), (h5, .inl (gI g, 200, .inl fn1)), (h6, .inl (gI g, 200, .inl fn2)), (h0, .inr (9, [.ref h1, .ref h2, .int x0, .int z2, .int z3, .int x3, .int x4, .int x5, .int x6, .int x7])), (h2, .inr (4, [.ref h4, .int x11])), (h4, .inl (gB g, 1500, .inl fn0))] rfl ?_
      refine r_iconst 29 0 C dX10_takeLocal_29 (by decide) ?_
      exact r_iret 30 Rt dX10_takeLocal_30 (x0, z2, z3, x5, x6, x7, fn0, fn1, fn2) (show 0 ≤ (Int32.toInt 0) ∧ (Int32.toInt 0) ≤ 2 ∧ 0 ≤ (Int32.toInt x0) ∧ (Int32.toInt x0) ≤ 1500 ∧ 0 ≤ (Int32.toInt z2) ∧ (Int32.toInt z2) ≤ 1500 ∧ 0 ≤ (Int32.toInt z3) ∧ (Int32.toInt z3) ≤ 1500 ∧ -1 ≤ (Int32.toInt x5) ∧ (Int32.toInt x5) ≤ 9999 ∧ 0 ≤ (Int32.toInt x6) ∧ (Int32.toInt x6) ≤ 1500 ∧ 0 ≤ (Int32.toInt x7) ∧ (Int32.toInt x7) ≤ 1500 ∧ SEQ 0 0 (LOC (GB fn0 (Int32.toInt x11)) (Int32.toInt x11) (Int32.toInt x0) (Int32.toInt x12)) (fun v => v = (Int32.toInt x0)) ∧ AGR fn0 fn0 (Int32.toInt x11) (Int32.toInt x0) ∧ (¬ (0 = 0) ∨ ((Int32.toInt x0) ≤ (Int32.toInt x0) ∧ ((Int32.toInt x0) = (Int32.toInt x0) ∨ (Int32.toInt x0) ≤ (Int32.toInt x11)))) ∧ (Int32.toInt x0) ≤ (Int32.toInt x0) ∧ CND (0 = 0 ∧ (Int32.toInt x12) ≤ 200) (LCR fn0 (Int32.toInt x11) (Int32.toInt x0) (Int32.toInt x12) (Int32.toInt x3) fn1 fn2 fn0 (Int32.toInt x0) fn1 fn2) from ⟨(by ((repeat' apply And.intro) <;> first | trivial | rfl | assumption | omega | decide | exact Or.inl rfl | exact Or.inr (Or.inl rfl) | exact Or.inr (Or.inr rfl))), (by ((repeat' apply And.intro) <;> first | trivial | rfl | assumption | omega | decide | exact Or.inl rfl | exact Or.inr (Or.inl rfl) | exact Or.inr (Or.inr rfl))), i_x0.1, i_x0.2, (show _ ∧ _ from ⟨p11, p12⟩).1, (show _ ∧ _ from ⟨p11, p12⟩).2, (show _ ∧ _ from ⟨p13, p14⟩).1, (show _ ∧ _ from ⟨p13, p14⟩).2, i_x5.1, i_x5.2, i_x6.1, i_x6.2, i_x7.1, i_x7.2, (by first | exact loc_a p15 (by omega) p23 (by omega) (by omega) (by omega) | exact loc_b p15 (by omega) p23 (by omega) (by omega) (by omega)), (by exact agr_refl), (by ((repeat' apply And.intro) <;> first | trivial | rfl | assumption | omega | decide | exact Or.inl rfl | exact Or.inr (Or.inl rfl) | exact Or.inr (Or.inr rfl))), (by ((repeat' apply And.intro) <;> first | trivial | rfl | assumption | omega | decide | exact Or.inl rfl | exact Or.inr (Or.inl rfl) | exact Or.inr (Or.inr rfl))), (by first | exact fun h_9 => absurd h_9 (by omega) | exact fun _ => lcr_a p15 (by omega) p23 (by omega) (by omega))⟩) [4, 0, 5, 1, 6, 2, 3] (by decide) rfl (Nat.le_of_ble_eq_true rfl) (Nat.le_of_ble_eq_true rfl)
  · skip
    have k71 : (Int32.toInt r4) = 0 := (fa_eq r4 0).mp c17
    refine r_iconst 12 1 C dX10_takeLocal_12 (by decide) ?_
    exact r_iret 13 Rt dX10_takeLocal_13 (z1, z2, z3, x5, x6, x7, fn0, fn1, fn2) (show 0 ≤ (Int32.toInt 1) ∧ (Int32.toInt 1) ≤ 2 ∧ 0 ≤ (Int32.toInt z1) ∧ (Int32.toInt z1) ≤ 1500 ∧ 0 ≤ (Int32.toInt z2) ∧ (Int32.toInt z2) ≤ 1500 ∧ 0 ≤ (Int32.toInt z3) ∧ (Int32.toInt z3) ≤ 1500 ∧ -1 ≤ (Int32.toInt x5) ∧ (Int32.toInt x5) ≤ 9999 ∧ 0 ≤ (Int32.toInt x6) ∧ (Int32.toInt x6) ≤ 1500 ∧ 0 ≤ (Int32.toInt x7) ∧ (Int32.toInt x7) ≤ 1500 ∧ SEQ 0 1 (LOC (GB fn0 (Int32.toInt x11)) (Int32.toInt x11) (Int32.toInt x0) (Int32.toInt x12)) (fun v => v = (Int32.toInt z1)) ∧ AGR fn0 fn0 (Int32.toInt x11) (Int32.toInt z1) ∧ (¬ (1 = 0) ∨ ((Int32.toInt x0) ≤ (Int32.toInt z1) ∧ ((Int32.toInt z1) = (Int32.toInt x0) ∨ (Int32.toInt z1) ≤ (Int32.toInt x11)))) ∧ (Int32.toInt x0) ≤ (Int32.toInt z1) ∧ CND (1 = 0 ∧ (Int32.toInt x12) ≤ 200) (LCR fn0 (Int32.toInt x11) (Int32.toInt x0) (Int32.toInt x12) (Int32.toInt x3) fn1 fn2 fn0 (Int32.toInt z1) fn1 fn2) from ⟨(by ((repeat' apply And.intro) <;> first | trivial | rfl | assumption | omega | decide | exact Or.inl rfl | exact Or.inr (Or.inl rfl) | exact Or.inr (Or.inr rfl))), (by ((repeat' apply And.intro) <;> first | trivial | rfl | assumption | omega | decide | exact Or.inl rfl | exact Or.inr (Or.inl rfl) | exact Or.inr (Or.inr rfl))), (show _ ∧ _ from ⟨p9, p10⟩).1, (show _ ∧ _ from ⟨p9, p10⟩).2, (show _ ∧ _ from ⟨p11, p12⟩).1, (show _ ∧ _ from ⟨p11, p12⟩).2, (show _ ∧ _ from ⟨p13, p14⟩).1, (show _ ∧ _ from ⟨p13, p14⟩).2, i_x5.1, i_x5.2, i_x6.1, i_x6.2, i_x7.1, i_x7.2, (by exact bsq_no p15 (by omega) (by omega)), (by exact agr_refl), (by ((repeat' apply And.intro) <;> first | trivial | rfl | assumption | omega | decide | exact Or.inl rfl | exact Or.inr (Or.inl rfl) | exact Or.inr (Or.inr rfl))), (by ((repeat' apply And.intro) <;> first | trivial | rfl | assumption | omega | decide | exact Or.inl rfl | exact Or.inr (Or.inl rfl) | exact Or.inr (Or.inr rfl))), (by exact fun h_9 => absurd h_9 (by omega))⟩) [4, 0, 5, 1, 6, 2, 3] (by decide) rfl (Nat.le_of_ble_eq_true rfl) (Nat.le_of_ble_eq_true rfl)
set_option maxHeartbeats 4000000 in
set_option maxRecDepth 100000 in
theorem c175_J0_coder_7d493 (l : Launch) (g : GD) (sz : Nat) : Met l yJ0_coder_7d493 wsJ0_coder_7d493 ({ frames := 0, cells := 0, slots := 0, locals := 0 }) (va_Pc [.ref (g.2.2.1 5)] (PW g [] sz)) (va_Qi (fun (r : Int32) (_ : Unit) => r = 0) (BW g (va_A [] sz) (fun _ : Unit => [])) (va_A [] sz)) 0 0 (va_A [] sz) := by
  refine met_b RJ0 (by decide) rfl rfl (Nat.le_of_ble_eq_true rfl) [(0, .ref (g.2.2.1 5))] rfl ?_
  intro p e s m args below meth c A Q C hnm Rt
  refine r_gets 0 C dJ0_coder_7d493_0 C.2.2.2.2.2.1.2.2.2.2.1 (mg 1 rfl) ?_
  refine r_if_eq_f 3 13 C dJ0_coder_7d493_3 (by decide) (by decide) ?_
  refine r_aload_n 6 0 C dJ0_coder_7d493_6 rfl ?_
  refine r_sget 7 5 C dJ0_coder_7d493_7 ((C.2.2.2.2.2.1.2.2.1.1 5 (by decide)).2.1) (mg 2 rfl) ?_
  refine r_goto 10 14 C dJ0_coder_7d493_10 (by decide) ?_
  exact r_bret 14 Rt dJ0_coder_7d493_14 (by decide) () (show 0 = 0 from (by ((repeat' apply And.intro) <;> first | trivial | rfl | assumption | omega | decide | exact Or.inl rfl | exact Or.inr (Or.inl rfl) | exact Or.inr (Or.inr rfl)))) [] (by decide) rfl (Nat.le_of_ble_eq_true rfl) (Nat.le_of_ble_eq_true rfl)
set_option maxHeartbeats 4000000 in
set_option maxRecDepth 100000 in
theorem c176_J0_length_8abf5 (l : Launch) (g : GD) (sz : Nat) : Met l yJ0_length_8abf5 wsJ0_length_8abf5 ({ frames := 1, cells := 0, slots := 0, locals := 20 }) (va_Pc [.ref (g.2.2.1 5)] (PW g [] sz)) (va_Qi (fun (r : Int32) (_ : Unit) => r = 5) (BW g (va_A [] sz) (fun _ : Unit => [])) (va_A [] sz)) 0 0 (va_A [] sz) := by
  refine met_i RJ0 (by decide) rfl rfl (Nat.le_of_ble_eq_true rfl) [(0, .ref (g.2.2.1 5))] rfl ?_
  intro p e s m args below meth c A Q C hnm Rt
  refine r_aload_n 0 0 C dJ0_length_8abf5_0 rfl ?_
  refine r_sget 1 5 C dJ0_length_8abf5_1 ((C.2.2.2.2.2.1.2.2.1.1 5 (by decide)).2.2.1) (mg 1 rfl) ?_
  refine r_stlen 4 5 C dJ0_length_8abf5_4 ((C.2.2.2.2.2.1.2.2.1.1 5 (by decide)).2.2.2) (by decide) ?_
  refine r_aload_n 5 0 C dJ0_length_8abf5_5 rfl ?_
  refine r_scallVi 6 C dJ0_length_8abf5_6 [.int 5] 5 (by decide) [] [] (fun sz => c175_J0_coder_7d493 l g   sz) gJ0_length_8abf5_J0_coder_7d493 rfl ⟨rfl, rfl⟩ 0 (by decide) ⟨Nat.le_of_ble_eq_true rfl, Nat.le_of_ble_eq_true rfl⟩ [] [] rfl rfl (by decide) (by decide) (by decide) rfl rfl (Nat.le_of_ble_eq_true rfl) ⟨Nat.le_of_ble_eq_true rfl, Nat.le_of_ble_eq_true rfl⟩ (fun r1 _ w2 => ?_)
  refine r_ws [] rfl ?_
  have p3 : 0 = r1 := (w2).symm
  subst p3
  refine r_ishr 9 5 C dJ0_length_8abf5_9 (by decide) ?_
  exact r_iret 10 Rt dJ0_length_8abf5_10 () (show 5 = 5 from (by ((repeat' apply And.intro) <;> first | trivial | rfl | assumption | omega | decide | exact Or.inl rfl | exact Or.inr (Or.inl rfl) | exact Or.inr (Or.inr rfl)))) [] (by decide) rfl (Nat.le_of_ble_eq_true rfl) (Nat.le_of_ble_eq_true rfl)
set_option maxHeartbeats 4000000 in
set_option maxRecDepth 100000 in
theorem c177_J0_isLatin1_aae02 (l : Launch) (g : GD) (sz : Nat) : Met l yJ0_isLatin1_aae02 wsJ0_isLatin1_aae02 ({ frames := 0, cells := 0, slots := 0, locals := 0 }) (va_Pc [.ref (g.2.2.1 5)] (PW g [] sz)) (va_Qi (fun (r : Int32) (_ : Unit) => r = 1) (BW g (va_A [] sz) (fun _ : Unit => [])) (va_A [] sz)) 0 0 (va_A [] sz) := by
  refine met_z RJ0 (by decide) rfl rfl (Nat.le_of_ble_eq_true rfl) [(0, .ref (g.2.2.1 5))] rfl ?_
  intro p e s m args below meth c A Q C hnm Rt
  refine r_gets 0 C dJ0_isLatin1_aae02_0 C.2.2.2.2.2.1.2.2.2.2.1 (mg 1 rfl) ?_
  refine r_if_eq_f 3 17 C dJ0_isLatin1_aae02_3 (by decide) (by decide) ?_
  refine r_aload_n 6 0 C dJ0_isLatin1_aae02_6 rfl ?_
  refine r_sget 7 5 C dJ0_isLatin1_aae02_7 ((C.2.2.2.2.2.1.2.2.1.1 5 (by decide)).2.1) (mg 2 rfl) ?_
  refine r_if_ne_f 10 17 C dJ0_isLatin1_aae02_10 (by decide) (by decide) ?_
  refine r_iconst 13 1 C dJ0_isLatin1_aae02_13 (by decide) ?_
  refine r_goto 14 18 C dJ0_isLatin1_aae02_14 (by decide) ?_
  exact r_zret 18 Rt dJ0_isLatin1_aae02_18 (by decide) () (show 1 = 1 from (by ((repeat' apply And.intro) <;> first | trivial | rfl | assumption | omega | decide | exact Or.inl rfl | exact Or.inr (Or.inl rfl) | exact Or.inr (Or.inr rfl)))) [] (by decide) rfl (Nat.le_of_ble_eq_true rfl) (Nat.le_of_ble_eq_true rfl)
set_option maxHeartbeats 4000000 in
set_option maxRecDepth 100000 in
theorem c178_J1_charAt_3b067 (l : Launch) (g : GD) (x0 : Int32) (i_x0 : (0 ≤ (Int32.toInt x0) ∧ (Int32.toInt x0) ≤ 4)) (sz : Nat) : Met l yJ1_charAt_3b067 wsJ1_charAt_3b067 ({ frames := 2, cells := 0, slots := 0, locals := 43 }) (va_Pc [.ref (g.2.2.2 5), .int x0] (PW g [] sz)) (va_Qi (fun (r : Int32) (_ : Unit) => 0 ≤ (Int32.toInt r) ∧ (Int32.toInt r) ≤ 65535 ∧ CHA wArray (Int32.toInt x0) (Int32.toInt r)) (BW g (va_A [] sz) (fun _ : Unit => [])) (va_A [] sz)) 0 0 (va_A [] sz) := by
  refine met_c RJ1 (by decide) rfl rfl (Nat.le_of_ble_eq_true rfl) [(0, .ref (g.2.2.2 5)), (1, .int x0)] rfl ?_
  intro p e s m args below meth c A Q C hnm Rt
  refine r_iload_n 0 1 C dJ1_charAt_3b067_0 rfl ?_
  refine r_aload_n 1 0 C dJ1_charAt_3b067_1 rfl ?_
  refine r_stlen 2 5 C dJ1_charAt_3b067_2 ((C.2.2.2.2.2.1.2.2.1.1 5 (by decide)).2.2.2) (by decide) ?_
  refine r_callSv 3 C dJ1_charAt_3b067_3 [] [] [] (fun sz => c107_J0_checkIndex_df160 l g x0 i_x0 sz) gJ1_charAt_3b067_J0_checkIndex_df160 rfl ⟨rfl, rfl⟩ 2 (by decide) ⟨Nat.le_of_ble_eq_true rfl, Nat.le_of_ble_eq_true rfl⟩ [] [] rfl rfl (by decide) (by decide) (by decide) rfl rfl (Nat.le_of_ble_eq_true rfl) ⟨Nat.le_of_ble_eq_true rfl, Nat.le_of_ble_eq_true rfl⟩ (fun  _ w1 => ?_)
  refine r_ws [] rfl ?_
  refine r_aload_n 6 0 C dJ1_charAt_3b067_6 rfl ?_
  refine r_iload_n 7 1 C dJ1_charAt_3b067_7 rfl ?_
  obtain ⟨z2, ez2⟩ : ∃ z_9, (stB.getD 5 []).getD (Int32.toNatClampNeg x0) 0 = z_9 := ⟨_, rfl⟩
  refine r_stb 8 (.int z2) C dJ1_charAt_3b067_8 ((C.2.2.2.2.2.1.2.2.1.1 5 (by decide)).2.2.2) (vinI (n := 5) (by omega) (by omega)) (by rw [← ez2]) ?_
  have gz2 := fb_rng z2
  refine r_sipush 9 255 C dJ1_charAt_3b067_9 (by decide) ?_
  obtain ⟨z3, ez3⟩ : ∃ z_9, z2 &&& 255 = z_9 := ⟨_, rfl⟩
  have tz3 : 0 ≤ (Int32.toInt z3) ∧ (Int32.toInt z3) ≤ 255 := by rw [← ez3]; exact and_255 z2
  refine r_iand 12 z3 C dJ1_charAt_3b067_12 ez3 ?_
  obtain ⟨z4, ez4⟩ : ∃ z_9, (Int32.toUInt32 z3 % 65536).toInt32 = z_9 := ⟨_, rfl⟩
  have tz4 : 0 ≤ (Int32.toInt z4) ∧ (Int32.toInt z4) ≤ 65535 := by rw [← ez4]; exact chr_in _
  refine r_i2c 13 z4 C dJ1_charAt_3b067_13 ez4 ?_
  exact r_cret 14 Rt dJ1_charAt_3b067_14 (by rw [← ez4]; exact pk_nc _) () (show 0 ≤ (Int32.toInt z4) ∧ (Int32.toInt z4) ≤ 65535 ∧ CHA wArray (Int32.toInt x0) (Int32.toInt z4) from ⟨(by ((repeat' apply And.intro) <;> first | trivial | rfl | assumption | omega | decide | exact Or.inl rfl | exact Or.inr (Or.inl rfl) | exact Or.inr (Or.inr rfl))), (by ((repeat' apply And.intro) <;> first | trivial | rfl | assumption | omega | decide | exact Or.inl rfl | exact Or.inr (Or.inl rfl) | exact Or.inr (Or.inr rfl))), (by have h_9 : ∀ j, j < 5 → Int32.toInt ((Int32.toUInt32 ((stB.getD 5 []).getD j 0 &&& 255) % 65536).toInt32) = wArray.getD j 0 := (by decide); subst_vars; exact h_9 _ (show (Int32.toInt x0).toNat < 5 by omega))⟩) [] (by decide) rfl (Nat.le_of_ble_eq_true rfl) (Nat.le_of_ble_eq_true rfl)
set_option maxHeartbeats 4000000 in
set_option maxRecDepth 100000 in
theorem c179_J0_charAt_5068e (l : Launch) (g : GD) (x0 : Int32) (i_x0 : (0 ≤ (Int32.toInt x0) ∧ (Int32.toInt x0) ≤ 4)) (sz : Nat) : Met l yJ0_charAt_5068e wsJ0_charAt_5068e ({ frames := 3, cells := 0, slots := 0, locals := 64 }) (va_Pc [.ref (g.2.2.1 5), .int x0] (PW g [] sz)) (va_Qi (fun (r : Int32) (_ : Unit) => 0 ≤ (Int32.toInt r) ∧ (Int32.toInt r) ≤ 65535 ∧ CHA wArray (Int32.toInt x0) (Int32.toInt r)) (BW g (va_A [] sz) (fun _ : Unit => [])) (va_A [] sz)) 0 0 (va_A [] sz) := by
  refine met_c RJ0 (by decide) rfl rfl (Nat.le_of_ble_eq_true rfl) [(0, .ref (g.2.2.1 5)), (1, .int x0)] rfl ?_
  intro p e s m args below meth c A Q C hnm Rt
  refine r_aload_n 0 0 C dJ0_charAt_5068e_0 rfl ?_
  refine r_scallVi 1 C dJ0_charAt_5068e_1 [] 5 (by decide) [] [] (fun sz => c177_J0_isLatin1_aae02 l g   sz) gJ0_charAt_5068e_J0_isLatin1_aae02 rfl ⟨rfl, rfl⟩ 0 (by decide) ⟨Nat.le_of_ble_eq_true rfl, Nat.le_of_ble_eq_true rfl⟩ [] [] rfl rfl (by decide) (by decide) (by decide) rfl rfl (Nat.le_of_ble_eq_true rfl) ⟨Nat.le_of_ble_eq_true rfl, Nat.le_of_ble_eq_true rfl⟩ (fun r1 _ w2 => ?_)
  refine r_ws [] rfl ?_
  have p3 : 1 = r1 := (w2).symm
  subst p3
  refine r_if_eq_f 4 16 C dJ0_charAt_5068e_4 (by decide) (by decide) ?_
  refine r_aload_n 7 0 C dJ0_charAt_5068e_7 rfl ?_
  refine r_sget 8 5 C dJ0_charAt_5068e_8 ((C.2.2.2.2.2.1.2.2.1.1 5 (by decide)).2.2.1) (mg 1 rfl) ?_
  refine r_iload_n 11 1 C dJ0_charAt_5068e_11 rfl ?_
  refine r_callSi 12 C dJ0_charAt_5068e_12 [] [] [] (fun sz => c178_J1_charAt_3b067 l g x0 i_x0 sz) gJ0_charAt_5068e_J1_charAt_3b067 rfl ⟨rfl, rfl⟩ 2 (by decide) ⟨Nat.le_of_ble_eq_true rfl, Nat.le_of_ble_eq_true rfl⟩ [] [] rfl rfl (by decide) (by decide) (by decide) rfl rfl (Nat.le_of_ble_eq_true rfl) ⟨Nat.le_of_ble_eq_true rfl, Nat.le_of_ble_eq_true rfl⟩ (fun r4 _ w5 => ?_)
  refine r_ws [] rfl ?_
  have p6 : 0 ≤ (Int32.toInt r4) := w5.1
  have p7 : (Int32.toInt r4) ≤ 65535 := w5.2.1
  have p8 : CHA wArray (Int32.toInt x0) (Int32.toInt r4) := w5.2.2
  exact r_cret 15 Rt dJ0_charAt_5068e_15 (nc_in (by omega) (by omega)) () (show 0 ≤ (Int32.toInt r4) ∧ (Int32.toInt r4) ≤ 65535 ∧ CHA wArray (Int32.toInt x0) (Int32.toInt r4) from ⟨(show _ ∧ _ from ⟨p6, p7⟩).1, (show _ ∧ _ from ⟨p6, p7⟩).2, (by exact p8)⟩) [] (by decide) rfl (Nat.le_of_ble_eq_true rfl) (Nat.le_of_ble_eq_true rfl)
set_option maxHeartbeats 4000000 in
set_option maxRecDepth 100000 in
theorem c180_X10_isAt (l : Launch) (g : GD) (h0 : Nat) (h1 : Nat) (x0 : Int32) (x1 : Int32) (fn0 : Nat → Int32) (i_x0 : (0 ≤ (Int32.toInt x0) ∧ (Int32.toInt x0) ≤ 1500)) (i_x1 : (0 ≤ (Int32.toInt x1) ∧ (Int32.toInt x1) ≤ 1500)) (sz : Nat) : Met l yX10_isAt wsX10_isAt ({ frames := 4, cells := 0, slots := 0, locals := 85 }) (va_Pc [.ref h0, .int x0, .ref (g.2.2.1 5)] (PW g [(h0, .inr (4, [.ref h1, .int x1])), (h1, .inl (gB g, 1500, .inl fn0))] sz)) (va_Qi (fun (r : Int32) (_ : Unit) => 0 ≤ (Int32.toInt r) ∧ (Int32.toInt r) ≤ 1 ∧ ISB (Int32.toInt r) (WAT (GB fn0 (Int32.toInt x1)) (Int32.toInt x0) wArray)) (BW g (va_A [(h0, .inr (4, [.ref h1, .int x1])), (h1, .inl (gB g, 1500, .inl fn0))] sz) (fun _ : Unit => [(h0, .inr (4, [.ref h1, .int x1])), (h1, .inl (gB g, 1500, .inl fn0))])) (va_A [(h0, .inr (4, [.ref h1, .int x1])), (h1, .inl (gB g, 1500, .inl fn0))] sz)) 0 0 (va_A [(h0, .inr (4, [.ref h1, .int x1])), (h1, .inl (gB g, 1500, .inl fn0))] sz) := by
  refine met_z RX10 (by decide) rfl rfl (Nat.le_of_ble_eq_true rfl) [(0, .ref h0), (1, .int x0), (2, .ref (g.2.2.1 5))] rfl ?_
  intro p e s m args below meth c A Q C hnm Rt
  refine r_iconst 0 0 C dX10_isAt_0 (by decide) ?_
  refine r_istore_n 1 C dX10_isAt_1 [(3, .int 0), (0, .ref h0), (1, .int x0), (2, .ref (g.2.2.1 5))] (by decide) rfl ?_
  have lp3 : ∀ (n2 : Nat) (z1 : Int32), (0 ≤ (Int32.toInt z1) ∧ (Int32.toInt z1) ≤ 5) → (WPF (GB fn0 (Int32.toInt x1)) (Int32.toInt x0) wArray (Int32.toInt z1)) → Int.toNat (5 - (Int32.toInt z1)) < n2 → WW p l e ({ frames := 4, cells := 0, slots := 0, locals := 85 } : Room) s m args below meth c A Q g 4 0 0 [(h0, .inr (4, [.ref h1, .int x1])), (h1, .inl (gB g, 1500, .inl fn0))] 2 [(3, .int z1), (0, .ref h0), (1, .int x0), (2, .ref (g.2.2.1 5))] [] := by
    intro n2
    induction n2 with
    | zero => intro z1 i6 j7 hm5; exact absurd hm5 (Nat.not_lt_zero _)
    | succ n2 ih4 =>
      intro z1 i6 j7 hm5
      obtain ⟨i6a, i6b⟩ := i6
      refine r_iload_n 2 0 C dX10_isAt_2 rfl ?_
      refine r_aload_n 3 3 C dX10_isAt_3 rfl ?_
      refine r_scallVi 4 C dX10_isAt_4 [.int z1] 5 (by decide) [] [(h0, .inr (4, [.ref h1, .int x1])), (h1, .inl (gB g, 1500, .inl fn0))] (fun sz => c176_J0_length_8abf5 l g   sz) gX10_isAt_J0_length_8abf5 rfl ⟨rfl, rfl⟩ 0 (by decide) ⟨Nat.le_of_ble_eq_true rfl, Nat.le_of_ble_eq_true rfl⟩ [] [0, 1] rfl rfl (by decide) (by decide) (by decide) rfl rfl (Nat.le_of_ble_eq_true rfl) ⟨Nat.le_of_ble_eq_true rfl, Nat.le_of_ble_eq_true rfl⟩ (fun r8 _ w9 => ?_)
      refine r_ws [(h0, .inr (4, [.ref h1, .int x1])), (h1, .inl (gB g, 1500, .inl fn0))] rfl ?_
      have p10 : 5 = r8 := (w9).symm
      subst p10
      refine r_icmp_ge 7 34 C dX10_isAt_7 (by decide) (fun c11 => ?_) (fun c11 => ?_)
      · skip
        have k12 : 5 ≤ (Int32.toInt z1) := (fa_le 5 z1).mp c11
        refine r_iconst 34 1 C dX10_isAt_34 (by decide) ?_
        exact r_zret 35 Rt dX10_isAt_35 (by decide) () (show 0 ≤ (Int32.toInt 1) ∧ (Int32.toInt 1) ≤ 1 ∧ ISB 1 (WAT (GB fn0 (Int32.toInt x1)) (Int32.toInt x0) wArray) from ⟨(by ((repeat' apply And.intro) <;> first | trivial | rfl | assumption | omega | decide | exact Or.inl rfl | exact Or.inr (Or.inl rfl) | exact Or.inr (Or.inr rfl))), (by ((repeat' apply And.intro) <;> first | trivial | rfl | assumption | omega | decide | exact Or.inl rfl | exact Or.inr (Or.inl rfl) | exact Or.inr (Or.inr rfl))), (by first | exact wat_yes (show WPF (GB fn0 (Int32.toInt x1)) (Int32.toInt x0) wArray (Int32.toInt z1) by assumption) (show (5 : Int) ≤ _ by omega))⟩) [0, 1] (by decide) rfl (Nat.le_of_ble_eq_true rfl) (Nat.le_of_ble_eq_true rfl)
      · skip
        have k13 : ¬ (5 ≤ (Int32.toInt z1)) := fun h_9 => c11 ((fa_le 5 z1).mpr h_9)
        refine r_aload_n 10 1 C dX10_isAt_10 rfl ?_
        refine r_iload_n 11 2 C dX10_isAt_11 rfl ?_
        refine r_iload_n 12 0 C dX10_isAt_12 rfl ?_
        obtain ⟨z14, ez14⟩ : ∃ z_9, x0 + z1 = z_9 := ⟨_, rfl⟩
        have tz14 : (Int32.toInt z14) = (Int32.toInt x0) + (Int32.toInt z1) := by rw [← ez14]; exact fb_addIv (a := 0) (b := 1500) (c := 0) (d := 5) i_x0 ⟨i6a, i6b⟩ (by decide) (by decide)
        refine r_iadd 13 z14 C dX10_isAt_13 ez14 ?_
        obtain ⟨z15, ez15⟩ : ∃ z_9, Int32.toInt64 z14 = z_9 := ⟨_, rfl⟩
        have tz15 : (Int64.toInt z15) = (Int32.toInt z14) := by rw [← ez15]; exact Int32.toInt_toInt64 _
        refine r_i2l 14 z15 C dX10_isAt_14 ez15 ?_
        refine r_callVi 15 C dX10_isAt_15 [] [(h0, .inr (4, [.ref h1, .int x1])), (h1, .inl (gB g, 1500, .inl fn0))] [] (fun sz => c14_X5_get l g h0 h1 z15 x1 fn0 i_x1 sz) gX10_isAt_X5_get rfl ⟨rfl, rfl⟩ 1 (by decide) ⟨Nat.le_of_ble_eq_true rfl, Nat.le_of_ble_eq_true rfl⟩ 0 rfl rfl [0, 1] [] rfl rfl (by decide) (by decide) (by decide) rfl rfl (Nat.le_of_ble_eq_true rfl) ⟨Nat.le_of_ble_eq_true rfl, Nat.le_of_ble_eq_true rfl⟩ (fun r16 _ w17 => ?_)
        refine r_ws [(h0, .inr (4, [.ref h1, .int x1])), (h1, .inl (gB g, 1500, .inl fn0))] rfl ?_
        have p18 : -1 ≤ (Int32.toInt r16) := w17.1
        have p19 : (Int32.toInt r16) ≤ 255 := w17.2.1
        have p20 : HID ((0 ≤ (Int64.toInt z15) ∧ (Int64.toInt z15) < (Int32.toInt x1) ∧ r16 = (fn0 (Int.toNat (Int64.toInt z15)) &&& 255)) ∨ (((Int64.toInt z15) < 0 ∨ (Int32.toInt x1) ≤ (Int64.toInt z15)) ∧ r16 = -1)) := w17.2.2.1
        have p21 : (Int32.toInt r16) = GB fn0 (Int32.toInt x1) (Int64.toInt z15) := w17.2.2.2
        refine r_aload_n 18 3 C dX10_isAt_18 rfl ?_
        refine r_iload_n 19 0 C dX10_isAt_19 rfl ?_
        refine r_scallVi 20 C dX10_isAt_20 [.int r16] 5 (by decide) [] [(h0, .inr (4, [.ref h1, .int x1])), (h1, .inl (gB g, 1500, .inl fn0))] (fun sz => c179_J0_charAt_5068e l g z1 ⟨by omega, by omega⟩ sz) gX10_isAt_J0_charAt_5068e rfl ⟨rfl, rfl⟩ 1 (by decide) ⟨Nat.le_of_ble_eq_true rfl, Nat.le_of_ble_eq_true rfl⟩ [] [0, 1] rfl rfl (by decide) (by decide) (by decide) rfl rfl (Nat.le_of_ble_eq_true rfl) ⟨Nat.le_of_ble_eq_true rfl, Nat.le_of_ble_eq_true rfl⟩ (fun r22 _ w23 => ?_)
        refine r_ws [(h0, .inr (4, [.ref h1, .int x1])), (h1, .inl (gB g, 1500, .inl fn0))] rfl ?_
        have p24 : 0 ≤ (Int32.toInt r22) := w23.1
        have p25 : (Int32.toInt r22) ≤ 65535 := w23.2.1
        have p26 : CHA wArray (Int32.toInt z1) (Int32.toInt r22) := w23.2.2
        refine r_icmp_eq 23 28 C dX10_isAt_23 (by decide) (fun c27 => ?_) (fun c27 => ?_)
        · skip
          have k28 : (Int32.toInt r16) = (Int32.toInt r22) := (fa_eq r16 r22).mp c27
          obtain ⟨z29, ez29⟩ : ∃ z_9, z1 + Int32.ofInt 1 = z_9 := ⟨_, rfl⟩
          have tz29 : (Int32.toInt z29) = (Int32.toInt z1) + 1 := by rw [← ez29]; exact fb_addIv (a := 0) (b := 5) (c := 1) (d := 1) ⟨i6a, i6b⟩ ⟨by decide, by decide⟩ (by decide) (by decide)
          refine r_iinc 28 0 z29 C dX10_isAt_28 rfl ez29 [(3, .int z29), (0, .ref h0), (1, .int x0), (2, .ref (g.2.2.1 5))] (by decide) rfl ?_
          refine r_goto 31 2 C dX10_isAt_31 (by decide) ?_
          exact ih4 z29 ⟨by omega, by omega⟩ (wpf_step (show WPF (GB fn0 (Int32.toInt x1)) (Int32.toInt x0) wArray (Int32.toInt z1) by assumption) (by omega) (by omega) p21 (by omega) p26 (by omega)) (by omega)
        · skip
          have k30 : ¬ ((Int32.toInt r16) = (Int32.toInt r22)) := fun h_9 => c27 ((fa_eq r16 r22).mpr h_9)
          refine r_iconst 26 0 C dX10_isAt_26 (by decide) ?_
          exact r_zret 27 Rt dX10_isAt_27 (by decide) () (show 0 ≤ (Int32.toInt 0) ∧ (Int32.toInt 0) ≤ 1 ∧ ISB 0 (WAT (GB fn0 (Int32.toInt x1)) (Int32.toInt x0) wArray) from ⟨(by ((repeat' apply And.intro) <;> first | trivial | rfl | assumption | omega | decide | exact Or.inl rfl | exact Or.inr (Or.inl rfl) | exact Or.inr (Or.inr rfl))), (by ((repeat' apply And.intro) <;> first | trivial | rfl | assumption | omega | decide | exact Or.inl rfl | exact Or.inr (Or.inl rfl) | exact Or.inr (Or.inr rfl))), (by first | exact wat_yes (show WPF (GB fn0 (Int32.toInt x1)) (Int32.toInt x0) wArray (Int32.toInt z1) by assumption) (show (5 : Int) ≤ _ by omega) | exact wat_no (by omega) (show _ < (5 : Int) by omega) p21 (by omega) p26 (by omega))⟩) [0, 1] (by decide) rfl (Nat.le_of_ble_eq_true rfl) (Nat.le_of_ble_eq_true rfl)
  exact lp3 _ 0 (by decide) wpf_0 (Nat.lt_succ_self _)
set_option maxHeartbeats 4000000 in
set_option maxRecDepth 100000 in
theorem c181_X10_isWord (l : Launch) (g : GD) (h0 : Nat) (h1 : Nat) (h2 : Nat) (h3 : Nat) (x0 : Int32) (x1 : Int32) (x2 : Int32) (x3 : Int32) (x4 : Int32) (x5 : Int32) (x6 : Int32) (x7 : Int32) (x8 : Int32) (fn0 : Nat → Int32) (i_x0 : (0 ≤ (Int32.toInt x0) ∧ (Int32.toInt x0) ≤ 1500)) (i_x1 : (0 ≤ (Int32.toInt x1) ∧ (Int32.toInt x1) ≤ 1500)) (i_x2 : (0 ≤ (Int32.toInt x2) ∧ (Int32.toInt x2) ≤ 1500)) (i_x3 : (-1 ≤ (Int32.toInt x3) ∧ (Int32.toInt x3) ≤ 9999)) (i_x4 : (0 ≤ (Int32.toInt x4) ∧ (Int32.toInt x4) ≤ 1)) (i_x5 : (-1 ≤ (Int32.toInt x5) ∧ (Int32.toInt x5) ≤ 9999)) (i_x6 : (0 ≤ (Int32.toInt x6) ∧ (Int32.toInt x6) ≤ 1500)) (i_x7 : (0 ≤ (Int32.toInt x7) ∧ (Int32.toInt x7) ≤ 1500)) (i_x8 : (0 ≤ (Int32.toInt x8) ∧ (Int32.toInt x8) ≤ 1500)) (sz : Nat) : Met l yX10_isWord wsX10_isWord ({ frames := 5, cells := 0, slots := 0, locals := 108 }) (va_Pc [.ref h0, .ref (g.2.2.1 5)] (PW g [(h0, .inr (9, [.ref h3, .ref h1, .int x0, .int x1, .int x2, .int x3, .int x4, .int x5, .int x6, .int x7])), (h1, .inr (4, [.ref h2, .int x8])), (h2, .inl (gB g, 1500, .inl fn0))] sz)) (va_Qi (fun (r : Int32) (_ : Unit) => 0 ≤ (Int32.toInt r) ∧ (Int32.toInt r) ≤ 1 ∧ ISB (Int32.toInt r) (IW (GB fn0 (Int32.toInt x8)) (Int32.toInt x1) (Int32.toInt x2) wArray)) (BW g (va_A [(h0, .inr (9, [.ref h3, .ref h1, .int x0, .int x1, .int x2, .int x3, .int x4, .int x5, .int x6, .int x7])), (h1, .inr (4, [.ref h2, .int x8])), (h2, .inl (gB g, 1500, .inl fn0))] sz) (fun _ : Unit => [(h0, .inr (9, [.ref h3, .ref h1, .int x0, .int x1, .int x2, .int x3, .int x4, .int x5, .int x6, .int x7])), (h1, .inr (4, [.ref h2, .int x8])), (h2, .inl (gB g, 1500, .inl fn0))])) (va_A [(h0, .inr (9, [.ref h3, .ref h1, .int x0, .int x1, .int x2, .int x3, .int x4, .int x5, .int x6, .int x7])), (h1, .inr (4, [.ref h2, .int x8])), (h2, .inl (gB g, 1500, .inl fn0))] sz)) 0 0 (va_A [(h0, .inr (9, [.ref h3, .ref h1, .int x0, .int x1, .int x2, .int x3, .int x4, .int x5, .int x6, .int x7])), (h1, .inr (4, [.ref h2, .int x8])), (h2, .inl (gB g, 1500, .inl fn0))] sz) := by
  refine met_z RX10 (by decide) rfl rfl (Nat.le_of_ble_eq_true rfl) [(0, .ref h0), (1, .ref (g.2.2.1 5))] rfl ?_
  intro p e s m args below meth c A Q C hnm Rt
  have hiX10 : ∀ w ∈ wsX100, w ∈ wsX10_isWord := fun w h => List.mem_cons_of_mem _ (List.mem_append_left _ (List.mem_append_right _ (h)))
  refine r_aload_n 0 0 C dX10_isWord_0 rfl ?_
  refine r_get 1 C dX10_isWord_1 (k := 4) 0 rfl rfl hiX10 (by decide) rfl (mg 1 rfl) (Or.inl rfl) rfl ?_
  refine r_aload_n 4 0 C dX10_isWord_4 rfl ?_
  refine r_get 5 C dX10_isWord_5 (k := 3) 0 rfl rfl hiX10 (by decide) rfl (mg 2 rfl) (Or.inl rfl) rfl ?_
  obtain ⟨z1, ez1⟩ : ∃ z_9, x2 - x1 = z_9 := ⟨_, rfl⟩
  have tz1 : (Int32.toInt z1) = (Int32.toInt x2) - (Int32.toInt x1) := by rw [← ez1]; exact fb_subIv (a := 0) (b := 1500) (c := 0) (d := 1500) i_x2 i_x1 (by decide) (by decide)
  refine r_isub 8 z1 C dX10_isWord_8 ez1 ?_
  refine r_aload_n 9 1 C dX10_isWord_9 rfl ?_
  refine r_scallVi 10 C dX10_isWord_10 [.int z1] 5 (by decide) [] [(h0, .inr (9, [.ref h3, .ref h1, .int x0, .int x1, .int x2, .int x3, .int x4, .int x5, .int x6, .int x7])), (h1, .inr (4, [.ref h2, .int x8])), (h2, .inl (gB g, 1500, .inl fn0))] (fun sz => c176_J0_length_8abf5 l g   sz) gX10_isWord_J0_length_8abf5 rfl ⟨rfl, rfl⟩ 0 (by decide) ⟨Nat.le_of_ble_eq_true rfl, Nat.le_of_ble_eq_true rfl⟩ [] [0, 1, 2] rfl rfl (by decide) (by decide) (by decide) rfl rfl (Nat.le_of_ble_eq_true rfl) ⟨Nat.le_of_ble_eq_true rfl, Nat.le_of_ble_eq_true rfl⟩ (fun r2 _ w3 => ?_)
  refine r_ws [(h0, .inr (9, [.ref h3, .ref h1, .int x0, .int x1, .int x2, .int x3, .int x4, .int x5, .int x6, .int x7])), (h1, .inr (4, [.ref h2, .int x8])), (h2, .inl (gB g, 1500, .inl fn0))] rfl ?_
  have p4 : 5 = r2 := (w3).symm
  subst p4
  refine r_icmp_ne 13 35 C dX10_isWord_13 (by decide) (fun c5 => ?_) (fun c5 => ?_)
  · skip
    have k6 : ¬ ((Int32.toInt z1) = 5) := fun h_9 => c5 ((fa_eq z1 5).mpr h_9)
    refine r_iconst 35 0 C dX10_isWord_35 (by decide) ?_
    exact r_zret 36 Rt dX10_isWord_36 (by decide) () (show 0 ≤ (Int32.toInt 0) ∧ (Int32.toInt 0) ≤ 1 ∧ ISB 0 (IW (GB fn0 (Int32.toInt x8)) (Int32.toInt x1) (Int32.toInt x2) wArray) from ⟨(by ((repeat' apply And.intro) <;> first | trivial | rfl | assumption | omega | decide | exact Or.inl rfl | exact Or.inr (Or.inl rfl) | exact Or.inr (Or.inr rfl))), (by ((repeat' apply And.intro) <;> first | trivial | rfl | assumption | omega | decide | exact Or.inl rfl | exact Or.inr (Or.inl rfl) | exact Or.inr (Or.inr rfl))), (by exact Or.inr ⟨by first | rfl | omega, fun h_9 => absurd h_9.1 (show ¬ (_ = (5 : Int)) by omega)⟩)⟩) [0, 1, 2] (by decide) rfl (Nat.le_of_ble_eq_true rfl) (Nat.le_of_ble_eq_true rfl)
  · skip
    have k7 : (Int32.toInt z1) = 5 := (fa_eq z1 5).mp c5
    refine r_aload_n 16 0 C dX10_isWord_16 rfl ?_
    refine r_get 17 C dX10_isWord_17 (k := 1) 0 rfl rfl hiX10 (by decide) rfl (mg 3 rfl) (Or.inl rfl) rfl ?_
    refine r_aload_n 20 0 C dX10_isWord_20 rfl ?_
    refine r_get 21 C dX10_isWord_21 (k := 3) 0 rfl rfl hiX10 (by decide) rfl (mg 2 rfl) (Or.inl rfl) rfl ?_
    refine r_aload_n 24 1 C dX10_isWord_24 rfl ?_
    refine r_callSi 25 C dX10_isWord_25 [] [(h1, .inr (4, [.ref h2, .int x8])), (h2, .inl (gB g, 1500, .inl fn0))] [(h0, .inr (9, [.ref h3, .ref h1, .int x0, .int x1, .int x2, .int x3, .int x4, .int x5, .int x6, .int x7]))] (fun sz => c180_X10_isAt l g h1 h2 x1 x8 fn0 i_x1 i_x8 sz) gX10_isWord_X10_isAt rfl ⟨rfl, rfl⟩ 3 (by decide) ⟨Nat.le_of_ble_eq_true rfl, Nat.le_of_ble_eq_true rfl⟩ [1, 2] [0] rfl rfl (by decide) (by decide) (by decide) rfl rfl (Nat.le_of_ble_eq_true rfl) ⟨Nat.le_of_ble_eq_true rfl, Nat.le_of_ble_eq_true rfl⟩ (fun r8 _ w9 => ?_)
    refine r_ws [(h0, .inr (9, [.ref h3, .ref h1, .int x0, .int x1, .int x2, .int x3, .int x4, .int x5, .int x6, .int x7])), (h1, .inr (4, [.ref h2, .int x8])), (h2, .inl (gB g, 1500, .inl fn0))] rfl ?_
    have p10 : 0 ≤ (Int32.toInt r8) := w9.1
    have p11 : (Int32.toInt r8) ≤ 1 := w9.2.1
    have p12 : ISB (Int32.toInt r8) (WAT (GB fn0 (Int32.toInt x8)) (Int32.toInt x1) wArray) := w9.2.2
    refine r_if_eq 28 35 C dX10_isWord_28 (by decide) (fun c13 => ?_) (fun c13 => ?_)
    · skip
      have k14 : (Int32.toInt r8) = 0 := (fa_eq r8 0).mp c13
      refine r_iconst 35 0 C dX10_isWord_35 (by decide) ?_
      exact r_zret 36 Rt dX10_isWord_36 (by decide) () (show 0 ≤ (Int32.toInt 0) ∧ (Int32.toInt 0) ≤ 1 ∧ ISB 0 (IW (GB fn0 (Int32.toInt x8)) (Int32.toInt x1) (Int32.toInt x2) wArray) from ⟨(by ((repeat' apply And.intro) <;> first | trivial | rfl | assumption | omega | decide | exact Or.inl rfl | exact Or.inr (Or.inl rfl) | exact Or.inr (Or.inr rfl))), (by ((repeat' apply And.intro) <;> first | trivial | rfl | assumption | omega | decide | exact Or.inl rfl | exact Or.inr (Or.inl rfl) | exact Or.inr (Or.inr rfl))), (by exact isb_r (isb_and p12 (show _ = (5 : Int) by omega)) (by omega))⟩) [0, 1, 2] (by decide) rfl (Nat.le_of_ble_eq_true rfl) (Nat.le_of_ble_eq_true rfl)
    · skip
      have k15 : ¬ ((Int32.toInt r8) = 0) := fun h_9 => c13 ((fa_eq r8 0).mpr h_9)
      refine r_iconst 31 1 C dX10_isWord_31 (by decide) ?_
      refine r_goto 32 36 C dX10_isWord_32 (by decide) ?_
      exact r_zret 36 Rt dX10_isWord_36 (by decide) () (show 0 ≤ (Int32.toInt 1) ∧ (Int32.toInt 1) ≤ 1 ∧ ISB 1 (IW (GB fn0 (Int32.toInt x8)) (Int32.toInt x1) (Int32.toInt x2) wArray) from ⟨(by ((repeat' apply And.intro) <;> first | trivial | rfl | assumption | omega | decide | exact Or.inl rfl | exact Or.inr (Or.inl rfl) | exact Or.inr (Or.inr rfl))), (by ((repeat' apply And.intro) <;> first | trivial | rfl | assumption | omega | decide | exact Or.inl rfl | exact Or.inr (Or.inl rfl) | exact Or.inr (Or.inr rfl))), (by exact isb_r (isb_and p12 (show _ = (5 : Int) by omega)) (by omega))⟩) [0, 1, 2] (by decide) rfl (Nat.le_of_ble_eq_true rfl) (Nat.le_of_ble_eq_true rfl)
set_option maxHeartbeats 4000000 in
set_option maxRecDepth 100000 in
theorem c182_X10_takeThisWord (l : Launch) (g : GD) (h0 : Nat) (h1 : Nat) (h2 : Nat) (h3 : Nat) (x0 : Int32) (x1 : Int32) (x2 : Int32) (x3 : Int32) (x4 : Int32) (x5 : Int32) (x6 : Int32) (x7 : Int32) (x8 : Int32) (fn0 : Nat → Int32) (i_x0 : (0 ≤ (Int32.toInt x0) ∧ (Int32.toInt x0) ≤ 1500)) (i_x1 : (0 ≤ (Int32.toInt x1) ∧ (Int32.toInt x1) ≤ 1500)) (i_x2 : (0 ≤ (Int32.toInt x2) ∧ (Int32.toInt x2) ≤ 1500)) (i_x3 : (-1 ≤ (Int32.toInt x3) ∧ (Int32.toInt x3) ≤ 9999)) (i_x4 : (0 ≤ (Int32.toInt x4) ∧ (Int32.toInt x4) ≤ 1)) (i_x5 : (-1 ≤ (Int32.toInt x5) ∧ (Int32.toInt x5) ≤ 9999)) (i_x6 : (0 ≤ (Int32.toInt x6) ∧ (Int32.toInt x6) ≤ 1500)) (i_x7 : (0 ≤ (Int32.toInt x7) ∧ (Int32.toInt x7) ≤ 1500)) (i_x8 : (0 ≤ (Int32.toInt x8) ∧ (Int32.toInt x8) ≤ 1500)) (sz : Nat) : Met l yX10_takeThisWord wsX10_takeThisWord ({ frames := 6, cells := 0, slots := 0, locals := 129 }) (va_Pc [.ref h0, .ref (g.2.2.1 5)] (PW g [(h0, .inr (9, [.ref h3, .ref h1, .int x0, .int x1, .int x2, .int x3, .int x4, .int x5, .int x6, .int x7])), (h1, .inr (4, [.ref h2, .int x8])), (h2, .inl (gB g, 1500, .inl fn0))] sz)) (va_Qi (fun (r : Int32) (u : (Int32) × (Int32) × (Int32)) => 0 ≤ (Int32.toInt r) ∧ (Int32.toInt r) ≤ 2 ∧ 0 ≤ (Int32.toInt (u.1)) ∧ (Int32.toInt (u.1)) ≤ 1500 ∧ 0 ≤ (Int32.toInt (u.2.1)) ∧ (Int32.toInt (u.2.1)) ≤ 1500 ∧ 0 ≤ (Int32.toInt (u.2.2)) ∧ (Int32.toInt (u.2.2)) ≤ 1500 ∧ SEQ 0 (Int32.toInt r) (EXW (GB fn0 (Int32.toInt x8)) (Int32.toInt x8) (Int32.toInt x0) wArray) (fun v => v = (Int32.toInt (u.1))) ∧ (¬ ((Int32.toInt r) = 0) ∨ ((Int32.toInt x0) < (Int32.toInt (u.1)) ∧ (Int32.toInt (u.1)) ≤ (Int32.toInt x8))) ∧ (Int32.toInt x0) ≤ (Int32.toInt (u.1))) (BW g (va_A [(h0, .inr (9, [.ref h3, .ref h1, .int x0, .int x1, .int x2, .int x3, .int x4, .int x5, .int x6, .int x7])), (h1, .inr (4, [.ref h2, .int x8])), (h2, .inl (gB g, 1500, .inl fn0))] sz) (fun u : (Int32) × (Int32) × (Int32) => [(h0, .inr (9, [.ref h3, .ref h1, .int u.1, .int u.2.1, .int u.2.2, .int x3, .int x4, .int x5, .int x6, .int x7])), (h1, .inr (4, [.ref h2, .int x8])), (h2, .inl (gB g, 1500, .inl fn0))])) (va_A [(h0, .inr (9, [.ref h3, .ref h1, .int x0, .int x1, .int x2, .int x3, .int x4, .int x5, .int x6, .int x7])), (h1, .inr (4, [.ref h2, .int x8])), (h2, .inl (gB g, 1500, .inl fn0))] sz)) 0 0 (va_A [(h0, .inr (9, [.ref h3, .ref h1, .int x0, .int x1, .int x2, .int x3, .int x4, .int x5, .int x6, .int x7])), (h1, .inr (4, [.ref h2, .int x8])), (h2, .inl (gB g, 1500, .inl fn0))] sz) := by
  refine met_i RX10 (by decide) rfl rfl (Nat.le_of_ble_eq_true rfl) [(0, .ref h0), (1, .ref (g.2.2.1 5))] rfl ?_
  intro p e s m args below meth c A Q C hnm Rt
  refine r_aload_n 0 0 C dX10_takeThisWord_0 rfl ?_
  refine r_callVi 1 C dX10_takeThisWord_1 [] [(h0, .inr (9, [.ref h3, .ref h1, .int x0, .int x1, .int x2, .int x3, .int x4, .int x5, .int x6, .int x7])), (h1, .inr (4, [.ref h2, .int x8])), (h2, .inl (gB g, 1500, .inl fn0))] [] (fun sz => c115_X10_takeWord l g h0 h1 h2 h3 x0 x1 x2 x3 x4 x5 x6 x7 x8 fn0 i_x0 i_x1 i_x2 i_x3 i_x4 i_x5 i_x6 i_x7 i_x8 sz) gX10_takeThisWord_X10_takeWord rfl ⟨rfl, rfl⟩ 0 (by decide) ⟨Nat.le_of_ble_eq_true rfl, Nat.le_of_ble_eq_true rfl⟩ 0 rfl rfl [0, 1, 2] [] rfl rfl (by decide) (by decide) (by decide) rfl rfl (Nat.le_of_ble_eq_true rfl) ⟨Nat.le_of_ble_eq_true rfl, Nat.le_of_ble_eq_true rfl⟩ (fun r4 u6 w5 => ?_)
  obtain ⟨z1, z2, z3⟩ := u6
  refine r_ws [(h0, .inr (9, [.ref h3, .ref h1, .int z1, .int z2, .int z3, .int x3, .int x4, .int x5, .int x6, .int x7])), (h1, .inr (4, [.ref h2, .int x8])), (h2, .inl (gB g, 1500, .inl fn0))] rfl ?_
  have p7 : 0 ≤ (Int32.toInt r4) := w5.1
  have p8 : (Int32.toInt r4) ≤ 1 := w5.2.1
  have p9 : 0 ≤ (Int32.toInt z1) := w5.2.2.1
  have p10 : (Int32.toInt z1) ≤ 1500 := w5.2.2.2.1
  have p11 : 0 ≤ (Int32.toInt z2) := w5.2.2.2.2.1
  have p12 : (Int32.toInt z2) ≤ 1500 := w5.2.2.2.2.2.1
  have p13 : 0 ≤ (Int32.toInt z3) := w5.2.2.2.2.2.2.1
  have p14 : (Int32.toInt z3) ≤ 1500 := w5.2.2.2.2.2.2.2.1
  have p15 : BSQ (Int32.toInt r4) (WRD (GB fn0 (Int32.toInt x8)) (Int32.toInt x8) (Int32.toInt x0)) (fun w => w = ((Int32.toInt z2), (Int32.toInt z3))) := w5.2.2.2.2.2.2.2.2.1
  have p16 : ((Int32.toInt z1) = (Int32.toInt z3) ∧ (Int32.toInt x0) ≤ (Int32.toInt z2) ∧ (Int32.toInt z2) ≤ (Int32.toInt z3) ∧ (((Int32.toInt r4) = 1 ∧ (Int32.toInt z2) < (Int32.toInt z3) ∧ (Int32.toInt z3) ≤ (Int32.toInt x8)) ∨ (Int32.toInt r4) = 0)) := w5.2.2.2.2.2.2.2.2.2
  refine r_if_ne 4 9 C dX10_takeThisWord_4 (by decide) (fun c17 => ?_) (fun c17 => ?_)
  · skip
    have k18 : ¬ ((Int32.toInt r4) = 0) := fun h_9 => c17 ((fa_eq r4 0).mpr h_9)
    refine r_aload_n 9 0 C dX10_takeThisWord_9 rfl ?_
    refine r_aload_n 10 1 C dX10_takeThisWord_10 rfl ?_
    refine r_callVi 11 C dX10_takeThisWord_11 [] [(h0, .inr (9, [.ref h3, .ref h1, .int z1, .int z2, .int z3, .int x3, .int x4, .int x5, .int x6, .int x7])), (h1, .inr (4, [.ref h2, .int x8])), (h2, .inl (gB g, 1500, .inl fn0))] [] (fun sz => c181_X10_isWord l g h0 h1 h2 h3 z1 z2 z3 x3 x4 x5 x6 x7 x8 fn0 ⟨p9, p10⟩ ⟨p11, p12⟩ ⟨p13, p14⟩ i_x3 i_x4 i_x5 i_x6 i_x7 i_x8 sz) gX10_takeThisWord_X10_isWord rfl ⟨rfl, rfl⟩ 1 (by decide) ⟨Nat.le_of_ble_eq_true rfl, Nat.le_of_ble_eq_true rfl⟩ 0 rfl rfl [0, 1, 2] [] rfl rfl (by decide) (by decide) (by decide) rfl rfl (Nat.le_of_ble_eq_true rfl) ⟨Nat.le_of_ble_eq_true rfl, Nat.le_of_ble_eq_true rfl⟩ (fun r19 _ w20 => ?_)
    refine r_ws [(h0, .inr (9, [.ref h3, .ref h1, .int z1, .int z2, .int z3, .int x3, .int x4, .int x5, .int x6, .int x7])), (h1, .inr (4, [.ref h2, .int x8])), (h2, .inl (gB g, 1500, .inl fn0))] rfl ?_
    have p21 : 0 ≤ (Int32.toInt r19) := w20.1
    have p22 : (Int32.toInt r19) ≤ 1 := w20.2.1
    have p23 : ISB (Int32.toInt r19) (IW (GB fn0 (Int32.toInt x8)) (Int32.toInt z2) (Int32.toInt z3) wArray) := w20.2.2
    refine r_if_eq 14 21 C dX10_takeThisWord_14 (by decide) (fun c24 => ?_) (fun c24 => ?_)
    · skip
      have k25 : (Int32.toInt r19) = 0 := (fa_eq r19 0).mp c24
      refine r_iconst 21 2 C dX10_takeThisWord_21 (by decide) ?_
      exact r_iret 22 Rt dX10_takeThisWord_22 (z1, z2, z3) (show 0 ≤ (Int32.toInt 2) ∧ (Int32.toInt 2) ≤ 2 ∧ 0 ≤ (Int32.toInt z1) ∧ (Int32.toInt z1) ≤ 1500 ∧ 0 ≤ (Int32.toInt z2) ∧ (Int32.toInt z2) ≤ 1500 ∧ 0 ≤ (Int32.toInt z3) ∧ (Int32.toInt z3) ≤ 1500 ∧ SEQ 0 2 (EXW (GB fn0 (Int32.toInt x8)) (Int32.toInt x8) (Int32.toInt x0) wArray) (fun v => v = (Int32.toInt z1)) ∧ (¬ (2 = 0) ∨ ((Int32.toInt x0) < (Int32.toInt z1) ∧ (Int32.toInt z1) ≤ (Int32.toInt x8))) ∧ (Int32.toInt x0) ≤ (Int32.toInt z1) from ⟨(by ((repeat' apply And.intro) <;> first | trivial | rfl | assumption | omega | decide | exact Or.inl rfl | exact Or.inr (Or.inl rfl) | exact Or.inr (Or.inr rfl))), (by ((repeat' apply And.intro) <;> first | trivial | rfl | assumption | omega | decide | exact Or.inl rfl | exact Or.inr (Or.inl rfl) | exact Or.inr (Or.inr rfl))), (show _ ∧ _ from ⟨p9, p10⟩).1, (show _ ∧ _ from ⟨p9, p10⟩).2, (show _ ∧ _ from ⟨p11, p12⟩).1, (show _ ∧ _ from ⟨p11, p12⟩).2, (show _ ∧ _ from ⟨p13, p14⟩).1, (show _ ∧ _ from ⟨p13, p14⟩).2, (by exact exw_pf p15 (by omega) p23 (by omega) (by omega)), (by ((repeat' apply And.intro) <;> first | trivial | rfl | assumption | omega | decide | exact Or.inl rfl | exact Or.inr (Or.inl rfl) | exact Or.inr (Or.inr rfl))), (by ((repeat' apply And.intro) <;> first | trivial | rfl | assumption | omega | decide | exact Or.inl rfl | exact Or.inr (Or.inl rfl) | exact Or.inr (Or.inr rfl)))⟩) [0, 1, 2] (by decide) rfl (Nat.le_of_ble_eq_true rfl) (Nat.le_of_ble_eq_true rfl)
    · skip
      have k26 : ¬ ((Int32.toInt r19) = 0) := fun h_9 => c24 ((fa_eq r19 0).mpr h_9)
      refine r_iconst 17 0 C dX10_takeThisWord_17 (by decide) ?_
      refine r_goto 18 22 C dX10_takeThisWord_18 (by decide) ?_
      exact r_iret 22 Rt dX10_takeThisWord_22 (z1, z2, z3) (show 0 ≤ (Int32.toInt 0) ∧ (Int32.toInt 0) ≤ 2 ∧ 0 ≤ (Int32.toInt z1) ∧ (Int32.toInt z1) ≤ 1500 ∧ 0 ≤ (Int32.toInt z2) ∧ (Int32.toInt z2) ≤ 1500 ∧ 0 ≤ (Int32.toInt z3) ∧ (Int32.toInt z3) ≤ 1500 ∧ SEQ 0 0 (EXW (GB fn0 (Int32.toInt x8)) (Int32.toInt x8) (Int32.toInt x0) wArray) (fun v => v = (Int32.toInt z1)) ∧ (¬ (0 = 0) ∨ ((Int32.toInt x0) < (Int32.toInt z1) ∧ (Int32.toInt z1) ≤ (Int32.toInt x8))) ∧ (Int32.toInt x0) ≤ (Int32.toInt z1) from ⟨(by ((repeat' apply And.intro) <;> first | trivial | rfl | assumption | omega | decide | exact Or.inl rfl | exact Or.inr (Or.inl rfl) | exact Or.inr (Or.inr rfl))), (by ((repeat' apply And.intro) <;> first | trivial | rfl | assumption | omega | decide | exact Or.inl rfl | exact Or.inr (Or.inl rfl) | exact Or.inr (Or.inr rfl))), (show _ ∧ _ from ⟨p9, p10⟩).1, (show _ ∧ _ from ⟨p9, p10⟩).2, (show _ ∧ _ from ⟨p11, p12⟩).1, (show _ ∧ _ from ⟨p11, p12⟩).2, (show _ ∧ _ from ⟨p13, p14⟩).1, (show _ ∧ _ from ⟨p13, p14⟩).2, (by exact exw_pf p15 (by omega) p23 (by omega) (by omega)), (by ((repeat' apply And.intro) <;> first | trivial | rfl | assumption | omega | decide | exact Or.inl rfl | exact Or.inr (Or.inl rfl) | exact Or.inr (Or.inr rfl))), (by ((repeat' apply And.intro) <;> first | trivial | rfl | assumption | omega | decide | exact Or.inl rfl | exact Or.inr (Or.inl rfl) | exact Or.inr (Or.inr rfl)))⟩) [0, 1, 2] (by decide) rfl (Nat.le_of_ble_eq_true rfl) (Nat.le_of_ble_eq_true rfl)
  · skip
    have k27 : (Int32.toInt r4) = 0 := (fa_eq r4 0).mp c17
    refine r_iconst 7 1 C dX10_takeThisWord_7 (by decide) ?_
    exact r_iret 8 Rt dX10_takeThisWord_8 (z1, z2, z3) (show 0 ≤ (Int32.toInt 1) ∧ (Int32.toInt 1) ≤ 2 ∧ 0 ≤ (Int32.toInt z1) ∧ (Int32.toInt z1) ≤ 1500 ∧ 0 ≤ (Int32.toInt z2) ∧ (Int32.toInt z2) ≤ 1500 ∧ 0 ≤ (Int32.toInt z3) ∧ (Int32.toInt z3) ≤ 1500 ∧ SEQ 0 1 (EXW (GB fn0 (Int32.toInt x8)) (Int32.toInt x8) (Int32.toInt x0) wArray) (fun v => v = (Int32.toInt z1)) ∧ (¬ (1 = 0) ∨ ((Int32.toInt x0) < (Int32.toInt z1) ∧ (Int32.toInt z1) ≤ (Int32.toInt x8))) ∧ (Int32.toInt x0) ≤ (Int32.toInt z1) from ⟨(by ((repeat' apply And.intro) <;> first | trivial | rfl | assumption | omega | decide | exact Or.inl rfl | exact Or.inr (Or.inl rfl) | exact Or.inr (Or.inr rfl))), (by ((repeat' apply And.intro) <;> first | trivial | rfl | assumption | omega | decide | exact Or.inl rfl | exact Or.inr (Or.inl rfl) | exact Or.inr (Or.inr rfl))), (show _ ∧ _ from ⟨p9, p10⟩).1, (show _ ∧ _ from ⟨p9, p10⟩).2, (show _ ∧ _ from ⟨p11, p12⟩).1, (show _ ∧ _ from ⟨p11, p12⟩).2, (show _ ∧ _ from ⟨p13, p14⟩).1, (show _ ∧ _ from ⟨p13, p14⟩).2, (by exact bsq_no p15 (by omega) (by omega)), (by ((repeat' apply And.intro) <;> first | trivial | rfl | assumption | omega | decide | exact Or.inl rfl | exact Or.inr (Or.inl rfl) | exact Or.inr (Or.inr rfl))), (by ((repeat' apply And.intro) <;> first | trivial | rfl | assumption | omega | decide | exact Or.inl rfl | exact Or.inr (Or.inl rfl) | exact Or.inr (Or.inr rfl)))⟩) [0, 1, 2] (by decide) rfl (Nat.le_of_ble_eq_true rfl) (Nat.le_of_ble_eq_true rfl)
set_option maxHeartbeats 4000000 in
set_option maxRecDepth 100000 in
theorem c183_X10_takeLocals (l : Launch) (g : GD) (h0 : Nat) (h1 : Nat) (h2 : Nat) (h3 : Nat) (h4 : Nat) (h5 : Nat) (x0 : Int32) (x1 : Int32) (x2 : Int32) (x3 : Int32) (x4 : Int32) (x5 : Int32) (x6 : Int32) (x7 : Int32) (h6 : Nat) (h7 : Nat) (x8 : Int32) (x9 : Int32) (x10 : Int32) (x11 : Int32) (h8 : Nat) (x12 : Int32) (x13 : Int32) (x14 : Int32) (fn0 : Nat → Int32) (fn1 : Nat → Int32) (i_x0 : (0 ≤ (Int32.toInt x0) ∧ (Int32.toInt x0) ≤ 1500)) (i_x1 : (0 ≤ (Int32.toInt x1) ∧ (Int32.toInt x1) ≤ 1500)) (i_x2 : (0 ≤ (Int32.toInt x2) ∧ (Int32.toInt x2) ≤ 1500)) (i_x3 : (-1 ≤ (Int32.toInt x3) ∧ (Int32.toInt x3) ≤ 9999)) (i_x4 : (0 ≤ (Int32.toInt x4) ∧ (Int32.toInt x4) ≤ 1)) (i_x5 : (-1 ≤ (Int32.toInt x5) ∧ (Int32.toInt x5) ≤ 9999)) (i_x6 : (0 ≤ (Int32.toInt x6) ∧ (Int32.toInt x6) ≤ 1500)) (i_x7 : (0 ≤ (Int32.toInt x7) ∧ (Int32.toInt x7) ≤ 1500)) (i_x11 : (0 ≤ (Int32.toInt x11) ∧ (Int32.toInt x11) ≤ 1500)) (sz : Nat) : Met l yX10_takeLocals wsX10_takeLocals ({ frames := 7, cells := 0, slots := 0, locals := 150 }) (va_Pc [.ref h0] (PW g [(h0, .inr (9, [.ref h1, .ref h2, .int x0, .int x1, .int x2, .int x3, .int x4, .int x5, .int x6, .int x7])), (h1, .inr (3, [.ref h2, .ref h6, .ref h3, .ref h7, .int x8, .int x9, .int x10])), (h2, .inr (4, [.ref h4, .int x11])), (h3, .inr (7, [.ref h2, .ref h5, .ref h8, .int x12, .int x13, .int x14])), (h4, .inl (gB g, 1500, .inl fn0)), (h5, .inl (gI g, 200, .inl fn1))] sz)) (va_Qi (fun (r : Int32) (u : (Int32) × (Int32) × (Int32) × (Int32) × (Int32) × (Int32) × (Int32) × (Nat → Int32)) => 0 ≤ (Int32.toInt r) ∧ (Int32.toInt r) ≤ 2 ∧ 0 ≤ (Int32.toInt (u.1)) ∧ (Int32.toInt (u.1)) ≤ 1500 ∧ 0 ≤ (Int32.toInt (u.2.1)) ∧ (Int32.toInt (u.2.1)) ≤ 1500 ∧ 0 ≤ (Int32.toInt (u.2.2.1)) ∧ (Int32.toInt (u.2.2.1)) ≤ 1500 ∧ 0 ≤ (Int32.toInt (u.2.2.2.1)) ∧ (Int32.toInt (u.2.2.2.1)) ≤ 1 ∧ -1 ≤ (Int32.toInt (u.2.2.2.2.1)) ∧ (Int32.toInt (u.2.2.2.2.1)) ≤ 9999 ∧ SEQ 0 (Int32.toInt r) (SUBR (GB fn0 (Int32.toInt x11)) (Int32.toInt x11) (Int32.toInt x0)) (fun v => v = ((Int32.toInt (u.1)), (Int32.toInt (u.2.2.2.2.2.1)))) ∧ (¬ ((Int32.toInt r) = 0) ∨ ((Int32.toInt x0) < (Int32.toInt (u.1)) ∧ (Int32.toInt (u.1)) ≤ (Int32.toInt x11) ∧ (Int32.toInt (u.2.2.2.1)) = 1)) ∧ (Int32.toInt x0) ≤ (Int32.toInt (u.1)) ∧ CND ((Int32.toInt r) = 0) (FILLED (u.2.2.2.2.2.2.2) (-1) (Int.toNat (Int32.toInt (u.2.2.2.2.2.1)))) ∧ (¬ ((Int32.toInt r) = 0) ∨ (0 ≤ (Int32.toInt (u.2.2.2.2.2.1)) ∧ (Int32.toInt (u.2.2.2.2.2.1)) ≤ 200)) ∧ ((Int32.toInt (u.2.2.2.2.2.2.1)) = 0 ∨ (Int32.toInt (u.2.2.2.2.2.2.1)) = (Int32.toInt x14))) (BW g (va_A [(h0, .inr (9, [.ref h1, .ref h2, .int x0, .int x1, .int x2, .int x3, .int x4, .int x5, .int x6, .int x7])), (h1, .inr (3, [.ref h2, .ref h6, .ref h3, .ref h7, .int x8, .int x9, .int x10])), (h2, .inr (4, [.ref h4, .int x11])), (h3, .inr (7, [.ref h2, .ref h5, .ref h8, .int x12, .int x13, .int x14])), (h4, .inl (gB g, 1500, .inl fn0)), (h5, .inl (gI g, 200, .inl fn1))] sz) (fun u : (Int32) × (Int32) × (Int32) × (Int32) × (Int32) × (Int32) × (Int32) × (Nat → Int32) => [(h0, .inr (9, [.ref h1, .ref h2, .int u.1, .int u.2.1, .int u.2.2.1, .int x3, .int u.2.2.2.1, .int u.2.2.2.2.1, .int x6, .int x7])), (h1, .inr (3, [.ref h2, .ref h6, .ref h3, .ref h7, .int x8, .int x9, .int x10])), (h2, .inr (4, [.ref h4, .int x11])), (h3, .inr (7, [.ref h2, .ref h5, .ref h8, .int u.2.2.2.2.2.1, .int x13, .int u.2.2.2.2.2.2.1])), (h4, .inl (gB g, 1500, .inl fn0)), (h5, .inl (gI g, 200, .inl u.2.2.2.2.2.2.2))])) (va_A [(h0, .inr (9, [.ref h1, .ref h2, .int x0, .int x1, .int x2, .int x3, .int x4, .int x5, .int x6, .int x7])), (h1, .inr (3, [.ref h2, .ref h6, .ref h3, .ref h7, .int x8, .int x9, .int x10])), (h2, .inr (4, [.ref h4, .int x11])), (h3, .inr (7, [.ref h2, .ref h5, .ref h8, .int x12, .int x13, .int x14])), (h4, .inl (gB g, 1500, .inl fn0)), (h5, .inl (gI g, 200, .inl fn1))] sz)) 0 0 (va_A [(h0, .inr (9, [.ref h1, .ref h2, .int x0, .int x1, .int x2, .int x3, .int x4, .int x5, .int x6, .int x7])), (h1, .inr (3, [.ref h2, .ref h6, .ref h3, .ref h7, .int x8, .int x9, .int x10])), (h2, .inr (4, [.ref h4, .int x11])), (h3, .inr (7, [.ref h2, .ref h5, .ref h8, .int x12, .int x13, .int x14])), (h4, .inl (gB g, 1500, .inl fn0)), (h5, .inl (gI g, 200, .inl fn1))] sz) := by
  refine met_i RX10 (by decide) rfl rfl (Nat.le_of_ble_eq_true rfl) [(0, .ref h0)] rfl ?_
  intro p e s m args below meth c A Q C hnm Rt
  have gx12 := fb_rng x12
  have gx14 := fb_rng x14
  have hiX10 : ∀ w ∈ wsX100, w ∈ wsX10_takeLocals := fun w h => List.mem_cons_of_mem _ (List.mem_append_left _ (List.mem_append_left _ (List.mem_append_left _ (List.mem_append_right _ (h)))))
  have hiX3 : ∀ w ∈ wsX30, w ∈ wsX10_takeLocals := fun w h => List.mem_cons_of_mem _ (List.mem_append_left _ (List.mem_append_left _ (List.mem_append_right _ (h))))
  refine r_aload_n 0 0 C dX10_takeLocals_0 rfl ?_
  refine r_callVi 1 C dX10_takeLocals_1 [] [(h0, .inr (9, [.ref h1, .ref h2, .int x0, .int x1, .int x2, .int x3, .int x4, .int x5, .int x6, .int x7])), (h2, .inr (4, [.ref h4, .int x11])), (h4, .inl (gB g, 1500, .inl fn0))] [(h1, .inr (3, [.ref h2, .ref h6, .ref h3, .ref h7, .int x8, .int x9, .int x10])), (h3, .inr (7, [.ref h2, .ref h5, .ref h8, .int x12, .int x13, .int x14])), (h5, .inl (gI g, 200, .inl fn1))] (fun sz => c154_X10_takeCount l g h0 h2 h4 h1 x0 x1 x2 x3 x4 x5 x6 x7 x11 fn0 i_x0 i_x1 i_x2 i_x3 i_x4 i_x5 i_x6 i_x7 i_x11 sz) gX10_takeLocals_X10_takeCount rfl ⟨rfl, rfl⟩ 0 (by decide) ⟨Nat.le_of_ble_eq_true rfl, Nat.le_of_ble_eq_true rfl⟩ 0 rfl rfl [0, 2, 4] [1, 3, 5] rfl rfl (by decide) (by decide) (by decide) rfl rfl (Nat.le_of_ble_eq_true rfl) ⟨Nat.le_of_ble_eq_true rfl, Nat.le_of_ble_eq_true rfl⟩ (fun r5 u7 w6 => ?_)
  obtain ⟨z1, z2, z3, z4⟩ := u7
  refine r_ws [(h1, .inr (3, [.ref h2, .ref h6, .ref h3, .ref h7, .int x8, .int x9, .int x10])), (h3, .inr (7, [.ref h2, .ref h5, .ref h8, .int x12, .int x13, .int x14])), (h5, .inl (gI g, 200, .inl fn1)), (h0, .inr (9, [.ref h1, .ref h2, .int z1, .int z2, .int z3, .int x3, .int x4, .int z4, .int x6, .int x7])), (h2, .inr (4, [.ref h4, .int x11])), (h4, .inl (gB g, 1500, .inl fn0))] rfl ?_
  have p8 : 0 ≤ (Int32.toInt r5) := w6.1
  have p9 : (Int32.toInt r5) ≤ 2 := w6.2.1
  have p10 : 0 ≤ (Int32.toInt z1) := w6.2.2.1
  have p11 : (Int32.toInt z1) ≤ 1500 := w6.2.2.2.1
  have p12 : 0 ≤ (Int32.toInt z2) := w6.2.2.2.2.1
  have p13 : (Int32.toInt z2) ≤ 1500 := w6.2.2.2.2.2.1
  have p14 : 0 ≤ (Int32.toInt z3) := w6.2.2.2.2.2.2.1
  have p15 : (Int32.toInt z3) ≤ 1500 := w6.2.2.2.2.2.2.2.1
  have p16 : -1 ≤ (Int32.toInt z4) := w6.2.2.2.2.2.2.2.2.1
  have p17 : (Int32.toInt z4) ≤ 9999 := w6.2.2.2.2.2.2.2.2.2.1
  have p18 : SEQ 0 (Int32.toInt r5) (TLD (GB fn0 (Int32.toInt x11)) (Int32.toInt x11) (Int32.toInt x0)) (fun v => v = ((Int32.toInt z4), (Int32.toInt z1))) := w6.2.2.2.2.2.2.2.2.2.2.1
  have p19 : (¬ ((Int32.toInt r5) = 0) ∨ ((Int32.toInt x0) < (Int32.toInt z1) ∧ (Int32.toInt z1) ≤ (Int32.toInt x11) ∧ 0 ≤ (Int32.toInt z4))) := w6.2.2.2.2.2.2.2.2.2.2.2.1
  have p20 : (Int32.toInt x0) ≤ (Int32.toInt z1) := w6.2.2.2.2.2.2.2.2.2.2.2.2
  refine r_istore_n 4 C dX10_takeLocals_4 [(1, .int r5), (0, .ref h0)] (by decide) rfl ?_
  refine r_iload_n 5 0 C dX10_takeLocals_5 rfl ?_
  refine r_if_eq 6 11 C dX10_takeLocals_6 (by decide) (fun c21 => ?_) (fun c21 => ?_)
  · skip
    have k22 : (Int32.toInt r5) = 0 := (fa_eq r5 0).mp c21
    refine r_aload_n 11 1 C dX10_takeLocals_11 rfl ?_
    refine r_get 12 C dX10_takeLocals_12 (k := 7) 3 rfl rfl hiX10 (by decide) rfl (mg 1 rfl) (Or.inl rfl) rfl ?_
    refine r_sipush 15 200 C dX10_takeLocals_15 (by decide) ?_
    refine r_icmp_le 18 23 C dX10_takeLocals_18 (by decide) (fun c23 => ?_) (fun c23 => ?_)
    · skip
      have k24 : (Int32.toInt z4) ≤ 200 := (fa_le z4 200).mp c23
      refine r_aload_n 23 1 C dX10_takeLocals_23 rfl ?_
      refine r_get 24 C dX10_takeLocals_24 (k := 0) 3 rfl rfl hiX10 (by decide) rfl (mg 2 rfl) (Or.inl rfl) rfl ?_
      refine r_getN 27 C dX10_takeLocals_27 (k := 2) 0 rfl rfl hiX3 (by decide) rfl (mg 22 rfl) rfl rfl ?_
      refine r_aload_n 30 1 C dX10_takeLocals_30 rfl ?_
      refine r_get 31 C dX10_takeLocals_31 (k := 7) 3 rfl rfl hiX10 (by decide) rfl (mg 1 rfl) (Or.inl rfl) rfl ?_
      refine r_callVv 34 C dX10_takeLocals_34 [] [(h3, .inr (7, [.ref h2, .ref h5, .ref h8, .int x12, .int x13, .int x14])), (h5, .inl (gI g, 200, .inl fn1))] [(h1, .inr (3, [.ref h2, .ref h6, .ref h3, .ref h7, .int x8, .int x9, .int x10])), (h0, .inr (9, [.ref h1, .ref h2, .int z1, .int z2, .int z3, .int x3, .int x4, .int z4, .int x6, .int x7])), (h2, .inr (4, [.ref h4, .int x11])), (h4, .inl (gB g, 1500, .inl fn0))] (fun sz => c46_X8_lay l g h3 h5 z4 h2 h8 x12 x13 x14 fn1  sz) gX10_takeLocals_X8_lay rfl ⟨rfl, rfl⟩ 1 (by decide) ⟨Nat.le_of_ble_eq_true rfl, Nat.le_of_ble_eq_true rfl⟩ 1 rfl rfl [1, 2] [0, 3, 4, 5] rfl rfl (by decide) (by decide) (by decide) rfl rfl (Nat.le_of_ble_eq_true rfl) ⟨Nat.le_of_ble_eq_true rfl, Nat.le_of_ble_eq_true rfl⟩ (fun  u28 w27 => ?_)
      obtain ⟨z25, f26⟩ := u28
      refine r_ws [(h1, .inr (3, [.ref h2, .ref h6, .ref h3, .ref h7, .int x8, .int x9, .int x10])), (h0, .inr (9, [.ref h1, .ref h2, .int z1, .int z2, .int z3, .int x3, .int x4, .int z4, .int x6, .int x7])), (h2, .inr (4, [.ref h4, .int x11])), (h4, .inl (gB g, 1500, .inl fn0)), (h3, .inr (7, [.ref h2, .ref h5, .ref h8, .int z25, .int x13, .int 0])), (h5, .inl (gI g, 200, .inl f26))] rfl ?_
      have gz25 := fb_rng z25
      have p29 : (((Int32.toInt z4) ≤ 0 ∧ (Int32.toInt z25) = 0) ∨ (0 < (Int32.toInt z4) ∧ (Int32.toInt z4) ≤ 200 ∧ (Int32.toInt z25) = (Int32.toInt z4)) ∨ (200 < (Int32.toInt z4) ∧ (Int32.toInt z25) = 200)) := w27.1
      have p30 : FILLED f26 (-1) (Int.toNat (Int32.toInt z25)) := w27.2.1
      have p31 : 0 = 0 := w27.2.2
      refine r_aload_n 37 1 C dX10_takeLocals_37 rfl ?_
      refine r_iconst 38 1 C dX10_takeLocals_38 (by decide) ?_
      refine r_put 39 C dX10_takeLocals_39 (k := 6) 1 rfl rfl hiX10 tyX10 tyX10_ok nmX10 (by decide) rfl (mg 3 rfl) (Or.inl rfl) rfl rfl rfl rfl (Nat.le_of_ble_eq_true rfl) [(h1, .inr (3, [.ref h2, .ref h6, .ref h3, .ref h7, .int x8, .int x9, .int x10])), (h0, .inr (9, [.ref h1, .ref h2, .int z1, .int z2, .int z3, .int x3, .int 1, .int z4, .int x6, .int x7])), (h2, .inr (4, [.ref h4, .int x11])), (h4, .inl (gB g, 1500, .inl fn0)), (h3, .inr (7, [.ref h2, .ref h5, .ref h8, .int z25, .int x13, .int 0])), (h5, .inl (gI g, 200, .inl f26))] rfl ?_
      refine r_aload_n 42 1 C dX10_takeLocals_42 rfl ?_
      refine r_ldcS 43 5 C rfl (by decide) rfl dX10_takeLocals_43 ?_
      refine r_callVi 45 C dX10_takeLocals_45 [] [(h0, .inr (9, [.ref h1, .ref h2, .int z1, .int z2, .int z3, .int x3, .int 1, .int z4, .int x6, .int x7])), (h2, .inr (4, [.ref h4, .int x11])), (h4, .inl (gB g, 1500, .inl fn0))] [(h1, .inr (3, [.ref h2, .ref h6, .ref h3, .ref h7, .int x8, .int x9, .int x10])), (h3, .inr (7, [.ref h2, .ref h5, .ref h8, .int z25, .int x13, .int 0])), (h5, .inl (gI g, 200, .inl f26))] (fun sz => c182_X10_takeThisWord l g h0 h2 h4 h1 z1 z2 z3 x3 1 z4 x6 x7 x11 fn0 ⟨p10, p11⟩ ⟨p12, p13⟩ ⟨p14, p15⟩ i_x3 (by decide) ⟨p16, p17⟩ i_x6 i_x7 i_x11 sz) gX10_takeLocals_X10_takeThisWord rfl ⟨rfl, rfl⟩ 1 (by decide) ⟨Nat.le_of_ble_eq_true rfl, Nat.le_of_ble_eq_true rfl⟩ 1 rfl rfl [1, 2, 3] [0, 4, 5] rfl rfl (by decide) (by decide) (by decide) rfl rfl (Nat.le_of_ble_eq_true rfl) ⟨Nat.le_of_ble_eq_true rfl, Nat.le_of_ble_eq_true rfl⟩ (fun r35 u37 w36 => ?_)
      obtain ⟨z32, z33, z34⟩ := u37
      refine r_ws [(h1, .inr (3, [.ref h2, .ref h6, .ref h3, .ref h7, .int x8, .int x9, .int x10])), (h3, .inr (7, [.ref h2, .ref h5, .ref h8, .int z25, .int x13, .int 0])), (h5, .inl (gI g, 200, .inl f26)), (h0, .inr (9, [.ref h1, .ref h2, .int z32, .int z33, .int z34, .int x3, .int 1, .int z4, .int x6, .int x7])), (h2, .inr (4, [.ref h4, .int x11])), (h4, .inl (gB g, 1500, .inl fn0))] rfl ?_
      have p38 : 0 ≤ (Int32.toInt r35) := w36.1
      have p39 : (Int32.toInt r35) ≤ 2 := w36.2.1
      have p40 : 0 ≤ (Int32.toInt z32) := w36.2.2.1
      have p41 : (Int32.toInt z32) ≤ 1500 := w36.2.2.2.1
      have p42 : 0 ≤ (Int32.toInt z33) := w36.2.2.2.2.1
      have p43 : (Int32.toInt z33) ≤ 1500 := w36.2.2.2.2.2.1
      have p44 : 0 ≤ (Int32.toInt z34) := w36.2.2.2.2.2.2.1
      have p45 : (Int32.toInt z34) ≤ 1500 := w36.2.2.2.2.2.2.2.1
      have p46 : SEQ 0 (Int32.toInt r35) (EXW (GB fn0 (Int32.toInt x11)) (Int32.toInt x11) (Int32.toInt z1) wArray) (fun v => v = (Int32.toInt z32)) := w36.2.2.2.2.2.2.2.2.1
      have p47 : (¬ ((Int32.toInt r35) = 0) ∨ ((Int32.toInt z1) < (Int32.toInt z32) ∧ (Int32.toInt z32) ≤ (Int32.toInt x11))) := w36.2.2.2.2.2.2.2.2.2.1
      have p48 : (Int32.toInt z1) ≤ (Int32.toInt z32) := w36.2.2.2.2.2.2.2.2.2.2
      exact r_iret 48 Rt dX10_takeLocals_48 (z32, z33, z34, 1, z4, z25, 0, f26) (show 0 ≤ (Int32.toInt r35) ∧ (Int32.toInt r35) ≤ 2 ∧ 0 ≤ (Int32.toInt z32) ∧ (Int32.toInt z32) ≤ 1500 ∧ 0 ≤ (Int32.toInt z33) ∧ (Int32.toInt z33) ≤ 1500 ∧ 0 ≤ (Int32.toInt z34) ∧ (Int32.toInt z34) ≤ 1500 ∧ 0 ≤ (Int32.toInt 1) ∧ (Int32.toInt 1) ≤ 1 ∧ -1 ≤ (Int32.toInt z4) ∧ (Int32.toInt z4) ≤ 9999 ∧ SEQ 0 (Int32.toInt r35) (SUBR (GB fn0 (Int32.toInt x11)) (Int32.toInt x11) (Int32.toInt x0)) (fun v => v = ((Int32.toInt z32), (Int32.toInt z25))) ∧ (¬ ((Int32.toInt r35) = 0) ∨ ((Int32.toInt x0) < (Int32.toInt z32) ∧ (Int32.toInt z32) ≤ (Int32.toInt x11) ∧ 1 = 1)) ∧ (Int32.toInt x0) ≤ (Int32.toInt z32) ∧ CND ((Int32.toInt r35) = 0) (FILLED f26 (-1) (Int.toNat (Int32.toInt z25))) ∧ (¬ ((Int32.toInt r35) = 0) ∨ (0 ≤ (Int32.toInt z25) ∧ (Int32.toInt z25) ≤ 200)) ∧ (0 = 0 ∨ 0 = (Int32.toInt x14)) from ⟨(show _ ∧ _ from ⟨p38, p39⟩).1, (show _ ∧ _ from ⟨p38, p39⟩).2, (show _ ∧ _ from ⟨p40, p41⟩).1, (show _ ∧ _ from ⟨p40, p41⟩).2, (show _ ∧ _ from ⟨p42, p43⟩).1, (show _ ∧ _ from ⟨p42, p43⟩).2, (show _ ∧ _ from ⟨p44, p45⟩).1, (show _ ∧ _ from ⟨p44, p45⟩).2, (by ((repeat' apply And.intro) <;> first | trivial | rfl | assumption | omega | decide | exact Or.inl rfl | exact Or.inr (Or.inl rfl) | exact Or.inr (Or.inr rfl))), (by ((repeat' apply And.intro) <;> first | trivial | rfl | assumption | omega | decide | exact Or.inl rfl | exact Or.inr (Or.inl rfl) | exact Or.inr (Or.inr rfl))), (show _ ∧ _ from ⟨p16, p17⟩).1, (show _ ∧ _ from ⟨p16, p17⟩).2, (by exact seq_imp (subr_pf p18 (by omega) (by omega) p46) (fun v_9 _ h_9 => h_9.trans (congrArg (Prod.mk _) (by omega)))), (by ((repeat' apply And.intro) <;> first | trivial | rfl | assumption | omega | decide | exact Or.inl rfl | exact Or.inr (Or.inl rfl) | exact Or.inr (Or.inr rfl))), (by ((repeat' apply And.intro) <;> first | trivial | rfl | assumption | omega | decide | exact Or.inl rfl | exact Or.inr (Or.inl rfl) | exact Or.inr (Or.inr rfl))), (by exact fun _ => p30), (by ((repeat' apply And.intro) <;> first | trivial | rfl | assumption | omega | decide | exact Or.inl rfl | exact Or.inr (Or.inl rfl) | exact Or.inr (Or.inr rfl))), (by ((repeat' apply And.intro) <;> first | trivial | rfl | assumption | omega | decide | exact Or.inl rfl | exact Or.inr (Or.inl rfl) | exact Or.inr (Or.inr rfl)))⟩) [3, 0, 4, 1, 5, 2] (by decide) rfl (Nat.le_of_ble_eq_true rfl) (Nat.le_of_ble_eq_true rfl)
    · skip
      have k49 : ¬ ((Int32.toInt z4) ≤ 200) := fun h_9 => c23 ((fa_le z4 200).mpr h_9)
      refine r_iconst 21 2 C dX10_takeLocals_21 (by decide) ?_
      exact r_iret 22 Rt dX10_takeLocals_22 (z1, z2, z3, x4, z4, x12, x14, fn1) (show 0 ≤ (Int32.toInt 2) ∧ (Int32.toInt 2) ≤ 2 ∧ 0 ≤ (Int32.toInt z1) ∧ (Int32.toInt z1) ≤ 1500 ∧ 0 ≤ (Int32.toInt z2) ∧ (Int32.toInt z2) ≤ 1500 ∧ 0 ≤ (Int32.toInt z3) ∧ (Int32.toInt z3) ≤ 1500 ∧ 0 ≤ (Int32.toInt x4) ∧ (Int32.toInt x4) ≤ 1 ∧ -1 ≤ (Int32.toInt z4) ∧ (Int32.toInt z4) ≤ 9999 ∧ SEQ 0 2 (SUBR (GB fn0 (Int32.toInt x11)) (Int32.toInt x11) (Int32.toInt x0)) (fun v => v = ((Int32.toInt z1), (Int32.toInt x12))) ∧ (¬ (2 = 0) ∨ ((Int32.toInt x0) < (Int32.toInt z1) ∧ (Int32.toInt z1) ≤ (Int32.toInt x11) ∧ (Int32.toInt x4) = 1)) ∧ (Int32.toInt x0) ≤ (Int32.toInt z1) ∧ CND (2 = 0) (FILLED fn1 (-1) (Int.toNat (Int32.toInt x12))) ∧ (¬ (2 = 0) ∨ (0 ≤ (Int32.toInt x12) ∧ (Int32.toInt x12) ≤ 200)) ∧ ((Int32.toInt x14) = 0 ∨ (Int32.toInt x14) = (Int32.toInt x14)) from ⟨(by ((repeat' apply And.intro) <;> first | trivial | rfl | assumption | omega | decide | exact Or.inl rfl | exact Or.inr (Or.inl rfl) | exact Or.inr (Or.inr rfl))), (by ((repeat' apply And.intro) <;> first | trivial | rfl | assumption | omega | decide | exact Or.inl rfl | exact Or.inr (Or.inl rfl) | exact Or.inr (Or.inr rfl))), (show _ ∧ _ from ⟨p10, p11⟩).1, (show _ ∧ _ from ⟨p10, p11⟩).2, (show _ ∧ _ from ⟨p12, p13⟩).1, (show _ ∧ _ from ⟨p12, p13⟩).2, (show _ ∧ _ from ⟨p14, p15⟩).1, (show _ ∧ _ from ⟨p14, p15⟩).2, i_x4.1, i_x4.2, (show _ ∧ _ from ⟨p16, p17⟩).1, (show _ ∧ _ from ⟨p16, p17⟩).2, (by first | exact seq0_stop p18 (by omega) (by omega) | exact subr_big p18 (by omega) (by omega) (by omega)), (by ((repeat' apply And.intro) <;> first | trivial | rfl | assumption | omega | decide | exact Or.inl rfl | exact Or.inr (Or.inl rfl) | exact Or.inr (Or.inr rfl))), (by ((repeat' apply And.intro) <;> first | trivial | rfl | assumption | omega | decide | exact Or.inl rfl | exact Or.inr (Or.inl rfl) | exact Or.inr (Or.inr rfl))), (by exact fun h_9 => absurd h_9 (by omega)), (by ((repeat' apply And.intro) <;> first | trivial | rfl | assumption | omega | decide | exact Or.inl rfl | exact Or.inr (Or.inl rfl) | exact Or.inr (Or.inr rfl))), (by ((repeat' apply And.intro) <;> first | trivial | rfl | assumption | omega | decide | exact Or.inl rfl | exact Or.inr (Or.inl rfl) | exact Or.inr (Or.inr rfl)))⟩) [3, 0, 4, 1, 5, 2] (by decide) rfl (Nat.le_of_ble_eq_true rfl) (Nat.le_of_ble_eq_true rfl)
  · skip
    have k50 : ¬ ((Int32.toInt r5) = 0) := fun h_9 => c21 ((fa_eq r5 0).mpr h_9)
    refine r_iload_n 9 0 C dX10_takeLocals_9 rfl ?_
    exact r_iret 10 Rt dX10_takeLocals_10 (z1, z2, z3, x4, z4, x12, x14, fn1) (show 0 ≤ (Int32.toInt r5) ∧ (Int32.toInt r5) ≤ 2 ∧ 0 ≤ (Int32.toInt z1) ∧ (Int32.toInt z1) ≤ 1500 ∧ 0 ≤ (Int32.toInt z2) ∧ (Int32.toInt z2) ≤ 1500 ∧ 0 ≤ (Int32.toInt z3) ∧ (Int32.toInt z3) ≤ 1500 ∧ 0 ≤ (Int32.toInt x4) ∧ (Int32.toInt x4) ≤ 1 ∧ -1 ≤ (Int32.toInt z4) ∧ (Int32.toInt z4) ≤ 9999 ∧ SEQ 0 (Int32.toInt r5) (SUBR (GB fn0 (Int32.toInt x11)) (Int32.toInt x11) (Int32.toInt x0)) (fun v => v = ((Int32.toInt z1), (Int32.toInt x12))) ∧ (¬ ((Int32.toInt r5) = 0) ∨ ((Int32.toInt x0) < (Int32.toInt z1) ∧ (Int32.toInt z1) ≤ (Int32.toInt x11) ∧ (Int32.toInt x4) = 1)) ∧ (Int32.toInt x0) ≤ (Int32.toInt z1) ∧ CND ((Int32.toInt r5) = 0) (FILLED fn1 (-1) (Int.toNat (Int32.toInt x12))) ∧ (¬ ((Int32.toInt r5) = 0) ∨ (0 ≤ (Int32.toInt x12) ∧ (Int32.toInt x12) ≤ 200)) ∧ ((Int32.toInt x14) = 0 ∨ (Int32.toInt x14) = (Int32.toInt x14)) from ⟨(show _ ∧ _ from ⟨p8, p9⟩).1, (show _ ∧ _ from ⟨p8, p9⟩).2, (show _ ∧ _ from ⟨p10, p11⟩).1, (show _ ∧ _ from ⟨p10, p11⟩).2, (show _ ∧ _ from ⟨p12, p13⟩).1, (show _ ∧ _ from ⟨p12, p13⟩).2, (show _ ∧ _ from ⟨p14, p15⟩).1, (show _ ∧ _ from ⟨p14, p15⟩).2, i_x4.1, i_x4.2, (show _ ∧ _ from ⟨p16, p17⟩).1, (show _ ∧ _ from ⟨p16, p17⟩).2, (by first | exact seq0_stop p18 (by omega) (by omega) | exact subr_big p18 (by omega) (by omega) (by omega)), (by ((repeat' apply And.intro) <;> first | trivial | rfl | assumption | omega | decide | exact Or.inl rfl | exact Or.inr (Or.inl rfl) | exact Or.inr (Or.inr rfl))), (by ((repeat' apply And.intro) <;> first | trivial | rfl | assumption | omega | decide | exact Or.inl rfl | exact Or.inr (Or.inl rfl) | exact Or.inr (Or.inr rfl))), (by exact fun h_9 => absurd h_9 (by omega)), (by ((repeat' apply And.intro) <;> first | trivial | rfl | assumption | omega | decide | exact Or.inl rfl | exact Or.inr (Or.inl rfl) | exact Or.inr (Or.inr rfl))), (by ((repeat' apply And.intro) <;> first | trivial | rfl | assumption | omega | decide | exact Or.inl rfl | exact Or.inr (Or.inl rfl) | exact Or.inr (Or.inr rfl)))⟩) [3, 0, 4, 1, 5, 2] (by decide) rfl (Nat.le_of_ble_eq_true rfl) (Nat.le_of_ble_eq_true rfl)
set_option maxHeartbeats 4000000 in
set_option maxRecDepth 100000 in
theorem c184_X10_takeSettings (l : Launch) (g : GD) (h0 : Nat) (h1 : Nat) (h2 : Nat) (h3 : Nat) (h4 : Nat) (h5 : Nat) (h6 : Nat) (x0 : Int32) (x1 : Int32) (x2 : Int32) (x3 : Int32) (x4 : Int32) (x5 : Int32) (x6 : Int32) (x7 : Int32) (h7 : Nat) (h8 : Nat) (x8 : Int32) (x9 : Int32) (x10 : Int32) (x11 : Int32) (x12 : Int32) (x13 : Int32) (x14 : Int32) (fn0 : Nat → Int32) (fn1 : Nat → Int32) (fn2 : Nat → Int32) (i_x0 : (0 ≤ (Int32.toInt x0) ∧ (Int32.toInt x0) ≤ 1500)) (i_x1 : (0 ≤ (Int32.toInt x1) ∧ (Int32.toInt x1) ≤ 1500)) (i_x2 : (0 ≤ (Int32.toInt x2) ∧ (Int32.toInt x2) ≤ 1500)) (i_x3 : (-1 ≤ (Int32.toInt x3) ∧ (Int32.toInt x3) ≤ 9999)) (i_x4 : (0 ≤ (Int32.toInt x4) ∧ (Int32.toInt x4) ≤ 1)) (i_x5 : (-1 ≤ (Int32.toInt x5) ∧ (Int32.toInt x5) ≤ 9999)) (i_x6 : (0 ≤ (Int32.toInt x6) ∧ (Int32.toInt x6) ≤ 1500)) (i_x7 : (0 ≤ (Int32.toInt x7) ∧ (Int32.toInt x7) ≤ 1500)) (i_x11 : (0 ≤ (Int32.toInt x11) ∧ (Int32.toInt x11) ≤ 1500)) (pre0 : (Int32.toInt x4) = 0) (pre1 : (Int32.toInt x12) = 0) (pre2 : (Int32.toInt x3) = 4) (sz : Nat) : Met l yX10_takeSettings wsX10_takeSettings ({ frames := 8, cells := 0, slots := 0, locals := 175 }) (va_Pc [.ref h0] (PW g [(h0, .inr (9, [.ref h1, .ref h2, .int x0, .int x1, .int x2, .int x3, .int x4, .int x5, .int x6, .int x7])), (h1, .inr (3, [.ref h2, .ref h7, .ref h3, .ref h8, .int x8, .int x9, .int x10])), (h2, .inr (4, [.ref h4, .int x11])), (h3, .inr (7, [.ref h2, .ref h5, .ref h6, .int x12, .int x13, .int x14])), (h4, .inl (gB g, 1500, .inl fn0)), (h5, .inl (gI g, 200, .inl fn1)), (h6, .inl (gI g, 200, .inl fn2))] sz)) (va_Qi (fun (r : Int32) (u : (Int32) × (Int32) × (Int32) × (Int32) × (Int32) × (Int32) × (Int32) × (Int32) × (Int32) × (Int32) × (Nat → Int32) × (Nat → Int32) × (Nat → Int32)) => 0 ≤ (Int32.toInt r) ∧ (Int32.toInt r) ≤ 2 ∧ 0 ≤ (Int32.toInt (u.1)) ∧ (Int32.toInt (u.1)) ≤ 1500 ∧ 0 ≤ (Int32.toInt (u.2.1)) ∧ (Int32.toInt (u.2.1)) ≤ 1500 ∧ 0 ≤ (Int32.toInt (u.2.2.1)) ∧ (Int32.toInt (u.2.2.1)) ≤ 1500 ∧ -1 ≤ (Int32.toInt (u.2.2.2.1)) ∧ (Int32.toInt (u.2.2.2.1)) ≤ 9999 ∧ 0 ≤ (Int32.toInt (u.2.2.2.2.1)) ∧ (Int32.toInt (u.2.2.2.2.1)) ≤ 1 ∧ -1 ≤ (Int32.toInt (u.2.2.2.2.2.1)) ∧ (Int32.toInt (u.2.2.2.2.2.1)) ≤ 9999 ∧ 0 ≤ (Int32.toInt (u.2.2.2.2.2.2.1)) ∧ (Int32.toInt (u.2.2.2.2.2.2.1)) ≤ 1500 ∧ 0 ≤ (Int32.toInt (u.2.2.2.2.2.2.2.1)) ∧ (Int32.toInt (u.2.2.2.2.2.2.2.1)) ≤ 1500 ∧ SEQ 0 (Int32.toInt r) (SET (GB fn0 (Int32.toInt x11)) (Int32.toInt x11) (Int32.toInt x0) 0 0) (fun v => v = ((Int32.toInt (u.1)), (Int32.toInt (u.2.2.2.2.2.2.2.2.1)))) ∧ AGR (u.2.2.2.2.2.2.2.2.2.2.1) fn0 (Int32.toInt x11) (Int32.toInt (u.1)) ∧ (¬ ((Int32.toInt r) = 0) ∨ ((Int32.toInt x0) ≤ (Int32.toInt (u.1)) ∧ (Int32.toInt (u.1)) ≤ (Int32.toInt x11))) ∧ CND ((Int32.toInt r) = 0) (TSD fn0 (Int32.toInt x11) (Int32.toInt x0) (u.2.2.2.2.2.2.2.2.2.2.1) (Int32.toInt (u.1)) (Int32.toInt (u.2.2.2.2.2.2.2.2.1)) (Int32.toInt (u.2.2.2.1)) (u.2.2.2.2.2.2.2.2.2.2.2.1) (u.2.2.2.2.2.2.2.2.2.2.2.2)) ∧ ((Int32.toInt (u.2.2.2.2.2.2.2.2.2.1)) = 0 ∨ (Int32.toInt (u.2.2.2.2.2.2.2.2.2.1)) = (Int32.toInt x14)) ∧ (¬ ((Int32.toInt r) = 0) ∨ (Int32.toInt (u.2.2.2.2.2.2.2.2.1)) ≤ 200)) (BW g (va_A [(h0, .inr (9, [.ref h1, .ref h2, .int x0, .int x1, .int x2, .int x3, .int x4, .int x5, .int x6, .int x7])), (h1, .inr (3, [.ref h2, .ref h7, .ref h3, .ref h8, .int x8, .int x9, .int x10])), (h2, .inr (4, [.ref h4, .int x11])), (h3, .inr (7, [.ref h2, .ref h5, .ref h6, .int x12, .int x13, .int x14])), (h4, .inl (gB g, 1500, .inl fn0)), (h5, .inl (gI g, 200, .inl fn1)), (h6, .inl (gI g, 200, .inl fn2))] sz) (fun u : (Int32) × (Int32) × (Int32) × (Int32) × (Int32) × (Int32) × (Int32) × (Int32) × (Int32) × (Int32) × (Nat → Int32) × (Nat → Int32) × (Nat → Int32) => [(h0, .inr (9, [.ref h1, .ref h2, .int u.1, .int u.2.1, .int u.2.2.1, .int u.2.2.2.1, .int u.2.2.2.2.1, .int u.2.2.2.2.2.1, .int u.2.2.2.2.2.2.1, .int u.2.2.2.2.2.2.2.1])), (h1, .inr (3, [.ref h2, .ref h7, .ref h3, .ref h8, .int x8, .int x9, .int x10])), (h2, .inr (4, [.ref h4, .int x11])), (h3, .inr (7, [.ref h2, .ref h5, .ref h6, .int u.2.2.2.2.2.2.2.2.1, .int x13, .int u.2.2.2.2.2.2.2.2.2.1])), (h4, .inl (gB g, 1500, .inl u.2.2.2.2.2.2.2.2.2.2.1)), (h5, .inl (gI g, 200, .inl u.2.2.2.2.2.2.2.2.2.2.2.1)), (h6, .inl (gI g, 200, .inl u.2.2.2.2.2.2.2.2.2.2.2.2))])) (va_A [(h0, .inr (9, [.ref h1, .ref h2, .int x0, .int x1, .int x2, .int x3, .int x4, .int x5, .int x6, .int x7])), (h1, .inr (3, [.ref h2, .ref h7, .ref h3, .ref h8, .int x8, .int x9, .int x10])), (h2, .inr (4, [.ref h4, .int x11])), (h3, .inr (7, [.ref h2, .ref h5, .ref h6, .int x12, .int x13, .int x14])), (h4, .inl (gB g, 1500, .inl fn0)), (h5, .inl (gI g, 200, .inl fn1)), (h6, .inl (gI g, 200, .inl fn2))] sz)) 0 0 (va_A [(h0, .inr (9, [.ref h1, .ref h2, .int x0, .int x1, .int x2, .int x3, .int x4, .int x5, .int x6, .int x7])), (h1, .inr (3, [.ref h2, .ref h7, .ref h3, .ref h8, .int x8, .int x9, .int x10])), (h2, .inr (4, [.ref h4, .int x11])), (h3, .inr (7, [.ref h2, .ref h5, .ref h6, .int x12, .int x13, .int x14])), (h4, .inl (gB g, 1500, .inl fn0)), (h5, .inl (gI g, 200, .inl fn1)), (h6, .inl (gI g, 200, .inl fn2))] sz) := by
  refine met_i RX10 (by decide) rfl rfl (Nat.le_of_ble_eq_true rfl) [(0, .ref h0)] rfl ?_
  intro p e s m args below meth c A Q C hnm Rt
  have gx12 := fb_rng x12
  have gx14 := fb_rng x14
  have hiX10 : ∀ w ∈ wsX100, w ∈ wsX10_takeSettings := fun w h => List.mem_cons_of_mem _ (List.mem_append_left _ (List.mem_append_left _ (List.mem_append_left _ (List.mem_append_right _ (h)))))
  refine r_aload_n 0 0 C dX10_takeSettings_0 rfl ?_
  refine r_get 1 C dX10_takeSettings_1 (k := 1) 0 rfl rfl hiX10 (by decide) rfl (mg 1 rfl) (Or.inl rfl) rfl ?_
  refine r_callVi 4 C dX10_takeSettings_4 [] [(h2, .inr (4, [.ref h4, .int x11]))] [(h0, .inr (9, [.ref h1, .ref h2, .int x0, .int x1, .int x2, .int x3, .int x4, .int x5, .int x6, .int x7])), (h1, .inr (3, [.ref h2, .ref h7, .ref h3, .ref h8, .int x8, .int x9, .int x10])), (h3, .inr (7, [.ref h2, .ref h5, .ref h6, .int x12, .int x13, .int x14])), (h4, .inl (gB g, 1500, .inl fn0)), (h5, .inl (gI g, 200, .inl fn1)), (h6, .inl (gI g, 200, .inl fn2))] (fun sz => c0_X5_size l g h2 h4 x11 i_x11 sz) gX10_takeSettings_X5_size rfl ⟨rfl, rfl⟩ 0 (by decide) ⟨Nat.le_of_ble_eq_true rfl, Nat.le_of_ble_eq_true rfl⟩ 2 rfl rfl [2] [0, 1, 3, 4, 5, 6] rfl rfl (by decide) (by decide) (by decide) rfl rfl (Nat.le_of_ble_eq_true rfl) ⟨Nat.le_of_ble_eq_true rfl, Nat.le_of_ble_eq_true rfl⟩ (fun r1 _ w2 => ?_)
  refine r_ws [(h0, .inr (9, [.ref h1, .ref h2, .int x0, .int x1, .int x2, .int x3, .int x4, .int x5, .int x6, .int x7])), (h1, .inr (3, [.ref h2, .ref h7, .ref h3, .ref h8, .int x8, .int x9, .int x10])), (h3, .inr (7, [.ref h2, .ref h5, .ref h6, .int x12, .int x13, .int x14])), (h4, .inl (gB g, 1500, .inl fn0)), (h5, .inl (gI g, 200, .inl fn1)), (h6, .inl (gI g, 200, .inl fn2)), (h2, .inr (4, [.ref h4, .int x11]))] rfl ?_
  have p3 : x11 = r1 := (w2).symm
  subst p3
  refine r_istore_n 7 C dX10_takeSettings_7 [(1, .int x11), (0, .ref h0)] (by decide) rfl ?_
  refine r_iconst 8 0 C dX10_takeSettings_8 (by decide) ?_
  refine r_istore_n 9 C dX10_takeSettings_9 [(2, .int 0), (1, .int x11), (0, .ref h0)] (by decide) rfl ?_
  refine r_iconst 10 0 C dX10_takeSettings_10 (by decide) ?_
  refine r_istore_n 11 C dX10_takeSettings_11 [(3, .int 0), (2, .int 0), (1, .int x11), (0, .ref h0)] (by decide) rfl ?_
  have lp20 : ∀ (n19 : Nat) (z4 : Int32) (z5 : Int32) (z6 : Int32) (z7 : Int32) (z8 : Int32) (z9 : Int32) (z10 : Int32) (z11 : Int32) (z12 : Int32) (z13 : Int32) (z14 : Int32) (z15 : Int32) (f16 : Nat → Int32) (f17 : Nat → Int32) (f18 : Nat → Int32), (0 ≤ (Int32.toInt z4) ∧ (Int32.toInt z4) ≤ 1501) → (0 ≤ (Int32.toInt z5) ∧ (Int32.toInt z5) ≤ 2) → (0 ≤ (Int32.toInt z6) ∧ (Int32.toInt z6) ≤ 1500) → (0 ≤ (Int32.toInt z7) ∧ (Int32.toInt z7) ≤ 1500) → (0 ≤ (Int32.toInt z8) ∧ (Int32.toInt z8) ≤ 1500) → (-1 ≤ (Int32.toInt z9) ∧ (Int32.toInt z9) ≤ 9999) → (0 ≤ (Int32.toInt z10) ∧ (Int32.toInt z10) ≤ 1) → (-1 ≤ (Int32.toInt z11) ∧ (Int32.toInt z11) ≤ 9999) → (0 ≤ (Int32.toInt z12) ∧ (Int32.toInt z12) ≤ 1500) → (0 ≤ (Int32.toInt z13) ∧ (Int32.toInt z13) ≤ 1500) → ((¬ ((Int32.toInt z5) = 0) ∨ ((Int32.toInt x0) + (Int32.toInt z4) ≤ (Int32.toInt z6) ∧ (((Int32.toInt z4) = 0 ∧ (Int32.toInt z6) = (Int32.toInt x0)) ∨ (Int32.toInt z6) ≤ (Int32.toInt x11))))) → (LPQ 0 (Int32.toInt z5) (SET (GB fn0 (Int32.toInt x11)) (Int32.toInt x11) (Int32.toInt x0) 0 0) (SET (GB fn0 (Int32.toInt x11)) (Int32.toInt x11) (Int32.toInt z6) (Int32.toInt z10) (Int32.toInt z14)) True) → (AGR f16 fn0 (Int32.toInt x11) (Int32.toInt z6)) → ((¬ ((Int32.toInt z5) = 0) ∨ (Int32.toInt z14) ≤ 200)) → (CND ((Int32.toInt z5) = 0) (TSI fn0 (Int32.toInt x11) (Int32.toInt x0) f16 (Int32.toInt z6) (Int32.toInt z10) (Int32.toInt z14) (Int32.toInt z9) f17 f18)) → (((Int32.toInt z15) = 0 ∨ (Int32.toInt z15) = (Int32.toInt x14))) → Int.toNat (1501 - (Int32.toInt z4)) < n19 → WW p l e ({ frames := 8, cells := 0, slots := 0, locals := 175 } : Room) s m args below meth c A Q g 4 0 0 [(h0, .inr (9, [.ref h1, .ref h2, .int z6, .int z7, .int z8, .int z9, .int z10, .int z11, .int z12, .int z13])), (h1, .inr (3, [.ref h2, .ref h7, .ref h3, .ref h8, .int x8, .int x9, .int x10])), (h3, .inr (7, [.ref h2, .ref h5, .ref h6, .int z14, .int x13, .int z15])), (h4, .inl (gB g, 1500, .inl f16)), (h5, .inl (gI g, 200, .inl f17)), (h6, .inl (gI g, 200, .inl f18)), (h2, .inr (4, [.ref h4, .int x11]))] 12 [(3, .int z4), (2, .int z5), (1, .int x11), (0, .ref h0)] [] := by
    intro n19
    induction n19 with
    | zero => intro z4 z5 z6 z7 z8 z9 z10 z11 z12 z13 z14 z15 f16 f17 f18 i23 i24 i25 i26 i27 i28 i29 i30 i31 i32 j33 j34 j35 j36 j37 j38 hm22; exact absurd hm22 (Nat.not_lt_zero _)
    | succ n19 ih21 =>
      intro z4 z5 z6 z7 z8 z9 z10 z11 z12 z13 z14 z15 f16 f17 f18 i23 i24 i25 i26 i27 i28 i29 i30 i31 i32 j33 j34 j35 j36 j37 j38 hm22
      obtain ⟨i23a, i23b⟩ := i23
      obtain ⟨i24a, i24b⟩ := i24
      obtain ⟨i25a, i25b⟩ := i25
      obtain ⟨i26a, i26b⟩ := i26
      obtain ⟨i27a, i27b⟩ := i27
      obtain ⟨i28a, i28b⟩ := i28
      obtain ⟨i29a, i29b⟩ := i29
      obtain ⟨i30a, i30b⟩ := i30
      obtain ⟨i31a, i31b⟩ := i31
      obtain ⟨i32a, i32b⟩ := i32
      have gz14 := fb_rng z14
      have gz15 := fb_rng z15
      refine r_iload_n 12 0 C dX10_takeSettings_12 rfl ?_
      refine r_iload_n 13 2 C dX10_takeSettings_13 rfl ?_
      refine r_icmp_gt 14 121 C dX10_takeSettings_14 (by decide) (fun c39 => ?_) (fun c39 => ?_)
      · skip
        have k40 : (Int32.toInt x11) < (Int32.toInt z4) := (fa_lt x11 z4).mp c39
        refine r_iload_n 121 1 C dX10_takeSettings_121 rfl ?_
        exact r_iret 122 Rt dX10_takeSettings_122 (z6, z7, z8, z9, z10, z11, z12, z13, z14, z15, f16, f17, f18) (show 0 ≤ (Int32.toInt z5) ∧ (Int32.toInt z5) ≤ 2 ∧ 0 ≤ (Int32.toInt z6) ∧ (Int32.toInt z6) ≤ 1500 ∧ 0 ≤ (Int32.toInt z7) ∧ (Int32.toInt z7) ≤ 1500 ∧ 0 ≤ (Int32.toInt z8) ∧ (Int32.toInt z8) ≤ 1500 ∧ -1 ≤ (Int32.toInt z9) ∧ (Int32.toInt z9) ≤ 9999 ∧ 0 ≤ (Int32.toInt z10) ∧ (Int32.toInt z10) ≤ 1 ∧ -1 ≤ (Int32.toInt z11) ∧ (Int32.toInt z11) ≤ 9999 ∧ 0 ≤ (Int32.toInt z12) ∧ (Int32.toInt z12) ≤ 1500 ∧ 0 ≤ (Int32.toInt z13) ∧ (Int32.toInt z13) ≤ 1500 ∧ SEQ 0 (Int32.toInt z5) (SET (GB fn0 (Int32.toInt x11)) (Int32.toInt x11) (Int32.toInt x0) 0 0) (fun v => v = ((Int32.toInt z6), (Int32.toInt z14))) ∧ AGR f16 fn0 (Int32.toInt x11) (Int32.toInt z6) ∧ (¬ ((Int32.toInt z5) = 0) ∨ ((Int32.toInt x0) ≤ (Int32.toInt z6) ∧ (Int32.toInt z6) ≤ (Int32.toInt x11))) ∧ CND ((Int32.toInt z5) = 0) (TSD fn0 (Int32.toInt x11) (Int32.toInt x0) f16 (Int32.toInt z6) (Int32.toInt z14) (Int32.toInt z9) f17 f18) ∧ ((Int32.toInt z15) = 0 ∨ (Int32.toInt z15) = (Int32.toInt x14)) ∧ (¬ ((Int32.toInt z5) = 0) ∨ (Int32.toInt z14) ≤ 200) from ⟨(show _ ∧ _ from ⟨i24a, i24b⟩).1, (show _ ∧ _ from ⟨i24a, i24b⟩).2, (show _ ∧ _ from ⟨i25a, i25b⟩).1, (show _ ∧ _ from ⟨i25a, i25b⟩).2, (show _ ∧ _ from ⟨i26a, i26b⟩).1, (show _ ∧ _ from ⟨i26a, i26b⟩).2, (show _ ∧ _ from ⟨i27a, i27b⟩).1, (show _ ∧ _ from ⟨i27a, i27b⟩).2, (show _ ∧ _ from ⟨i28a, i28b⟩).1, (show _ ∧ _ from ⟨i28a, i28b⟩).2, (show _ ∧ _ from ⟨i29a, i29b⟩).1, (show _ ∧ _ from ⟨i29a, i29b⟩).2, (show _ ∧ _ from ⟨i30a, i30b⟩).1, (show _ ∧ _ from ⟨i30a, i30b⟩).2, (show _ ∧ _ from ⟨i31a, i31b⟩).1, (show _ ∧ _ from ⟨i31a, i31b⟩).2, (show _ ∧ _ from ⟨i32a, i32b⟩).1, (show _ ∧ _ from ⟨i32a, i32b⟩).2, (by first | exact lpq0_no (show LPQ 0 (Int32.toInt z5) (SET (GB fn0 (Int32.toInt x11)) (Int32.toInt x11) (Int32.toInt x0) 0 0) (SET (GB fn0 (Int32.toInt x11)) (Int32.toInt x11) (Int32.toInt z6) (Int32.toInt z10) (Int32.toInt z14)) True by assumption) (by omega)), (by exact agr_le (show AGR f16 fn0 (Int32.toInt x11) (Int32.toInt z6) by assumption) (by omega)), (by ((repeat' apply And.intro) <;> first | trivial | rfl | assumption | omega | decide | exact Or.inl rfl | exact Or.inr (Or.inl rfl) | exact Or.inr (Or.inr rfl))), (by first | exact fun h_9 => absurd h_9 (by omega)), (by ((repeat' apply And.intro) <;> first | trivial | rfl | assumption | omega | decide | exact Or.inl rfl | exact Or.inr (Or.inl rfl) | exact Or.inr (Or.inr rfl))), (by ((repeat' apply And.intro) <;> first | trivial | rfl | assumption | omega | decide | exact Or.inl rfl | exact Or.inr (Or.inl rfl) | exact Or.inr (Or.inr rfl)))⟩) [0, 1, 6, 2, 3, 4, 5] (by decide) rfl (Nat.le_of_ble_eq_true rfl) (Nat.le_of_ble_eq_true rfl)
      · skip
        have k41 : ¬ ((Int32.toInt x11) < (Int32.toInt z4)) := fun h_9 => c39 ((fa_lt x11 z4).mpr h_9)
        refine r_iload_n 17 1 C dX10_takeSettings_17 rfl ?_
        refine r_if_ne 18 121 C dX10_takeSettings_18 (by decide) (fun c42 => ?_) (fun c42 => ?_)
        · skip
          have k43 : ¬ ((Int32.toInt z5) = 0) := fun h_9 => c42 ((fa_eq z5 0).mpr h_9)
          refine r_iload_n 121 1 C dX10_takeSettings_121 rfl ?_
          exact r_iret 122 Rt dX10_takeSettings_122 (z6, z7, z8, z9, z10, z11, z12, z13, z14, z15, f16, f17, f18) (show 0 ≤ (Int32.toInt z5) ∧ (Int32.toInt z5) ≤ 2 ∧ 0 ≤ (Int32.toInt z6) ∧ (Int32.toInt z6) ≤ 1500 ∧ 0 ≤ (Int32.toInt z7) ∧ (Int32.toInt z7) ≤ 1500 ∧ 0 ≤ (Int32.toInt z8) ∧ (Int32.toInt z8) ≤ 1500 ∧ -1 ≤ (Int32.toInt z9) ∧ (Int32.toInt z9) ≤ 9999 ∧ 0 ≤ (Int32.toInt z10) ∧ (Int32.toInt z10) ≤ 1 ∧ -1 ≤ (Int32.toInt z11) ∧ (Int32.toInt z11) ≤ 9999 ∧ 0 ≤ (Int32.toInt z12) ∧ (Int32.toInt z12) ≤ 1500 ∧ 0 ≤ (Int32.toInt z13) ∧ (Int32.toInt z13) ≤ 1500 ∧ SEQ 0 (Int32.toInt z5) (SET (GB fn0 (Int32.toInt x11)) (Int32.toInt x11) (Int32.toInt x0) 0 0) (fun v => v = ((Int32.toInt z6), (Int32.toInt z14))) ∧ AGR f16 fn0 (Int32.toInt x11) (Int32.toInt z6) ∧ (¬ ((Int32.toInt z5) = 0) ∨ ((Int32.toInt x0) ≤ (Int32.toInt z6) ∧ (Int32.toInt z6) ≤ (Int32.toInt x11))) ∧ CND ((Int32.toInt z5) = 0) (TSD fn0 (Int32.toInt x11) (Int32.toInt x0) f16 (Int32.toInt z6) (Int32.toInt z14) (Int32.toInt z9) f17 f18) ∧ ((Int32.toInt z15) = 0 ∨ (Int32.toInt z15) = (Int32.toInt x14)) ∧ (¬ ((Int32.toInt z5) = 0) ∨ (Int32.toInt z14) ≤ 200) from ⟨(show _ ∧ _ from ⟨i24a, i24b⟩).1, (show _ ∧ _ from ⟨i24a, i24b⟩).2, (show _ ∧ _ from ⟨i25a, i25b⟩).1, (show _ ∧ _ from ⟨i25a, i25b⟩).2, (show _ ∧ _ from ⟨i26a, i26b⟩).1, (show _ ∧ _ from ⟨i26a, i26b⟩).2, (show _ ∧ _ from ⟨i27a, i27b⟩).1, (show _ ∧ _ from ⟨i27a, i27b⟩).2, (show _ ∧ _ from ⟨i28a, i28b⟩).1, (show _ ∧ _ from ⟨i28a, i28b⟩).2, (show _ ∧ _ from ⟨i29a, i29b⟩).1, (show _ ∧ _ from ⟨i29a, i29b⟩).2, (show _ ∧ _ from ⟨i30a, i30b⟩).1, (show _ ∧ _ from ⟨i30a, i30b⟩).2, (show _ ∧ _ from ⟨i31a, i31b⟩).1, (show _ ∧ _ from ⟨i31a, i31b⟩).2, (show _ ∧ _ from ⟨i32a, i32b⟩).1, (show _ ∧ _ from ⟨i32a, i32b⟩).2, (by first | exact lpq0_no (show LPQ 0 (Int32.toInt z5) (SET (GB fn0 (Int32.toInt x11)) (Int32.toInt x11) (Int32.toInt x0) 0 0) (SET (GB fn0 (Int32.toInt x11)) (Int32.toInt x11) (Int32.toInt z6) (Int32.toInt z10) (Int32.toInt z14)) True by assumption) (by omega)), (by exact agr_le (show AGR f16 fn0 (Int32.toInt x11) (Int32.toInt z6) by assumption) (by omega)), (by ((repeat' apply And.intro) <;> first | trivial | rfl | assumption | omega | decide | exact Or.inl rfl | exact Or.inr (Or.inl rfl) | exact Or.inr (Or.inr rfl))), (by first | exact fun h_9 => absurd h_9 (by omega)), (by ((repeat' apply And.intro) <;> first | trivial | rfl | assumption | omega | decide | exact Or.inl rfl | exact Or.inr (Or.inl rfl) | exact Or.inr (Or.inr rfl))), (by ((repeat' apply And.intro) <;> first | trivial | rfl | assumption | omega | decide | exact Or.inl rfl | exact Or.inr (Or.inl rfl) | exact Or.inr (Or.inr rfl)))⟩) [0, 1, 6, 2, 3, 4, 5] (by decide) rfl (Nat.le_of_ble_eq_true rfl) (Nat.le_of_ble_eq_true rfl)
        · skip
          have k44 : (Int32.toInt z5) = 0 := (fa_eq z5 0).mp c42
          refine r_aload_n 21 3 C dX10_takeSettings_21 rfl ?_
          refine r_callVi 22 C dX10_takeSettings_22 [] [(h0, .inr (9, [.ref h1, .ref h2, .int z6, .int z7, .int z8, .int z9, .int z10, .int z11, .int z12, .int z13])), (h2, .inr (4, [.ref h4, .int x11])), (h4, .inl (gB g, 1500, .inl f16))] [(h1, .inr (3, [.ref h2, .ref h7, .ref h3, .ref h8, .int x8, .int x9, .int x10])), (h3, .inr (7, [.ref h2, .ref h5, .ref h6, .int z14, .int x13, .int z15])), (h5, .inl (gI g, 200, .inl f17)), (h6, .inl (gI g, 200, .inl f18))] (fun sz => c115_X10_takeWord l g h0 h2 h4 h1 z6 z7 z8 z9 z10 z11 z12 z13 x11 f16 ⟨i25a, i25b⟩ ⟨i26a, i26b⟩ ⟨i27a, i27b⟩ ⟨i28a, i28b⟩ ⟨i29a, i29b⟩ ⟨i30a, i30b⟩ ⟨i31a, i31b⟩ ⟨i32a, i32b⟩ i_x11 sz) gX10_takeSettings_X10_takeWord rfl ⟨rfl, rfl⟩ 0 (by decide) ⟨Nat.le_of_ble_eq_true rfl, Nat.le_of_ble_eq_true rfl⟩ 0 rfl rfl [0, 6, 3] [1, 2, 4, 5] rfl rfl (by decide) (by decide) (by decide) rfl rfl (Nat.le_of_ble_eq_true rfl) ⟨Nat.le_of_ble_eq_true rfl, Nat.le_of_ble_eq_true rfl⟩ (fun r48 u50 w49 => ?_)
          obtain ⟨z45, z46, z47⟩ := u50
          refine r_ws [(h1, .inr (3, [.ref h2, .ref h7, .ref h3, .ref h8, .int x8, .int x9, .int x10])), (h3, .inr (7, [.ref h2, .ref h5, .ref h6, .int z14, .int x13, .int z15])), (h5, .inl (gI g, 200, .inl f17)), (h6, .inl (gI g, 200, .inl f18)), (h0, .inr (9, [.ref h1, .ref h2, .int z45, .int z46, .int z47, .int z9, .int z10, .int z11, .int z12, .int z13])), (h2, .inr (4, [.ref h4, .int x11])), (h4, .inl (gB g, 1500, .inl f16))] rfl ?_
          have p51 : 0 ≤ (Int32.toInt r48) := w49.1
          have p52 : (Int32.toInt r48) ≤ 1 := w49.2.1
          have p53 : 0 ≤ (Int32.toInt z45) := w49.2.2.1
          have p54 : (Int32.toInt z45) ≤ 1500 := w49.2.2.2.1
          have p55 : 0 ≤ (Int32.toInt z46) := w49.2.2.2.2.1
          have p56 : (Int32.toInt z46) ≤ 1500 := w49.2.2.2.2.2.1
          have p57 : 0 ≤ (Int32.toInt z47) := w49.2.2.2.2.2.2.1
          have p58 : (Int32.toInt z47) ≤ 1500 := w49.2.2.2.2.2.2.2.1
          have p59 : BSQ (Int32.toInt r48) (WRD (GB f16 (Int32.toInt x11)) (Int32.toInt x11) (Int32.toInt z6)) (fun w => w = ((Int32.toInt z46), (Int32.toInt z47))) := w49.2.2.2.2.2.2.2.2.1
          have p60 : ((Int32.toInt z45) = (Int32.toInt z47) ∧ (Int32.toInt z6) ≤ (Int32.toInt z46) ∧ (Int32.toInt z46) ≤ (Int32.toInt z47) ∧ (((Int32.toInt r48) = 1 ∧ (Int32.toInt z46) < (Int32.toInt z47) ∧ (Int32.toInt z47) ≤ (Int32.toInt x11)) ∨ (Int32.toInt r48) = 0)) := w49.2.2.2.2.2.2.2.2.2
          refine r_if_ne 25 30 C dX10_takeSettings_25 (by decide) (fun c61 => ?_) (fun c61 => ?_)
          · skip
            have k62 : ¬ ((Int32.toInt r48) = 0) := fun h_9 => c61 ((fa_eq r48 0).mpr h_9)
            refine r_aload_n 30 3 C dX10_takeSettings_30 rfl ?_
            refine r_ldcS 31 1 C rfl (by decide) rfl dX10_takeSettings_31 ?_
            refine r_callVi 33 C dX10_takeSettings_33 [] [(h0, .inr (9, [.ref h1, .ref h2, .int z45, .int z46, .int z47, .int z9, .int z10, .int z11, .int z12, .int z13])), (h2, .inr (4, [.ref h4, .int x11])), (h4, .inl (gB g, 1500, .inl f16))] [(h1, .inr (3, [.ref h2, .ref h7, .ref h3, .ref h8, .int x8, .int x9, .int x10])), (h3, .inr (7, [.ref h2, .ref h5, .ref h6, .int z14, .int x13, .int z15])), (h5, .inl (gI g, 200, .inl f17)), (h6, .inl (gI g, 200, .inl f18))] (fun sz => c125_X10_isWord l g h0 h2 h4 h1 z45 z46 z47 z9 z10 z11 z12 z13 x11 f16 ⟨p53, p54⟩ ⟨p55, p56⟩ ⟨p57, p58⟩ ⟨i28a, i28b⟩ ⟨i29a, i29b⟩ ⟨i30a, i30b⟩ ⟨i31a, i31b⟩ ⟨i32a, i32b⟩ i_x11 sz) gX10_takeSettings_X10_isWord rfl ⟨rfl, rfl⟩ 1 (by decide) ⟨Nat.le_of_ble_eq_true rfl, Nat.le_of_ble_eq_true rfl⟩ 4 rfl rfl [4, 5, 6] [0, 1, 2, 3] rfl rfl (by decide) (by decide) (by decide) rfl rfl (Nat.le_of_ble_eq_true rfl) ⟨Nat.le_of_ble_eq_true rfl, Nat.le_of_ble_eq_true rfl⟩ (fun r63 _ w64 => ?_)
            refine r_ws [(h1, .inr (3, [.ref h2, .ref h7, .ref h3, .ref h8, .int x8, .int x9, .int x10])), (h3, .inr (7, [.ref h2, .ref h5, .ref h6, .int z14, .int x13, .int z15])), (h5, .inl (gI g, 200, .inl f17)), (h6, .inl (gI g, 200, .inl f18)), (h0, .inr (9, [.ref h1, .ref h2, .int z45, .int z46, .int z47, .int z9, .int z10, .int z11, .int z12, .int z13])), (h2, .inr (4, [.ref h4, .int x11])), (h4, .inl (gB g, 1500, .inl f16))] rfl ?_
            have p65 : 0 ≤ (Int32.toInt r63) := w64.1
            have p66 : (Int32.toInt r63) ≤ 1 := w64.2.1
            have p67 : ISB (Int32.toInt r63) (IW (GB f16 (Int32.toInt x11)) (Int32.toInt z46) (Int32.toInt z47) wChars) := w64.2.2
            refine r_if_eq 36 41 C dX10_takeSettings_36 (by decide) (fun c68 => ?_) (fun c68 => ?_)
            · skip
              have k69 : (Int32.toInt r63) = 0 := (fa_eq r63 0).mp c68
              refine r_aload_n 41 3 C dX10_takeSettings_41 rfl ?_
              refine r_ldcS 42 2 C rfl (by decide) rfl dX10_takeSettings_42 ?_
              refine r_callVi 44 C dX10_takeSettings_44 [] [(h0, .inr (9, [.ref h1, .ref h2, .int z45, .int z46, .int z47, .int z9, .int z10, .int z11, .int z12, .int z13])), (h2, .inr (4, [.ref h4, .int x11])), (h4, .inl (gB g, 1500, .inl f16))] [(h1, .inr (3, [.ref h2, .ref h7, .ref h3, .ref h8, .int x8, .int x9, .int x10])), (h3, .inr (7, [.ref h2, .ref h5, .ref h6, .int z14, .int x13, .int z15])), (h5, .inl (gI g, 200, .inl f17)), (h6, .inl (gI g, 200, .inl f18))] (fun sz => c135_X10_isWord l g h0 h2 h4 h1 z45 z46 z47 z9 z10 z11 z12 z13 x11 f16 ⟨p53, p54⟩ ⟨p55, p56⟩ ⟨p57, p58⟩ ⟨i28a, i28b⟩ ⟨i29a, i29b⟩ ⟨i30a, i30b⟩ ⟨i31a, i31b⟩ ⟨i32a, i32b⟩ i_x11 sz) gX10_takeSettings_X10_isWord rfl ⟨rfl, rfl⟩ 1 (by decide) ⟨Nat.le_of_ble_eq_true rfl, Nat.le_of_ble_eq_true rfl⟩ 4 rfl rfl [4, 5, 6] [0, 1, 2, 3] rfl rfl (by decide) (by decide) (by decide) rfl rfl (Nat.le_of_ble_eq_true rfl) ⟨Nat.le_of_ble_eq_true rfl, Nat.le_of_ble_eq_true rfl⟩ (fun r70 _ w71 => ?_)
              refine r_ws [(h1, .inr (3, [.ref h2, .ref h7, .ref h3, .ref h8, .int x8, .int x9, .int x10])), (h3, .inr (7, [.ref h2, .ref h5, .ref h6, .int z14, .int x13, .int z15])), (h5, .inl (gI g, 200, .inl f17)), (h6, .inl (gI g, 200, .inl f18)), (h0, .inr (9, [.ref h1, .ref h2, .int z45, .int z46, .int z47, .int z9, .int z10, .int z11, .int z12, .int z13])), (h2, .inr (4, [.ref h4, .int x11])), (h4, .inl (gB g, 1500, .inl f16))] rfl ?_
              have p72 : 0 ≤ (Int32.toInt r70) := w71.1
              have p73 : (Int32.toInt r70) ≤ 1 := w71.2.1
              have p74 : ISB (Int32.toInt r70) (IW (GB f16 (Int32.toInt x11)) (Int32.toInt z46) (Int32.toInt z47) wLeniv) := w71.2.2
              refine r_if_eq 47 77 C dX10_takeSettings_47 (by decide) (fun c75 => ?_) (fun c75 => ?_)
              · skip
                have k76 : (Int32.toInt r70) = 0 := (fa_eq r70 0).mp c75
                refine r_aload_n 77 3 C dX10_takeSettings_77 rfl ?_
                refine r_ldcS 78 3 C rfl (by decide) rfl dX10_takeSettings_78 ?_
                refine r_callVi 80 C dX10_takeSettings_80 [] [(h0, .inr (9, [.ref h1, .ref h2, .int z45, .int z46, .int z47, .int z9, .int z10, .int z11, .int z12, .int z13])), (h2, .inr (4, [.ref h4, .int x11])), (h4, .inl (gB g, 1500, .inl f16))] [(h1, .inr (3, [.ref h2, .ref h7, .ref h3, .ref h8, .int x8, .int x9, .int x10])), (h3, .inr (7, [.ref h2, .ref h5, .ref h6, .int z14, .int x13, .int z15])), (h5, .inl (gI g, 200, .inl f17)), (h6, .inl (gI g, 200, .inl f18))] (fun sz => c142_X10_isWord l g h0 h2 h4 h1 z45 z46 z47 z9 z10 z11 z12 z13 x11 f16 ⟨p53, p54⟩ ⟨p55, p56⟩ ⟨p57, p58⟩ ⟨i28a, i28b⟩ ⟨i29a, i29b⟩ ⟨i30a, i30b⟩ ⟨i31a, i31b⟩ ⟨i32a, i32b⟩ i_x11 sz) gX10_takeSettings_X10_isWord rfl ⟨rfl, rfl⟩ 1 (by decide) ⟨Nat.le_of_ble_eq_true rfl, Nat.le_of_ble_eq_true rfl⟩ 4 rfl rfl [4, 5, 6] [0, 1, 2, 3] rfl rfl (by decide) (by decide) (by decide) rfl rfl (Nat.le_of_ble_eq_true rfl) ⟨Nat.le_of_ble_eq_true rfl, Nat.le_of_ble_eq_true rfl⟩ (fun r77 _ w78 => ?_)
                refine r_ws [(h1, .inr (3, [.ref h2, .ref h7, .ref h3, .ref h8, .int x8, .int x9, .int x10])), (h3, .inr (7, [.ref h2, .ref h5, .ref h6, .int z14, .int x13, .int z15])), (h5, .inl (gI g, 200, .inl f17)), (h6, .inl (gI g, 200, .inl f18)), (h0, .inr (9, [.ref h1, .ref h2, .int z45, .int z46, .int z47, .int z9, .int z10, .int z11, .int z12, .int z13])), (h2, .inr (4, [.ref h4, .int x11])), (h4, .inl (gB g, 1500, .inl f16))] rfl ?_
                have p79 : 0 ≤ (Int32.toInt r77) := w78.1
                have p80 : (Int32.toInt r77) ≤ 1 := w78.2.1
                have p81 : ISB (Int32.toInt r77) (IW (GB f16 (Int32.toInt x11)) (Int32.toInt z46) (Int32.toInt z47) wSubrs) := w78.2.2
                refine r_if_eq 83 94 C dX10_takeSettings_83 (by decide) (fun c82 => ?_) (fun c82 => ?_)
                · skip
                  have k83 : (Int32.toInt r77) = 0 := (fa_eq r77 0).mp c82
                  refine r_aload_n 94 3 C dX10_takeSettings_94 rfl ?_
                  refine r_ldcS 95 4 C rfl (by decide) rfl dX10_takeSettings_95 ?_
                  refine r_callVi 97 C dX10_takeSettings_97 [] [(h0, .inr (9, [.ref h1, .ref h2, .int z45, .int z46, .int z47, .int z9, .int z10, .int z11, .int z12, .int z13])), (h2, .inr (4, [.ref h4, .int x11])), (h4, .inl (gB g, 1500, .inl f16))] [(h1, .inr (3, [.ref h2, .ref h7, .ref h3, .ref h8, .int x8, .int x9, .int x10])), (h3, .inr (7, [.ref h2, .ref h5, .ref h6, .int z14, .int x13, .int z15])), (h5, .inl (gI g, 200, .inl f17)), (h6, .inl (gI g, 200, .inl f18))] (fun sz => c152_X10_isWord l g h0 h2 h4 h1 z45 z46 z47 z9 z10 z11 z12 z13 x11 f16 ⟨p53, p54⟩ ⟨p55, p56⟩ ⟨p57, p58⟩ ⟨i28a, i28b⟩ ⟨i29a, i29b⟩ ⟨i30a, i30b⟩ ⟨i31a, i31b⟩ ⟨i32a, i32b⟩ i_x11 sz) gX10_takeSettings_X10_isWord rfl ⟨rfl, rfl⟩ 1 (by decide) ⟨Nat.le_of_ble_eq_true rfl, Nat.le_of_ble_eq_true rfl⟩ 4 rfl rfl [4, 5, 6] [0, 1, 2, 3] rfl rfl (by decide) (by decide) (by decide) rfl rfl (Nat.le_of_ble_eq_true rfl) ⟨Nat.le_of_ble_eq_true rfl, Nat.le_of_ble_eq_true rfl⟩ (fun r84 _ w85 => ?_)
                  refine r_ws [(h1, .inr (3, [.ref h2, .ref h7, .ref h3, .ref h8, .int x8, .int x9, .int x10])), (h3, .inr (7, [.ref h2, .ref h5, .ref h6, .int z14, .int x13, .int z15])), (h5, .inl (gI g, 200, .inl f17)), (h6, .inl (gI g, 200, .inl f18)), (h0, .inr (9, [.ref h1, .ref h2, .int z45, .int z46, .int z47, .int z9, .int z10, .int z11, .int z12, .int z13])), (h2, .inr (4, [.ref h4, .int x11])), (h4, .inl (gB g, 1500, .inl f16))] rfl ?_
                  have p86 : 0 ≤ (Int32.toInt r84) := w85.1
                  have p87 : (Int32.toInt r84) ≤ 1 := w85.2.1
                  have p88 : ISB (Int32.toInt r84) (IW (GB f16 (Int32.toInt x11)) (Int32.toInt z46) (Int32.toInt z47) wDup) := w85.2.2
                  refine r_if_eq 100 115 C dX10_takeSettings_100 (by decide) (fun c89 => ?_) (fun c89 => ?_)
                  · skip
                    have k90 : (Int32.toInt r84) = 0 := (fa_eq r84 0).mp c89
                    obtain ⟨z91, ez91⟩ : ∃ z_9, z4 + Int32.ofInt 1 = z_9 := ⟨_, rfl⟩
                    have tz91 : (Int32.toInt z91) = (Int32.toInt z4) + 1 := by rw [← ez91]; exact fb_addIv (a := 0) (b := 1501) (c := 1) (d := 1) ⟨i23a, i23b⟩ ⟨by decide, by decide⟩ (by decide) (by decide)
                    refine r_iinc 115 0 z91 C dX10_takeSettings_115 rfl ez91 [(3, .int z91), (2, .int z5), (1, .int x11), (0, .ref h0)] (by decide) rfl ?_
                    refine r_goto 118 12 C dX10_takeSettings_118 (by decide) ?_
                    refine r_pick [(h0, .inr (9, [.ref h1, .ref h2, .int z45, .int z46, .int z47, .int z9, .int z10, .int z11, .int z12, .int z13])), (h1, .inr (3, [.ref h2, .ref h7, .ref h3, .ref h8, .int x8, .int x9, .int x10])), (h3, .inr (7, [.ref h2, .ref h5, .ref h6, .int z14, .int x13, .int z15])), (h4, .inl (gB g, 1500, .inl f16)), (h5, .inl (gI g, 200, .inl f17)), (h6, .inl (gI g, 200, .inl f18)), (h2, .inr (4, [.ref h4, .int x11]))] [4, 0, 1, 6, 2, 3, 5] (by decide) rfl ?_
                    exact ih21 z91 z5 z45 z46 z47 z9 z10 z11 z12 z13 z14 z15 f16 f17 f18 ⟨by omega, by omega⟩ ⟨i24a, i24b⟩ ⟨p53, p54⟩ ⟨p55, p56⟩ ⟨p57, p58⟩ ⟨i28a, i28b⟩ ⟨i29a, i29b⟩ ⟨i30a, i30b⟩ ⟨i31a, i31b⟩ ⟨i32a, i32b⟩ (by show (¬ ((Int32.toInt z5) = 0) ∨ ((Int32.toInt x0) + (Int32.toInt z91) ≤ (Int32.toInt z45) ∧ (((Int32.toInt z91) = 0 ∧ (Int32.toInt z45) = (Int32.toInt x0)) ∨ (Int32.toInt z45) ≤ (Int32.toInt x11)))); omega) (set_step (show LPQ 0 (Int32.toInt z5) (SET (GB fn0 (Int32.toInt x11)) (Int32.toInt x11) (Int32.toInt x0) 0 0) (SET (GB fn0 (Int32.toInt x11)) (Int32.toInt x11) (Int32.toInt z6) (Int32.toInt z10) (Int32.toInt z14)) True by assumption) (by omega) (show AGR f16 fn0 (Int32.toInt x11) (Int32.toInt z6) by assumption) p59 (by omega) (stp_else p67 (by omega) p74 (by omega) p81 (by omega) p88 (by omega) (by omega) (by omega)) (by omega)) (agr_le (show AGR f16 fn0 (Int32.toInt x11) (Int32.toInt z6) by assumption) (by omega)) (by show (¬ ((Int32.toInt z5) = 0) ∨ (Int32.toInt z14) ≤ 200); omega) (show CND ((Int32.toInt z5) = 0) (TSI fn0 (Int32.toInt x11) (Int32.toInt x0) f16 (Int32.toInt z45) (Int32.toInt z10) (Int32.toInt z14) (Int32.toInt z9) f17 f18) from fun h_9 => by first | exact absurd h_9 (by omega) | exact tsi_else ((show CND ((Int32.toInt z5) = 0) (TSI fn0 (Int32.toInt x11) (Int32.toInt x0) f16 (Int32.toInt z6) (Int32.toInt z10) (Int32.toInt z14) (Int32.toInt z9) f17 f18) by assumption) (by omega)) (show AGR f16 fn0 (Int32.toInt x11) (Int32.toInt z6) by assumption) (tsi_w (show AGR f16 fn0 (Int32.toInt x11) (Int32.toInt z6) by assumption) p59 (by omega)) p67 (by omega) p74 (by omega) p81 (by omega) p88 (by omega) (by omega)) (by show ((Int32.toInt z15) = 0 ∨ (Int32.toInt z15) = (Int32.toInt x14)); omega) (by omega)
                  · skip
                    have k92 : ¬ ((Int32.toInt r84) = 0) := fun h_9 => c89 ((fa_eq r84 0).mpr h_9)
                    refine r_aload_n 103 3 C dX10_takeSettings_103 rfl ?_
                    refine r_get 104 C dX10_takeSettings_104 (k := 6) 4 rfl rfl hiX10 (by decide) rfl (mg 4 rfl) (Or.inl rfl) rfl ?_
                    refine r_if_eq 107 115 C dX10_takeSettings_107 (by decide) (fun c93 => ?_) (fun c93 => ?_)
                    · skip
                      have k94 : (Int32.toInt z10) = 0 := (fa_eq z10 0).mp c93
                      obtain ⟨z95, ez95⟩ : ∃ z_9, z4 + Int32.ofInt 1 = z_9 := ⟨_, rfl⟩
                      have tz95 : (Int32.toInt z95) = (Int32.toInt z4) + 1 := by rw [← ez95]; exact fb_addIv (a := 0) (b := 1501) (c := 1) (d := 1) ⟨i23a, i23b⟩ ⟨by decide, by decide⟩ (by decide) (by decide)
                      refine r_iinc 115 0 z95 C dX10_takeSettings_115 rfl ez95 [(3, .int z95), (2, .int z5), (1, .int x11), (0, .ref h0)] (by decide) rfl ?_
                      refine r_goto 118 12 C dX10_takeSettings_118 (by decide) ?_
                      refine r_pick [(h0, .inr (9, [.ref h1, .ref h2, .int z45, .int z46, .int z47, .int z9, .int z10, .int z11, .int z12, .int z13])), (h1, .inr (3, [.ref h2, .ref h7, .ref h3, .ref h8, .int x8, .int x9, .int x10])), (h3, .inr (7, [.ref h2, .ref h5, .ref h6, .int z14, .int x13, .int z15])), (h4, .inl (gB g, 1500, .inl f16)), (h5, .inl (gI g, 200, .inl f17)), (h6, .inl (gI g, 200, .inl f18)), (h2, .inr (4, [.ref h4, .int x11]))] [4, 0, 1, 6, 2, 3, 5] (by decide) rfl ?_
                      exact ih21 z95 z5 z45 z46 z47 z9 z10 z11 z12 z13 z14 z15 f16 f17 f18 ⟨by omega, by omega⟩ ⟨i24a, i24b⟩ ⟨p53, p54⟩ ⟨p55, p56⟩ ⟨p57, p58⟩ ⟨i28a, i28b⟩ ⟨i29a, i29b⟩ ⟨i30a, i30b⟩ ⟨i31a, i31b⟩ ⟨i32a, i32b⟩ (by show (¬ ((Int32.toInt z5) = 0) ∨ ((Int32.toInt x0) + (Int32.toInt z95) ≤ (Int32.toInt z45) ∧ (((Int32.toInt z95) = 0 ∧ (Int32.toInt z45) = (Int32.toInt x0)) ∨ (Int32.toInt z45) ≤ (Int32.toInt x11)))); omega) (set_step (show LPQ 0 (Int32.toInt z5) (SET (GB fn0 (Int32.toInt x11)) (Int32.toInt x11) (Int32.toInt x0) 0 0) (SET (GB fn0 (Int32.toInt x11)) (Int32.toInt x11) (Int32.toInt z6) (Int32.toInt z10) (Int32.toInt z14)) True by assumption) (by omega) (show AGR f16 fn0 (Int32.toInt x11) (Int32.toInt z6) by assumption) p59 (by omega) (stp_else p67 (by omega) p74 (by omega) p81 (by omega) p88 (by omega) (by omega) (by omega)) (by omega)) (agr_le (show AGR f16 fn0 (Int32.toInt x11) (Int32.toInt z6) by assumption) (by omega)) (by show (¬ ((Int32.toInt z5) = 0) ∨ (Int32.toInt z14) ≤ 200); omega) (show CND ((Int32.toInt z5) = 0) (TSI fn0 (Int32.toInt x11) (Int32.toInt x0) f16 (Int32.toInt z45) (Int32.toInt z10) (Int32.toInt z14) (Int32.toInt z9) f17 f18) from fun h_9 => by first | exact absurd h_9 (by omega) | exact tsi_else ((show CND ((Int32.toInt z5) = 0) (TSI fn0 (Int32.toInt x11) (Int32.toInt x0) f16 (Int32.toInt z6) (Int32.toInt z10) (Int32.toInt z14) (Int32.toInt z9) f17 f18) by assumption) (by omega)) (show AGR f16 fn0 (Int32.toInt x11) (Int32.toInt z6) by assumption) (tsi_w (show AGR f16 fn0 (Int32.toInt x11) (Int32.toInt z6) by assumption) p59 (by omega)) p67 (by omega) p74 (by omega) p81 (by omega) p88 (by omega) (by omega)) (by show ((Int32.toInt z15) = 0 ∨ (Int32.toInt z15) = (Int32.toInt x14)); omega) (by omega)
                    · skip
                      have k96 : ¬ ((Int32.toInt z10) = 0) := fun h_9 => c93 ((fa_eq z10 0).mpr h_9)
                      refine r_aload_n 110 3 C dX10_takeSettings_110 rfl ?_
                      refine r_callVi 111 C dX10_takeSettings_111 [] [(h0, .inr (9, [.ref h1, .ref h2, .int z45, .int z46, .int z47, .int z9, .int z10, .int z11, .int z12, .int z13])), (h1, .inr (3, [.ref h2, .ref h7, .ref h3, .ref h8, .int x8, .int x9, .int x10])), (h2, .inr (4, [.ref h4, .int x11])), (h3, .inr (7, [.ref h2, .ref h5, .ref h6, .int z14, .int x13, .int z15])), (h4, .inl (gB g, 1500, .inl f16)), (h5, .inl (gI g, 200, .inl f17)), (h6, .inl (gI g, 200, .inl f18))] [] (fun sz => c174_X10_takeLocal l g h0 h1 h2 h3 h4 h5 h6 z45 z46 z47 z9 z10 z11 z12 z13 h7 h8 x8 x9 x10 x11 z14 x13 z15 f16 f17 f18 ⟨p53, p54⟩ ⟨p55, p56⟩ ⟨p57, p58⟩ ⟨i28a, i28b⟩ ⟨i29a, i29b⟩ ⟨i30a, i30b⟩ ⟨i31a, i31b⟩ ⟨i32a, i32b⟩ i_x11 sz) gX10_takeSettings_X10_takeLocal rfl ⟨rfl, rfl⟩ 0 (by decide) ⟨Nat.le_of_ble_eq_true rfl, Nat.le_of_ble_eq_true rfl⟩ 4 rfl rfl [4, 0, 5, 1, 6, 2, 3] [] rfl rfl (by decide) (by decide) (by decide) rfl rfl (Nat.le_of_ble_eq_true rfl) ⟨Nat.le_of_ble_eq_true rfl, Nat.le_of_ble_eq_true rfl⟩ (fun r106 u108 w107 => ?_)
                      obtain ⟨z97, z98, z99, z100, z101, z102, f103, f104, f105⟩ := u108
                      refine r_ws [(h0, .inr (9, [.ref h1, .ref h2, .int z97, .int z98, .int z99, .int z9, .int z10, .int z100, .int z101, .int z102])), (h1, .inr (3, [.ref h2, .ref h7, .ref h3, .ref h8, .int x8, .int x9, .int x10])), (h2, .inr (4, [.ref h4, .int x11])), (h3, .inr (7, [.ref h2, .ref h5, .ref h6, .int z14, .int x13, .int z15])), (h4, .inl (gB g, 1500, .inl f103)), (h5, .inl (gI g, 200, .inl f104)), (h6, .inl (gI g, 200, .inl f105))] rfl ?_
                      have p109 : 0 ≤ (Int32.toInt r106) := w107.1
                      have p110 : (Int32.toInt r106) ≤ 2 := w107.2.1
                      have p111 : 0 ≤ (Int32.toInt z97) := w107.2.2.1
                      have p112 : (Int32.toInt z97) ≤ 1500 := w107.2.2.2.1
                      have p113 : 0 ≤ (Int32.toInt z98) := w107.2.2.2.2.1
                      have p114 : (Int32.toInt z98) ≤ 1500 := w107.2.2.2.2.2.1
                      have p115 : 0 ≤ (Int32.toInt z99) := w107.2.2.2.2.2.2.1
                      have p116 : (Int32.toInt z99) ≤ 1500 := w107.2.2.2.2.2.2.2.1
                      have p117 : -1 ≤ (Int32.toInt z100) := w107.2.2.2.2.2.2.2.2.1
                      have p118 : (Int32.toInt z100) ≤ 9999 := w107.2.2.2.2.2.2.2.2.2.1
                      have p119 : 0 ≤ (Int32.toInt z101) := w107.2.2.2.2.2.2.2.2.2.2.1
                      have p120 : (Int32.toInt z101) ≤ 1500 := w107.2.2.2.2.2.2.2.2.2.2.2.1
                      have p121 : 0 ≤ (Int32.toInt z102) := w107.2.2.2.2.2.2.2.2.2.2.2.2.1
                      have p122 : (Int32.toInt z102) ≤ 1500 := w107.2.2.2.2.2.2.2.2.2.2.2.2.2.1
                      have p123 : SEQ 0 (Int32.toInt r106) (LOC (GB f16 (Int32.toInt x11)) (Int32.toInt x11) (Int32.toInt z45) (Int32.toInt z14)) (fun v => v = (Int32.toInt z97)) := w107.2.2.2.2.2.2.2.2.2.2.2.2.2.2.1
                      have p124 : AGR f103 f16 (Int32.toInt x11) (Int32.toInt z97) := w107.2.2.2.2.2.2.2.2.2.2.2.2.2.2.2.1
                      have p125 : (¬ ((Int32.toInt r106) = 0) ∨ ((Int32.toInt z45) ≤ (Int32.toInt z97) ∧ ((Int32.toInt z97) = (Int32.toInt z45) ∨ (Int32.toInt z97) ≤ (Int32.toInt x11)))) := w107.2.2.2.2.2.2.2.2.2.2.2.2.2.2.2.2.1
                      have p126 : (Int32.toInt z45) ≤ (Int32.toInt z97) := w107.2.2.2.2.2.2.2.2.2.2.2.2.2.2.2.2.2.1
                      have p127 : CND ((Int32.toInt r106) = 0 ∧ (Int32.toInt z14) ≤ 200) (LCR f16 (Int32.toInt x11) (Int32.toInt z45) (Int32.toInt z14) (Int32.toInt z9) f17 f18 f103 (Int32.toInt z97) f104 f105) := w107.2.2.2.2.2.2.2.2.2.2.2.2.2.2.2.2.2.2
                      refine r_istore_n 114 C dX10_takeSettings_114 [(2, .int r106), (3, .int z4), (1, .int x11), (0, .ref h0)] (by decide) rfl ?_
                      obtain ⟨z128, ez128⟩ : ∃ z_9, z4 + Int32.ofInt 1 = z_9 := ⟨_, rfl⟩
                      have tz128 : (Int32.toInt z128) = (Int32.toInt z4) + 1 := by rw [← ez128]; exact fb_addIv (a := 0) (b := 1501) (c := 1) (d := 1) ⟨i23a, i23b⟩ ⟨by decide, by decide⟩ (by decide) (by decide)
                      refine r_iinc 115 1 z128 C dX10_takeSettings_115 rfl ez128 [(3, .int z128), (2, .int r106), (1, .int x11), (0, .ref h0)] (by decide) rfl ?_
                      refine r_goto 118 12 C dX10_takeSettings_118 (by decide) ?_
                      refine r_pick [(h0, .inr (9, [.ref h1, .ref h2, .int z97, .int z98, .int z99, .int z9, .int z10, .int z100, .int z101, .int z102])), (h1, .inr (3, [.ref h2, .ref h7, .ref h3, .ref h8, .int x8, .int x9, .int x10])), (h3, .inr (7, [.ref h2, .ref h5, .ref h6, .int z14, .int x13, .int z15])), (h4, .inl (gB g, 1500, .inl f103)), (h5, .inl (gI g, 200, .inl f104)), (h6, .inl (gI g, 200, .inl f105)), (h2, .inr (4, [.ref h4, .int x11]))] [0, 1, 3, 4, 5, 6, 2] (by decide) rfl ?_
                      exact ih21 z128 r106 z97 z98 z99 z9 z10 z100 z101 z102 z14 z15 f103 f104 f105 ⟨by omega, by omega⟩ ⟨p109, p110⟩ ⟨p111, p112⟩ ⟨p113, p114⟩ ⟨p115, p116⟩ ⟨i28a, i28b⟩ ⟨i29a, i29b⟩ ⟨p117, p118⟩ ⟨p119, p120⟩ ⟨p121, p122⟩ (by show (¬ ((Int32.toInt r106) = 0) ∨ ((Int32.toInt x0) + (Int32.toInt z128) ≤ (Int32.toInt z97) ∧ (((Int32.toInt z128) = 0 ∧ (Int32.toInt z97) = (Int32.toInt x0)) ∨ (Int32.toInt z97) ≤ (Int32.toInt x11)))); omega) (set_step (show LPQ 0 (Int32.toInt z5) (SET (GB fn0 (Int32.toInt x11)) (Int32.toInt x11) (Int32.toInt x0) 0 0) (SET (GB fn0 (Int32.toInt x11)) (Int32.toInt x11) (Int32.toInt z6) (Int32.toInt z10) (Int32.toInt z14)) True by assumption) (by omega) (show AGR f16 fn0 (Int32.toInt x11) (Int32.toInt z6) by assumption) p59 (by omega) (stp_dup p67 (by omega) p74 (by omega) p81 (by omega) p88 (by omega) (by omega) p123 (by omega)) (by omega)) (agr_tr p124 (agr_le (show AGR f16 fn0 (Int32.toInt x11) (Int32.toInt z6) by assumption) (by omega))) (by show (¬ ((Int32.toInt r106) = 0) ∨ (Int32.toInt z14) ≤ 200); omega) (show CND ((Int32.toInt r106) = 0) (TSI fn0 (Int32.toInt x11) (Int32.toInt x0) f103 (Int32.toInt z97) (Int32.toInt z10) (Int32.toInt z14) (Int32.toInt z9) f104 f105) from fun h_9 => by first | exact absurd h_9 (by omega) | exact tsi_dup ((show CND ((Int32.toInt z5) = 0) (TSI fn0 (Int32.toInt x11) (Int32.toInt x0) f16 (Int32.toInt z6) (Int32.toInt z10) (Int32.toInt z14) (Int32.toInt z9) f17 f18) by assumption) (by omega)) (show AGR f16 fn0 (Int32.toInt x11) (Int32.toInt z6) by assumption) (tsi_w (show AGR f16 fn0 (Int32.toInt x11) (Int32.toInt z6) by assumption) p59 (by omega)) (by omega) p67 (by omega) p74 (by omega) p81 (by omega) p88 (by omega) (by omega) (p127 ⟨h_9, by omega⟩) (by omega)) (by show ((Int32.toInt z15) = 0 ∨ (Int32.toInt z15) = (Int32.toInt x14)); omega) (by omega)
                · skip
                  have k129 : ¬ ((Int32.toInt r77) = 0) := fun h_9 => c82 ((fa_eq r77 0).mpr h_9)
                  refine r_aload_n 86 3 C dX10_takeSettings_86 rfl ?_
                  refine r_callVi 87 C dX10_takeSettings_87 [] [(h0, .inr (9, [.ref h1, .ref h2, .int z45, .int z46, .int z47, .int z9, .int z10, .int z11, .int z12, .int z13])), (h1, .inr (3, [.ref h2, .ref h7, .ref h3, .ref h8, .int x8, .int x9, .int x10])), (h2, .inr (4, [.ref h4, .int x11])), (h3, .inr (7, [.ref h2, .ref h5, .ref h6, .int z14, .int x13, .int z15])), (h4, .inl (gB g, 1500, .inl f16)), (h5, .inl (gI g, 200, .inl f17))] [(h6, .inl (gI g, 200, .inl f18))] (fun sz => c183_X10_takeLocals l g h0 h1 h2 h3 h4 h5 z45 z46 z47 z9 z10 z11 z12 z13 h7 h8 x8 x9 x10 x11 h6 z14 x13 z15 f16 f17 ⟨p53, p54⟩ ⟨p55, p56⟩ ⟨p57, p58⟩ ⟨i28a, i28b⟩ ⟨i29a, i29b⟩ ⟨i30a, i30b⟩ ⟨i31a, i31b⟩ ⟨i32a, i32b⟩ i_x11 sz) gX10_takeSettings_X10_takeLocals rfl ⟨rfl, rfl⟩ 0 (by decide) ⟨Nat.le_of_ble_eq_true rfl, Nat.le_of_ble_eq_true rfl⟩ 4 rfl rfl [4, 0, 5, 1, 6, 2] [3] rfl rfl (by decide) (by decide) (by decide) rfl rfl (Nat.le_of_ble_eq_true rfl) ⟨Nat.le_of_ble_eq_true rfl, Nat.le_of_ble_eq_true rfl⟩ (fun r138 u140 w139 => ?_)
                  obtain ⟨z130, z131, z132, z133, z134, z135, z136, f137⟩ := u140
                  refine r_ws [(h6, .inl (gI g, 200, .inl f18)), (h0, .inr (9, [.ref h1, .ref h2, .int z130, .int z131, .int z132, .int z9, .int z133, .int z134, .int z12, .int z13])), (h1, .inr (3, [.ref h2, .ref h7, .ref h3, .ref h8, .int x8, .int x9, .int x10])), (h2, .inr (4, [.ref h4, .int x11])), (h3, .inr (7, [.ref h2, .ref h5, .ref h6, .int z135, .int x13, .int z136])), (h4, .inl (gB g, 1500, .inl f16)), (h5, .inl (gI g, 200, .inl f137))] rfl ?_
                  have gz135 := fb_rng z135
                  have gz136 := fb_rng z136
                  have p141 : 0 ≤ (Int32.toInt r138) := w139.1
                  have p142 : (Int32.toInt r138) ≤ 2 := w139.2.1
                  have p143 : 0 ≤ (Int32.toInt z130) := w139.2.2.1
                  have p144 : (Int32.toInt z130) ≤ 1500 := w139.2.2.2.1
                  have p145 : 0 ≤ (Int32.toInt z131) := w139.2.2.2.2.1
                  have p146 : (Int32.toInt z131) ≤ 1500 := w139.2.2.2.2.2.1
                  have p147 : 0 ≤ (Int32.toInt z132) := w139.2.2.2.2.2.2.1
                  have p148 : (Int32.toInt z132) ≤ 1500 := w139.2.2.2.2.2.2.2.1
                  have p149 : 0 ≤ (Int32.toInt z133) := w139.2.2.2.2.2.2.2.2.1
                  have p150 : (Int32.toInt z133) ≤ 1 := w139.2.2.2.2.2.2.2.2.2.1
                  have p151 : -1 ≤ (Int32.toInt z134) := w139.2.2.2.2.2.2.2.2.2.2.1
                  have p152 : (Int32.toInt z134) ≤ 9999 := w139.2.2.2.2.2.2.2.2.2.2.2.1
                  have p153 : SEQ 0 (Int32.toInt r138) (SUBR (GB f16 (Int32.toInt x11)) (Int32.toInt x11) (Int32.toInt z45)) (fun v => v = ((Int32.toInt z130), (Int32.toInt z135))) := w139.2.2.2.2.2.2.2.2.2.2.2.2.1
                  have p154 : (¬ ((Int32.toInt r138) = 0) ∨ ((Int32.toInt z45) < (Int32.toInt z130) ∧ (Int32.toInt z130) ≤ (Int32.toInt x11) ∧ (Int32.toInt z133) = 1)) := w139.2.2.2.2.2.2.2.2.2.2.2.2.2.1
                  have p155 : (Int32.toInt z45) ≤ (Int32.toInt z130) := w139.2.2.2.2.2.2.2.2.2.2.2.2.2.2.1
                  have p156 : CND ((Int32.toInt r138) = 0) (FILLED f137 (-1) (Int.toNat (Int32.toInt z135))) := w139.2.2.2.2.2.2.2.2.2.2.2.2.2.2.2.1
                  have p157 : (¬ ((Int32.toInt r138) = 0) ∨ (0 ≤ (Int32.toInt z135) ∧ (Int32.toInt z135) ≤ 200)) := w139.2.2.2.2.2.2.2.2.2.2.2.2.2.2.2.2.1
                  have p158 : ((Int32.toInt z136) = 0 ∨ (Int32.toInt z136) = (Int32.toInt z15)) := w139.2.2.2.2.2.2.2.2.2.2.2.2.2.2.2.2.2
                  refine r_istore_n 90 C dX10_takeSettings_90 [(2, .int r138), (3, .int z4), (1, .int x11), (0, .ref h0)] (by decide) rfl ?_
                  refine r_goto 91 115 C dX10_takeSettings_91 (by decide) ?_
                  obtain ⟨z159, ez159⟩ : ∃ z_9, z4 + Int32.ofInt 1 = z_9 := ⟨_, rfl⟩
                  have tz159 : (Int32.toInt z159) = (Int32.toInt z4) + 1 := by rw [← ez159]; exact fb_addIv (a := 0) (b := 1501) (c := 1) (d := 1) ⟨i23a, i23b⟩ ⟨by decide, by decide⟩ (by decide) (by decide)
                  refine r_iinc 115 1 z159 C dX10_takeSettings_115 rfl ez159 [(3, .int z159), (2, .int r138), (1, .int x11), (0, .ref h0)] (by decide) rfl ?_
                  refine r_goto 118 12 C dX10_takeSettings_118 (by decide) ?_
                  refine r_pick [(h0, .inr (9, [.ref h1, .ref h2, .int z130, .int z131, .int z132, .int z9, .int z133, .int z134, .int z12, .int z13])), (h1, .inr (3, [.ref h2, .ref h7, .ref h3, .ref h8, .int x8, .int x9, .int x10])), (h3, .inr (7, [.ref h2, .ref h5, .ref h6, .int z135, .int x13, .int z136])), (h4, .inl (gB g, 1500, .inl f16)), (h5, .inl (gI g, 200, .inl f137)), (h6, .inl (gI g, 200, .inl f18)), (h2, .inr (4, [.ref h4, .int x11]))] [1, 2, 4, 5, 6, 0, 3] (by decide) rfl ?_
                  exact ih21 z159 r138 z130 z131 z132 z9 z133 z134 z12 z13 z135 z136 f16 f137 f18 ⟨by omega, by omega⟩ ⟨p141, p142⟩ ⟨p143, p144⟩ ⟨p145, p146⟩ ⟨p147, p148⟩ ⟨i28a, i28b⟩ ⟨p149, p150⟩ ⟨p151, p152⟩ ⟨i31a, i31b⟩ ⟨i32a, i32b⟩ (by show (¬ ((Int32.toInt r138) = 0) ∨ ((Int32.toInt x0) + (Int32.toInt z159) ≤ (Int32.toInt z130) ∧ (((Int32.toInt z159) = 0 ∧ (Int32.toInt z130) = (Int32.toInt x0)) ∨ (Int32.toInt z130) ≤ (Int32.toInt x11)))); omega) (set_step (show LPQ 0 (Int32.toInt z5) (SET (GB fn0 (Int32.toInt x11)) (Int32.toInt x11) (Int32.toInt x0) 0 0) (SET (GB fn0 (Int32.toInt x11)) (Int32.toInt x11) (Int32.toInt z6) (Int32.toInt z10) (Int32.toInt z14)) True by assumption) (by omega) (show AGR f16 fn0 (Int32.toInt x11) (Int32.toInt z6) by assumption) p59 (by omega) (stp_subrs p67 (by omega) p74 (by omega) p81 (by omega) p153 (by omega) (by omega)) (by omega)) (agr_le (show AGR f16 fn0 (Int32.toInt x11) (Int32.toInt z6) by assumption) (by omega)) (by show (¬ ((Int32.toInt r138) = 0) ∨ (Int32.toInt z135) ≤ 200); omega) (show CND ((Int32.toInt r138) = 0) (TSI fn0 (Int32.toInt x11) (Int32.toInt x0) f16 (Int32.toInt z130) (Int32.toInt z133) (Int32.toInt z135) (Int32.toInt z9) f137 f18) from fun h_9 => by first | exact absurd h_9 (by omega) | exact tsi_subrs ((show CND ((Int32.toInt z5) = 0) (TSI fn0 (Int32.toInt x11) (Int32.toInt x0) f16 (Int32.toInt z6) (Int32.toInt z10) (Int32.toInt z14) (Int32.toInt z9) f17 f18) by assumption) (by omega)) (show AGR f16 fn0 (Int32.toInt x11) (Int32.toInt z6) by assumption) (tsi_w (show AGR f16 fn0 (Int32.toInt x11) (Int32.toInt z6) by assumption) p59 (by omega)) p67 (by omega) p74 (by omega) p81 (by omega) p153 (by omega) h_9 (by omega) (p156 h_9) (by omega) (by omega)) (by show ((Int32.toInt z136) = 0 ∨ (Int32.toInt z136) = (Int32.toInt x14)); omega) (by omega)
              · skip
                have k160 : ¬ ((Int32.toInt r70) = 0) := fun h_9 => c75 ((fa_eq r70 0).mpr h_9)
                refine r_aload_n 50 3 C dX10_takeSettings_50 rfl ?_
                refine r_callVi 51 C dX10_takeSettings_51 [] [(h0, .inr (9, [.ref h1, .ref h2, .int z45, .int z46, .int z47, .int z9, .int z10, .int z11, .int z12, .int z13])), (h2, .inr (4, [.ref h4, .int x11])), (h4, .inl (gB g, 1500, .inl f16))] [(h1, .inr (3, [.ref h2, .ref h7, .ref h3, .ref h8, .int x8, .int x9, .int x10])), (h3, .inr (7, [.ref h2, .ref h5, .ref h6, .int z14, .int x13, .int z15])), (h5, .inl (gI g, 200, .inl f17)), (h6, .inl (gI g, 200, .inl f18))] (fun sz => c154_X10_takeCount l g h0 h2 h4 h1 z45 z46 z47 z9 z10 z11 z12 z13 x11 f16 ⟨p53, p54⟩ ⟨p55, p56⟩ ⟨p57, p58⟩ ⟨i28a, i28b⟩ ⟨i29a, i29b⟩ ⟨i30a, i30b⟩ ⟨i31a, i31b⟩ ⟨i32a, i32b⟩ i_x11 sz) gX10_takeSettings_X10_takeCount rfl ⟨rfl, rfl⟩ 0 (by decide) ⟨Nat.le_of_ble_eq_true rfl, Nat.le_of_ble_eq_true rfl⟩ 4 rfl rfl [4, 5, 6] [0, 1, 2, 3] rfl rfl (by decide) (by decide) (by decide) rfl rfl (Nat.le_of_ble_eq_true rfl) ⟨Nat.le_of_ble_eq_true rfl, Nat.le_of_ble_eq_true rfl⟩ (fun r165 u167 w166 => ?_)
                obtain ⟨z161, z162, z163, z164⟩ := u167
                refine r_ws [(h1, .inr (3, [.ref h2, .ref h7, .ref h3, .ref h8, .int x8, .int x9, .int x10])), (h3, .inr (7, [.ref h2, .ref h5, .ref h6, .int z14, .int x13, .int z15])), (h5, .inl (gI g, 200, .inl f17)), (h6, .inl (gI g, 200, .inl f18)), (h0, .inr (9, [.ref h1, .ref h2, .int z161, .int z162, .int z163, .int z9, .int z10, .int z164, .int z12, .int z13])), (h2, .inr (4, [.ref h4, .int x11])), (h4, .inl (gB g, 1500, .inl f16))] rfl ?_
                have p168 : 0 ≤ (Int32.toInt r165) := w166.1
                have p169 : (Int32.toInt r165) ≤ 2 := w166.2.1
                have p170 : 0 ≤ (Int32.toInt z161) := w166.2.2.1
                have p171 : (Int32.toInt z161) ≤ 1500 := w166.2.2.2.1
                have p172 : 0 ≤ (Int32.toInt z162) := w166.2.2.2.2.1
                have p173 : (Int32.toInt z162) ≤ 1500 := w166.2.2.2.2.2.1
                have p174 : 0 ≤ (Int32.toInt z163) := w166.2.2.2.2.2.2.1
                have p175 : (Int32.toInt z163) ≤ 1500 := w166.2.2.2.2.2.2.2.1
                have p176 : -1 ≤ (Int32.toInt z164) := w166.2.2.2.2.2.2.2.2.1
                have p177 : (Int32.toInt z164) ≤ 9999 := w166.2.2.2.2.2.2.2.2.2.1
                have p178 : SEQ 0 (Int32.toInt r165) (TLD (GB f16 (Int32.toInt x11)) (Int32.toInt x11) (Int32.toInt z45)) (fun v => v = ((Int32.toInt z164), (Int32.toInt z161))) := w166.2.2.2.2.2.2.2.2.2.2.1
                have p179 : (¬ ((Int32.toInt r165) = 0) ∨ ((Int32.toInt z45) < (Int32.toInt z161) ∧ (Int32.toInt z161) ≤ (Int32.toInt x11) ∧ 0 ≤ (Int32.toInt z164))) := w166.2.2.2.2.2.2.2.2.2.2.2.1
                have p180 : (Int32.toInt z45) ≤ (Int32.toInt z161) := w166.2.2.2.2.2.2.2.2.2.2.2.2
                refine r_istore_n 54 C dX10_takeSettings_54 [(2, .int r165), (3, .int z4), (1, .int x11), (0, .ref h0)] (by decide) rfl ?_
                refine r_aload_n 55 3 C dX10_takeSettings_55 rfl ?_
                refine r_iload_n 56 0 C dX10_takeSettings_56 rfl ?_
                refine r_if_ne 57 67 C dX10_takeSettings_57 (by decide) (fun c181 => ?_) (fun c181 => ?_)
                · skip
                  have k182 : ¬ ((Int32.toInt r165) = 0) := fun h_9 => c181 ((fa_eq r165 0).mpr h_9)
                  refine r_aload_n 67 3 C dX10_takeSettings_67 rfl ?_
                  refine r_get 68 C dX10_takeSettings_68 (k := 5) 4 rfl rfl hiX10 (by decide) rfl (mg 3 rfl) (Or.inl rfl) rfl ?_
                  refine r_put 71 C dX10_takeSettings_71 (k := 5) 4 rfl rfl hiX10 tyX10 tyX10_ok nmX10 (by decide) rfl (mg 3 rfl) (Or.inl rfl) rfl rfl rfl rfl (Nat.le_of_ble_eq_true rfl) [(h1, .inr (3, [.ref h2, .ref h7, .ref h3, .ref h8, .int x8, .int x9, .int x10])), (h3, .inr (7, [.ref h2, .ref h5, .ref h6, .int z14, .int x13, .int z15])), (h5, .inl (gI g, 200, .inl f17)), (h6, .inl (gI g, 200, .inl f18)), (h0, .inr (9, [.ref h1, .ref h2, .int z161, .int z162, .int z163, .int z9, .int z10, .int z164, .int z12, .int z13])), (h2, .inr (4, [.ref h4, .int x11])), (h4, .inl (gB g, 1500, .inl f16))] rfl ?_
                  refine r_goto 74 115 C dX10_takeSettings_74 (by decide) ?_
                  obtain ⟨z183, ez183⟩ : ∃ z_9, z4 + Int32.ofInt 1 = z_9 := ⟨_, rfl⟩
                  have tz183 : (Int32.toInt z183) = (Int32.toInt z4) + 1 := by rw [← ez183]; exact fb_addIv (a := 0) (b := 1501) (c := 1) (d := 1) ⟨i23a, i23b⟩ ⟨by decide, by decide⟩ (by decide) (by decide)
                  refine r_iinc 115 1 z183 C dX10_takeSettings_115 rfl ez183 [(3, .int z183), (2, .int r165), (1, .int x11), (0, .ref h0)] (by decide) rfl ?_
                  refine r_goto 118 12 C dX10_takeSettings_118 (by decide) ?_
                  refine r_pick [(h0, .inr (9, [.ref h1, .ref h2, .int z161, .int z162, .int z163, .int z9, .int z10, .int z164, .int z12, .int z13])), (h1, .inr (3, [.ref h2, .ref h7, .ref h3, .ref h8, .int x8, .int x9, .int x10])), (h3, .inr (7, [.ref h2, .ref h5, .ref h6, .int z14, .int x13, .int z15])), (h4, .inl (gB g, 1500, .inl f16)), (h5, .inl (gI g, 200, .inl f17)), (h6, .inl (gI g, 200, .inl f18)), (h2, .inr (4, [.ref h4, .int x11]))] [4, 0, 1, 6, 2, 3, 5] (by decide) rfl ?_
                  exact ih21 z183 r165 z161 z162 z163 z9 z10 z164 z12 z13 z14 z15 f16 f17 f18 ⟨by omega, by omega⟩ ⟨p168, p169⟩ ⟨p170, p171⟩ ⟨p172, p173⟩ ⟨p174, p175⟩ ⟨i28a, i28b⟩ ⟨i29a, i29b⟩ ⟨p176, p177⟩ ⟨i31a, i31b⟩ ⟨i32a, i32b⟩ (by show (¬ ((Int32.toInt r165) = 0) ∨ ((Int32.toInt x0) + (Int32.toInt z183) ≤ (Int32.toInt z161) ∧ (((Int32.toInt z183) = 0 ∧ (Int32.toInt z161) = (Int32.toInt x0)) ∨ (Int32.toInt z161) ≤ (Int32.toInt x11)))); omega) (set_step (show LPQ 0 (Int32.toInt z5) (SET (GB fn0 (Int32.toInt x11)) (Int32.toInt x11) (Int32.toInt x0) 0 0) (SET (GB fn0 (Int32.toInt x11)) (Int32.toInt x11) (Int32.toInt z6) (Int32.toInt z10) (Int32.toInt z14)) True by assumption) (by omega) (show AGR f16 fn0 (Int32.toInt x11) (Int32.toInt z6) by assumption) p59 (by omega) (stp_leniv p67 (by omega) p74 (by omega) p178 (by omega)) (by omega)) (agr_le (show AGR f16 fn0 (Int32.toInt x11) (Int32.toInt z6) by assumption) (by omega)) (by show (¬ ((Int32.toInt r165) = 0) ∨ (Int32.toInt z14) ≤ 200); omega) (show CND ((Int32.toInt r165) = 0) (TSI fn0 (Int32.toInt x11) (Int32.toInt x0) f16 (Int32.toInt z161) (Int32.toInt z10) (Int32.toInt z14) (Int32.toInt z9) f17 f18) from fun h_9 => by first | exact absurd h_9 (by omega) | exact tsi_leniv ((show CND ((Int32.toInt z5) = 0) (TSI fn0 (Int32.toInt x11) (Int32.toInt x0) f16 (Int32.toInt z6) (Int32.toInt z10) (Int32.toInt z14) (Int32.toInt z9) f17 f18) by assumption) (by omega)) (show AGR f16 fn0 (Int32.toInt x11) (Int32.toInt z6) by assumption) (tsi_w (show AGR f16 fn0 (Int32.toInt x11) (Int32.toInt z6) by assumption) p59 (by omega)) p67 (by omega) p74 (by omega) p178 (by omega) h_9) (by show ((Int32.toInt z15) = 0 ∨ (Int32.toInt z15) = (Int32.toInt x14)); omega) (by omega)
                · skip
                  have k184 : (Int32.toInt r165) = 0 := (fa_eq r165 0).mp c181
                  refine r_aload_n 60 3 C dX10_takeSettings_60 rfl ?_
                  refine r_get 61 C dX10_takeSettings_61 (k := 7) 4 rfl rfl hiX10 (by decide) rfl (mg 2 rfl) (Or.inl rfl) rfl ?_
                  refine r_goto 64 71 C dX10_takeSettings_64 (by decide) ?_
                  refine r_put 71 C dX10_takeSettings_71 (k := 5) 4 rfl rfl hiX10 tyX10 tyX10_ok nmX10 (by decide) rfl (mg 3 rfl) (Or.inl rfl) rfl rfl rfl rfl (Nat.le_of_ble_eq_true rfl) [(h1, .inr (3, [.ref h2, .ref h7, .ref h3, .ref h8, .int x8, .int x9, .int x10])), (h3, .inr (7, [.ref h2, .ref h5, .ref h6, .int z14, .int x13, .int z15])), (h5, .inl (gI g, 200, .inl f17)), (h6, .inl (gI g, 200, .inl f18)), (h0, .inr (9, [.ref h1, .ref h2, .int z161, .int z162, .int z163, .int z164, .int z10, .int z164, .int z12, .int z13])), (h2, .inr (4, [.ref h4, .int x11])), (h4, .inl (gB g, 1500, .inl f16))] rfl ?_
                  refine r_goto 74 115 C dX10_takeSettings_74 (by decide) ?_
                  obtain ⟨z185, ez185⟩ : ∃ z_9, z4 + Int32.ofInt 1 = z_9 := ⟨_, rfl⟩
                  have tz185 : (Int32.toInt z185) = (Int32.toInt z4) + 1 := by rw [← ez185]; exact fb_addIv (a := 0) (b := 1501) (c := 1) (d := 1) ⟨i23a, i23b⟩ ⟨by decide, by decide⟩ (by decide) (by decide)
                  refine r_iinc 115 1 z185 C dX10_takeSettings_115 rfl ez185 [(3, .int z185), (2, .int r165), (1, .int x11), (0, .ref h0)] (by decide) rfl ?_
                  refine r_goto 118 12 C dX10_takeSettings_118 (by decide) ?_
                  refine r_pick [(h0, .inr (9, [.ref h1, .ref h2, .int z161, .int z162, .int z163, .int z164, .int z10, .int z164, .int z12, .int z13])), (h1, .inr (3, [.ref h2, .ref h7, .ref h3, .ref h8, .int x8, .int x9, .int x10])), (h3, .inr (7, [.ref h2, .ref h5, .ref h6, .int z14, .int x13, .int z15])), (h4, .inl (gB g, 1500, .inl f16)), (h5, .inl (gI g, 200, .inl f17)), (h6, .inl (gI g, 200, .inl f18)), (h2, .inr (4, [.ref h4, .int x11]))] [4, 0, 1, 6, 2, 3, 5] (by decide) rfl ?_
                  exact ih21 z185 r165 z161 z162 z163 z164 z10 z164 z12 z13 z14 z15 f16 f17 f18 ⟨by omega, by omega⟩ ⟨p168, p169⟩ ⟨p170, p171⟩ ⟨p172, p173⟩ ⟨p174, p175⟩ ⟨p176, p177⟩ ⟨i29a, i29b⟩ ⟨p176, p177⟩ ⟨i31a, i31b⟩ ⟨i32a, i32b⟩ (by show (¬ ((Int32.toInt r165) = 0) ∨ ((Int32.toInt x0) + (Int32.toInt z185) ≤ (Int32.toInt z161) ∧ (((Int32.toInt z185) = 0 ∧ (Int32.toInt z161) = (Int32.toInt x0)) ∨ (Int32.toInt z161) ≤ (Int32.toInt x11)))); omega) (set_step (show LPQ 0 (Int32.toInt z5) (SET (GB fn0 (Int32.toInt x11)) (Int32.toInt x11) (Int32.toInt x0) 0 0) (SET (GB fn0 (Int32.toInt x11)) (Int32.toInt x11) (Int32.toInt z6) (Int32.toInt z10) (Int32.toInt z14)) True by assumption) (by omega) (show AGR f16 fn0 (Int32.toInt x11) (Int32.toInt z6) by assumption) p59 (by omega) (stp_leniv p67 (by omega) p74 (by omega) p178 (by omega)) (by omega)) (agr_le (show AGR f16 fn0 (Int32.toInt x11) (Int32.toInt z6) by assumption) (by omega)) (by show (¬ ((Int32.toInt r165) = 0) ∨ (Int32.toInt z14) ≤ 200); omega) (show CND ((Int32.toInt r165) = 0) (TSI fn0 (Int32.toInt x11) (Int32.toInt x0) f16 (Int32.toInt z161) (Int32.toInt z10) (Int32.toInt z14) (Int32.toInt z164) f17 f18) from fun h_9 => by first | exact absurd h_9 (by omega) | exact tsi_leniv ((show CND ((Int32.toInt z5) = 0) (TSI fn0 (Int32.toInt x11) (Int32.toInt x0) f16 (Int32.toInt z6) (Int32.toInt z10) (Int32.toInt z14) (Int32.toInt z9) f17 f18) by assumption) (by omega)) (show AGR f16 fn0 (Int32.toInt x11) (Int32.toInt z6) by assumption) (tsi_w (show AGR f16 fn0 (Int32.toInt x11) (Int32.toInt z6) by assumption) p59 (by omega)) p67 (by omega) p74 (by omega) p178 (by omega) h_9) (by show ((Int32.toInt z15) = 0 ∨ (Int32.toInt z15) = (Int32.toInt x14)); omega) (by omega)
            · skip
              have k186 : ¬ ((Int32.toInt r63) = 0) := fun h_9 => c68 ((fa_eq r63 0).mpr h_9)
              refine r_iconst 39 0 C dX10_takeSettings_39 (by decide) ?_
              exact r_iret 40 Rt dX10_takeSettings_40 (z45, z46, z47, z9, z10, z11, z12, z13, z14, z15, f16, f17, f18) (show 0 ≤ (Int32.toInt 0) ∧ (Int32.toInt 0) ≤ 2 ∧ 0 ≤ (Int32.toInt z45) ∧ (Int32.toInt z45) ≤ 1500 ∧ 0 ≤ (Int32.toInt z46) ∧ (Int32.toInt z46) ≤ 1500 ∧ 0 ≤ (Int32.toInt z47) ∧ (Int32.toInt z47) ≤ 1500 ∧ -1 ≤ (Int32.toInt z9) ∧ (Int32.toInt z9) ≤ 9999 ∧ 0 ≤ (Int32.toInt z10) ∧ (Int32.toInt z10) ≤ 1 ∧ -1 ≤ (Int32.toInt z11) ∧ (Int32.toInt z11) ≤ 9999 ∧ 0 ≤ (Int32.toInt z12) ∧ (Int32.toInt z12) ≤ 1500 ∧ 0 ≤ (Int32.toInt z13) ∧ (Int32.toInt z13) ≤ 1500 ∧ SEQ 0 0 (SET (GB fn0 (Int32.toInt x11)) (Int32.toInt x11) (Int32.toInt x0) 0 0) (fun v => v = ((Int32.toInt z45), (Int32.toInt z14))) ∧ AGR f16 fn0 (Int32.toInt x11) (Int32.toInt z45) ∧ (¬ (0 = 0) ∨ ((Int32.toInt x0) ≤ (Int32.toInt z45) ∧ (Int32.toInt z45) ≤ (Int32.toInt x11))) ∧ CND (0 = 0) (TSD fn0 (Int32.toInt x11) (Int32.toInt x0) f16 (Int32.toInt z45) (Int32.toInt z14) (Int32.toInt z9) f17 f18) ∧ ((Int32.toInt z15) = 0 ∨ (Int32.toInt z15) = (Int32.toInt x14)) ∧ (¬ (0 = 0) ∨ (Int32.toInt z14) ≤ 200) from ⟨(by ((repeat' apply And.intro) <;> first | trivial | rfl | assumption | omega | decide | exact Or.inl rfl | exact Or.inr (Or.inl rfl) | exact Or.inr (Or.inr rfl))), (by ((repeat' apply And.intro) <;> first | trivial | rfl | assumption | omega | decide | exact Or.inl rfl | exact Or.inr (Or.inl rfl) | exact Or.inr (Or.inr rfl))), (show _ ∧ _ from ⟨p53, p54⟩).1, (show _ ∧ _ from ⟨p53, p54⟩).2, (show _ ∧ _ from ⟨p55, p56⟩).1, (show _ ∧ _ from ⟨p55, p56⟩).2, (show _ ∧ _ from ⟨p57, p58⟩).1, (show _ ∧ _ from ⟨p57, p58⟩).2, (show _ ∧ _ from ⟨i28a, i28b⟩).1, (show _ ∧ _ from ⟨i28a, i28b⟩).2, (show _ ∧ _ from ⟨i29a, i29b⟩).1, (show _ ∧ _ from ⟨i29a, i29b⟩).2, (show _ ∧ _ from ⟨i30a, i30b⟩).1, (show _ ∧ _ from ⟨i30a, i30b⟩).2, (show _ ∧ _ from ⟨i31a, i31b⟩).1, (show _ ∧ _ from ⟨i31a, i31b⟩).2, (show _ ∧ _ from ⟨i32a, i32b⟩).1, (show _ ∧ _ from ⟨i32a, i32b⟩).2, (by first | exact lpq0_no (show LPQ 0 (Int32.toInt z5) (SET (GB fn0 (Int32.toInt x11)) (Int32.toInt x11) (Int32.toInt x0) 0 0) (SET (GB fn0 (Int32.toInt x11)) (Int32.toInt x11) (Int32.toInt z6) (Int32.toInt z10) (Int32.toInt z14)) True by assumption) (by omega) | exact set_none (show LPQ 0 (Int32.toInt z5) (SET (GB fn0 (Int32.toInt x11)) (Int32.toInt x11) (Int32.toInt x0) 0 0) (SET (GB fn0 (Int32.toInt x11)) (Int32.toInt x11) (Int32.toInt z6) (Int32.toInt z10) (Int32.toInt z14)) True by assumption) (by omega) (show AGR f16 fn0 (Int32.toInt x11) (Int32.toInt z6) by assumption) p59 (by omega) (by omega) | exact set_done (show LPQ 0 (Int32.toInt z5) (SET (GB fn0 (Int32.toInt x11)) (Int32.toInt x11) (Int32.toInt x0) 0 0) (SET (GB fn0 (Int32.toInt x11)) (Int32.toInt x11) (Int32.toInt z6) (Int32.toInt z10) (Int32.toInt z14)) True by assumption) (by omega) (show AGR f16 fn0 (Int32.toInt x11) (Int32.toInt z6) by assumption) p59 (by omega) p67 (by omega) (by omega) (by omega) (by omega)), (by exact agr_le (show AGR f16 fn0 (Int32.toInt x11) (Int32.toInt z6) by assumption) (by omega)), (by ((repeat' apply And.intro) <;> first | trivial | rfl | assumption | omega | decide | exact Or.inl rfl | exact Or.inr (Or.inl rfl) | exact Or.inr (Or.inr rfl))), (by first | exact fun h_9 => absurd h_9 (by omega) | exact fun _ => tsi_done ((show CND ((Int32.toInt z5) = 0) (TSI fn0 (Int32.toInt x11) (Int32.toInt x0) f16 (Int32.toInt z6) (Int32.toInt z10) (Int32.toInt z14) (Int32.toInt z9) f17 f18) by assumption) (by omega)) (show AGR f16 fn0 (Int32.toInt x11) (Int32.toInt z6) by assumption) (tsi_w (show AGR f16 fn0 (Int32.toInt x11) (Int32.toInt z6) by assumption) p59 (by omega)) p67 (by omega) (by omega)), (by ((repeat' apply And.intro) <;> first | trivial | rfl | assumption | omega | decide | exact Or.inl rfl | exact Or.inr (Or.inl rfl) | exact Or.inr (Or.inr rfl))), (by ((repeat' apply And.intro) <;> first | trivial | rfl | assumption | omega | decide | exact Or.inl rfl | exact Or.inr (Or.inl rfl) | exact Or.inr (Or.inr rfl)))⟩) [4, 0, 5, 1, 6, 2, 3] (by decide) rfl (Nat.le_of_ble_eq_true rfl) (Nat.le_of_ble_eq_true rfl)
          · skip
            have k187 : (Int32.toInt r48) = 0 := (fa_eq r48 0).mp c61
            refine r_iconst 28 1 C dX10_takeSettings_28 (by decide) ?_
            exact r_iret 29 Rt dX10_takeSettings_29 (z45, z46, z47, z9, z10, z11, z12, z13, z14, z15, f16, f17, f18) (show 0 ≤ (Int32.toInt 1) ∧ (Int32.toInt 1) ≤ 2 ∧ 0 ≤ (Int32.toInt z45) ∧ (Int32.toInt z45) ≤ 1500 ∧ 0 ≤ (Int32.toInt z46) ∧ (Int32.toInt z46) ≤ 1500 ∧ 0 ≤ (Int32.toInt z47) ∧ (Int32.toInt z47) ≤ 1500 ∧ -1 ≤ (Int32.toInt z9) ∧ (Int32.toInt z9) ≤ 9999 ∧ 0 ≤ (Int32.toInt z10) ∧ (Int32.toInt z10) ≤ 1 ∧ -1 ≤ (Int32.toInt z11) ∧ (Int32.toInt z11) ≤ 9999 ∧ 0 ≤ (Int32.toInt z12) ∧ (Int32.toInt z12) ≤ 1500 ∧ 0 ≤ (Int32.toInt z13) ∧ (Int32.toInt z13) ≤ 1500 ∧ SEQ 0 1 (SET (GB fn0 (Int32.toInt x11)) (Int32.toInt x11) (Int32.toInt x0) 0 0) (fun v => v = ((Int32.toInt z45), (Int32.toInt z14))) ∧ AGR f16 fn0 (Int32.toInt x11) (Int32.toInt z45) ∧ (¬ (1 = 0) ∨ ((Int32.toInt x0) ≤ (Int32.toInt z45) ∧ (Int32.toInt z45) ≤ (Int32.toInt x11))) ∧ CND (1 = 0) (TSD fn0 (Int32.toInt x11) (Int32.toInt x0) f16 (Int32.toInt z45) (Int32.toInt z14) (Int32.toInt z9) f17 f18) ∧ ((Int32.toInt z15) = 0 ∨ (Int32.toInt z15) = (Int32.toInt x14)) ∧ (¬ (1 = 0) ∨ (Int32.toInt z14) ≤ 200) from ⟨(by ((repeat' apply And.intro) <;> first | trivial | rfl | assumption | omega | decide | exact Or.inl rfl | exact Or.inr (Or.inl rfl) | exact Or.inr (Or.inr rfl))), (by ((repeat' apply And.intro) <;> first | trivial | rfl | assumption | omega | decide | exact Or.inl rfl | exact Or.inr (Or.inl rfl) | exact Or.inr (Or.inr rfl))), (show _ ∧ _ from ⟨p53, p54⟩).1, (show _ ∧ _ from ⟨p53, p54⟩).2, (show _ ∧ _ from ⟨p55, p56⟩).1, (show _ ∧ _ from ⟨p55, p56⟩).2, (show _ ∧ _ from ⟨p57, p58⟩).1, (show _ ∧ _ from ⟨p57, p58⟩).2, (show _ ∧ _ from ⟨i28a, i28b⟩).1, (show _ ∧ _ from ⟨i28a, i28b⟩).2, (show _ ∧ _ from ⟨i29a, i29b⟩).1, (show _ ∧ _ from ⟨i29a, i29b⟩).2, (show _ ∧ _ from ⟨i30a, i30b⟩).1, (show _ ∧ _ from ⟨i30a, i30b⟩).2, (show _ ∧ _ from ⟨i31a, i31b⟩).1, (show _ ∧ _ from ⟨i31a, i31b⟩).2, (show _ ∧ _ from ⟨i32a, i32b⟩).1, (show _ ∧ _ from ⟨i32a, i32b⟩).2, (by first | exact lpq0_no (show LPQ 0 (Int32.toInt z5) (SET (GB fn0 (Int32.toInt x11)) (Int32.toInt x11) (Int32.toInt x0) 0 0) (SET (GB fn0 (Int32.toInt x11)) (Int32.toInt x11) (Int32.toInt z6) (Int32.toInt z10) (Int32.toInt z14)) True by assumption) (by omega) | exact set_none (show LPQ 0 (Int32.toInt z5) (SET (GB fn0 (Int32.toInt x11)) (Int32.toInt x11) (Int32.toInt x0) 0 0) (SET (GB fn0 (Int32.toInt x11)) (Int32.toInt x11) (Int32.toInt z6) (Int32.toInt z10) (Int32.toInt z14)) True by assumption) (by omega) (show AGR f16 fn0 (Int32.toInt x11) (Int32.toInt z6) by assumption) p59 (by omega) (by omega)), (by exact agr_le (show AGR f16 fn0 (Int32.toInt x11) (Int32.toInt z6) by assumption) (by omega)), (by ((repeat' apply And.intro) <;> first | trivial | rfl | assumption | omega | decide | exact Or.inl rfl | exact Or.inr (Or.inl rfl) | exact Or.inr (Or.inr rfl))), (by first | exact fun h_9 => absurd h_9 (by omega)), (by ((repeat' apply And.intro) <;> first | trivial | rfl | assumption | omega | decide | exact Or.inl rfl | exact Or.inr (Or.inl rfl) | exact Or.inr (Or.inr rfl))), (by ((repeat' apply And.intro) <;> first | trivial | rfl | assumption | omega | decide | exact Or.inl rfl | exact Or.inr (Or.inl rfl) | exact Or.inr (Or.inr rfl)))⟩) [4, 0, 5, 1, 6, 2, 3] (by decide) rfl (Nat.le_of_ble_eq_true rfl) (Nat.le_of_ble_eq_true rfl)
  exact lp20 _ 0 0 x0 x1 x2 x3 x4 x5 x6 x7 x12 x14 fn0 fn1 fn2 (by decide) (by decide) i_x0 i_x1 i_x2 i_x3 i_x4 i_x5 i_x6 i_x7 (by show (¬ ((0 : Int) = 0) ∨ ((Int32.toInt x0) + (0 : Int) ≤ (Int32.toInt x0) ∧ (((0 : Int) = 0 ∧ (Int32.toInt x0) = (Int32.toInt x0)) ∨ (Int32.toInt x0) ≤ (Int32.toInt x11)))); omega) (set_0 (by omega) (by omega)) agr_refl (by show (¬ ((0 : Int) = 0) ∨ (Int32.toInt x12) ≤ 200); omega) (fun _ => tsi_0 (by omega) (by omega) (by omega)) (by show ((Int32.toInt x14) = 0 ∨ (Int32.toInt x14) = (Int32.toInt x14)); omega) (Nat.lt_succ_self _)
set_option maxHeartbeats 4000000 in
set_option maxRecDepth 100000 in
theorem c185_J0_coder_7d493 (l : Launch) (g : GD) (sz : Nat) : Met l yJ0_coder_7d493 wsJ0_coder_7d493 ({ frames := 0, cells := 0, slots := 0, locals := 0 }) (va_Pc [.ref (g.2.2.1 8)] (PW g [] sz)) (va_Qi (fun (r : Int32) (_ : Unit) => r = 0) (BW g (va_A [] sz) (fun _ : Unit => [])) (va_A [] sz)) 0 0 (va_A [] sz) := by
  refine met_b RJ0 (by decide) rfl rfl (Nat.le_of_ble_eq_true rfl) [(0, .ref (g.2.2.1 8))] rfl ?_
  intro p e s m args below meth c A Q C hnm Rt
  refine r_gets 0 C dJ0_coder_7d493_0 C.2.2.2.2.2.1.2.2.2.2.1 (mg 1 rfl) ?_
  refine r_if_eq_f 3 13 C dJ0_coder_7d493_3 (by decide) (by decide) ?_
  refine r_aload_n 6 0 C dJ0_coder_7d493_6 rfl ?_
  refine r_sget 7 8 C dJ0_coder_7d493_7 ((C.2.2.2.2.2.1.2.2.1.1 8 (by decide)).2.1) (mg 2 rfl) ?_
  refine r_goto 10 14 C dJ0_coder_7d493_10 (by decide) ?_
  exact r_bret 14 Rt dJ0_coder_7d493_14 (by decide) () (show 0 = 0 from (by ((repeat' apply And.intro) <;> first | trivial | rfl | assumption | omega | decide | exact Or.inl rfl | exact Or.inr (Or.inl rfl) | exact Or.inr (Or.inr rfl)))) [] (by decide) rfl (Nat.le_of_ble_eq_true rfl) (Nat.le_of_ble_eq_true rfl)
set_option maxHeartbeats 4000000 in
set_option maxRecDepth 100000 in
theorem c186_J0_length_8abf5 (l : Launch) (g : GD) (sz : Nat) : Met l yJ0_length_8abf5 wsJ0_length_8abf5 ({ frames := 1, cells := 0, slots := 0, locals := 20 }) (va_Pc [.ref (g.2.2.1 8)] (PW g [] sz)) (va_Qi (fun (r : Int32) (_ : Unit) => r = 3) (BW g (va_A [] sz) (fun _ : Unit => [])) (va_A [] sz)) 0 0 (va_A [] sz) := by
  refine met_i RJ0 (by decide) rfl rfl (Nat.le_of_ble_eq_true rfl) [(0, .ref (g.2.2.1 8))] rfl ?_
  intro p e s m args below meth c A Q C hnm Rt
  refine r_aload_n 0 0 C dJ0_length_8abf5_0 rfl ?_
  refine r_sget 1 8 C dJ0_length_8abf5_1 ((C.2.2.2.2.2.1.2.2.1.1 8 (by decide)).2.2.1) (mg 1 rfl) ?_
  refine r_stlen 4 3 C dJ0_length_8abf5_4 ((C.2.2.2.2.2.1.2.2.1.1 8 (by decide)).2.2.2) (by decide) ?_
  refine r_aload_n 5 0 C dJ0_length_8abf5_5 rfl ?_
  refine r_scallVi 6 C dJ0_length_8abf5_6 [.int 3] 8 (by decide) [] [] (fun sz => c185_J0_coder_7d493 l g   sz) gJ0_length_8abf5_J0_coder_7d493 rfl ⟨rfl, rfl⟩ 0 (by decide) ⟨Nat.le_of_ble_eq_true rfl, Nat.le_of_ble_eq_true rfl⟩ [] [] rfl rfl (by decide) (by decide) (by decide) rfl rfl (Nat.le_of_ble_eq_true rfl) ⟨Nat.le_of_ble_eq_true rfl, Nat.le_of_ble_eq_true rfl⟩ (fun r1 _ w2 => ?_)
  refine r_ws [] rfl ?_
  have p3 : 0 = r1 := (w2).symm
  subst p3
  refine r_ishr 9 3 C dJ0_length_8abf5_9 (by decide) ?_
  exact r_iret 10 Rt dJ0_length_8abf5_10 () (show 3 = 3 from (by ((repeat' apply And.intro) <;> first | trivial | rfl | assumption | omega | decide | exact Or.inl rfl | exact Or.inr (Or.inl rfl) | exact Or.inr (Or.inr rfl)))) [] (by decide) rfl (Nat.le_of_ble_eq_true rfl) (Nat.le_of_ble_eq_true rfl)
set_option maxHeartbeats 4000000 in
set_option maxRecDepth 100000 in
theorem c187_J0_isLatin1_aae02 (l : Launch) (g : GD) (sz : Nat) : Met l yJ0_isLatin1_aae02 wsJ0_isLatin1_aae02 ({ frames := 0, cells := 0, slots := 0, locals := 0 }) (va_Pc [.ref (g.2.2.1 8)] (PW g [] sz)) (va_Qi (fun (r : Int32) (_ : Unit) => r = 1) (BW g (va_A [] sz) (fun _ : Unit => [])) (va_A [] sz)) 0 0 (va_A [] sz) := by
  refine met_z RJ0 (by decide) rfl rfl (Nat.le_of_ble_eq_true rfl) [(0, .ref (g.2.2.1 8))] rfl ?_
  intro p e s m args below meth c A Q C hnm Rt
  refine r_gets 0 C dJ0_isLatin1_aae02_0 C.2.2.2.2.2.1.2.2.2.2.1 (mg 1 rfl) ?_
  refine r_if_eq_f 3 17 C dJ0_isLatin1_aae02_3 (by decide) (by decide) ?_
  refine r_aload_n 6 0 C dJ0_isLatin1_aae02_6 rfl ?_
  refine r_sget 7 8 C dJ0_isLatin1_aae02_7 ((C.2.2.2.2.2.1.2.2.1.1 8 (by decide)).2.1) (mg 2 rfl) ?_
  refine r_if_ne_f 10 17 C dJ0_isLatin1_aae02_10 (by decide) (by decide) ?_
  refine r_iconst 13 1 C dJ0_isLatin1_aae02_13 (by decide) ?_
  refine r_goto 14 18 C dJ0_isLatin1_aae02_14 (by decide) ?_
  exact r_zret 18 Rt dJ0_isLatin1_aae02_18 (by decide) () (show 1 = 1 from (by ((repeat' apply And.intro) <;> first | trivial | rfl | assumption | omega | decide | exact Or.inl rfl | exact Or.inr (Or.inl rfl) | exact Or.inr (Or.inr rfl)))) [] (by decide) rfl (Nat.le_of_ble_eq_true rfl) (Nat.le_of_ble_eq_true rfl)
set_option maxHeartbeats 4000000 in
set_option maxRecDepth 100000 in
theorem c188_J1_charAt_3b067 (l : Launch) (g : GD) (x0 : Int32) (i_x0 : (0 ≤ (Int32.toInt x0) ∧ (Int32.toInt x0) ≤ 2)) (sz : Nat) : Met l yJ1_charAt_3b067 wsJ1_charAt_3b067 ({ frames := 2, cells := 0, slots := 0, locals := 43 }) (va_Pc [.ref (g.2.2.2 8), .int x0] (PW g [] sz)) (va_Qi (fun (r : Int32) (_ : Unit) => 0 ≤ (Int32.toInt r) ∧ (Int32.toInt r) ≤ 65535 ∧ CHA wOver (Int32.toInt x0) (Int32.toInt r)) (BW g (va_A [] sz) (fun _ : Unit => [])) (va_A [] sz)) 0 0 (va_A [] sz) := by
  refine met_c RJ1 (by decide) rfl rfl (Nat.le_of_ble_eq_true rfl) [(0, .ref (g.2.2.2 8)), (1, .int x0)] rfl ?_
  intro p e s m args below meth c A Q C hnm Rt
  refine r_iload_n 0 1 C dJ1_charAt_3b067_0 rfl ?_
  refine r_aload_n 1 0 C dJ1_charAt_3b067_1 rfl ?_
  refine r_stlen 2 3 C dJ1_charAt_3b067_2 ((C.2.2.2.2.2.1.2.2.1.1 8 (by decide)).2.2.2) (by decide) ?_
  refine r_callSv 3 C dJ1_charAt_3b067_3 [] [] [] (fun sz => c148_J0_checkIndex_df160 l g x0 i_x0 sz) gJ1_charAt_3b067_J0_checkIndex_df160 rfl ⟨rfl, rfl⟩ 2 (by decide) ⟨Nat.le_of_ble_eq_true rfl, Nat.le_of_ble_eq_true rfl⟩ [] [] rfl rfl (by decide) (by decide) (by decide) rfl rfl (Nat.le_of_ble_eq_true rfl) ⟨Nat.le_of_ble_eq_true rfl, Nat.le_of_ble_eq_true rfl⟩ (fun  _ w1 => ?_)
  refine r_ws [] rfl ?_
  refine r_aload_n 6 0 C dJ1_charAt_3b067_6 rfl ?_
  refine r_iload_n 7 1 C dJ1_charAt_3b067_7 rfl ?_
  obtain ⟨z2, ez2⟩ : ∃ z_9, (stB.getD 8 []).getD (Int32.toNatClampNeg x0) 0 = z_9 := ⟨_, rfl⟩
  refine r_stb 8 (.int z2) C dJ1_charAt_3b067_8 ((C.2.2.2.2.2.1.2.2.1.1 8 (by decide)).2.2.2) (vinI (n := 3) (by omega) (by omega)) (by rw [← ez2]) ?_
  have gz2 := fb_rng z2
  refine r_sipush 9 255 C dJ1_charAt_3b067_9 (by decide) ?_
  obtain ⟨z3, ez3⟩ : ∃ z_9, z2 &&& 255 = z_9 := ⟨_, rfl⟩
  have tz3 : 0 ≤ (Int32.toInt z3) ∧ (Int32.toInt z3) ≤ 255 := by rw [← ez3]; exact and_255 z2
  refine r_iand 12 z3 C dJ1_charAt_3b067_12 ez3 ?_
  obtain ⟨z4, ez4⟩ : ∃ z_9, (Int32.toUInt32 z3 % 65536).toInt32 = z_9 := ⟨_, rfl⟩
  have tz4 : 0 ≤ (Int32.toInt z4) ∧ (Int32.toInt z4) ≤ 65535 := by rw [← ez4]; exact chr_in _
  refine r_i2c 13 z4 C dJ1_charAt_3b067_13 ez4 ?_
  exact r_cret 14 Rt dJ1_charAt_3b067_14 (by rw [← ez4]; exact pk_nc _) () (show 0 ≤ (Int32.toInt z4) ∧ (Int32.toInt z4) ≤ 65535 ∧ CHA wOver (Int32.toInt x0) (Int32.toInt z4) from ⟨(by ((repeat' apply And.intro) <;> first | trivial | rfl | assumption | omega | decide | exact Or.inl rfl | exact Or.inr (Or.inl rfl) | exact Or.inr (Or.inr rfl))), (by ((repeat' apply And.intro) <;> first | trivial | rfl | assumption | omega | decide | exact Or.inl rfl | exact Or.inr (Or.inl rfl) | exact Or.inr (Or.inr rfl))), (by have h_9 : ∀ j, j < 3 → Int32.toInt ((Int32.toUInt32 ((stB.getD 8 []).getD j 0 &&& 255) % 65536).toInt32) = wOver.getD j 0 := (by decide); subst_vars; exact h_9 _ (show (Int32.toInt x0).toNat < 3 by omega))⟩) [] (by decide) rfl (Nat.le_of_ble_eq_true rfl) (Nat.le_of_ble_eq_true rfl)
set_option maxHeartbeats 4000000 in
set_option maxRecDepth 100000 in
theorem c189_J0_charAt_5068e (l : Launch) (g : GD) (x0 : Int32) (i_x0 : (0 ≤ (Int32.toInt x0) ∧ (Int32.toInt x0) ≤ 2)) (sz : Nat) : Met l yJ0_charAt_5068e wsJ0_charAt_5068e ({ frames := 3, cells := 0, slots := 0, locals := 64 }) (va_Pc [.ref (g.2.2.1 8), .int x0] (PW g [] sz)) (va_Qi (fun (r : Int32) (_ : Unit) => 0 ≤ (Int32.toInt r) ∧ (Int32.toInt r) ≤ 65535 ∧ CHA wOver (Int32.toInt x0) (Int32.toInt r)) (BW g (va_A [] sz) (fun _ : Unit => [])) (va_A [] sz)) 0 0 (va_A [] sz) := by
  refine met_c RJ0 (by decide) rfl rfl (Nat.le_of_ble_eq_true rfl) [(0, .ref (g.2.2.1 8)), (1, .int x0)] rfl ?_
  intro p e s m args below meth c A Q C hnm Rt
  refine r_aload_n 0 0 C dJ0_charAt_5068e_0 rfl ?_
  refine r_scallVi 1 C dJ0_charAt_5068e_1 [] 8 (by decide) [] [] (fun sz => c187_J0_isLatin1_aae02 l g   sz) gJ0_charAt_5068e_J0_isLatin1_aae02 rfl ⟨rfl, rfl⟩ 0 (by decide) ⟨Nat.le_of_ble_eq_true rfl, Nat.le_of_ble_eq_true rfl⟩ [] [] rfl rfl (by decide) (by decide) (by decide) rfl rfl (Nat.le_of_ble_eq_true rfl) ⟨Nat.le_of_ble_eq_true rfl, Nat.le_of_ble_eq_true rfl⟩ (fun r1 _ w2 => ?_)
  refine r_ws [] rfl ?_
  have p3 : 1 = r1 := (w2).symm
  subst p3
  refine r_if_eq_f 4 16 C dJ0_charAt_5068e_4 (by decide) (by decide) ?_
  refine r_aload_n 7 0 C dJ0_charAt_5068e_7 rfl ?_
  refine r_sget 8 8 C dJ0_charAt_5068e_8 ((C.2.2.2.2.2.1.2.2.1.1 8 (by decide)).2.2.1) (mg 1 rfl) ?_
  refine r_iload_n 11 1 C dJ0_charAt_5068e_11 rfl ?_
  refine r_callSi 12 C dJ0_charAt_5068e_12 [] [] [] (fun sz => c188_J1_charAt_3b067 l g x0 i_x0 sz) gJ0_charAt_5068e_J1_charAt_3b067 rfl ⟨rfl, rfl⟩ 2 (by decide) ⟨Nat.le_of_ble_eq_true rfl, Nat.le_of_ble_eq_true rfl⟩ [] [] rfl rfl (by decide) (by decide) (by decide) rfl rfl (Nat.le_of_ble_eq_true rfl) ⟨Nat.le_of_ble_eq_true rfl, Nat.le_of_ble_eq_true rfl⟩ (fun r4 _ w5 => ?_)
  refine r_ws [] rfl ?_
  have p6 : 0 ≤ (Int32.toInt r4) := w5.1
  have p7 : (Int32.toInt r4) ≤ 65535 := w5.2.1
  have p8 : CHA wOver (Int32.toInt x0) (Int32.toInt r4) := w5.2.2
  exact r_cret 15 Rt dJ0_charAt_5068e_15 (nc_in (by omega) (by omega)) () (show 0 ≤ (Int32.toInt r4) ∧ (Int32.toInt r4) ≤ 65535 ∧ CHA wOver (Int32.toInt x0) (Int32.toInt r4) from ⟨(show _ ∧ _ from ⟨p6, p7⟩).1, (show _ ∧ _ from ⟨p6, p7⟩).2, (by exact p8)⟩) [] (by decide) rfl (Nat.le_of_ble_eq_true rfl) (Nat.le_of_ble_eq_true rfl)
set_option maxHeartbeats 4000000 in
set_option maxRecDepth 100000 in
theorem c190_X10_isAt (l : Launch) (g : GD) (h0 : Nat) (h1 : Nat) (x0 : Int32) (x1 : Int32) (fn0 : Nat → Int32) (i_x0 : (0 ≤ (Int32.toInt x0) ∧ (Int32.toInt x0) ≤ 1500)) (i_x1 : (0 ≤ (Int32.toInt x1) ∧ (Int32.toInt x1) ≤ 1500)) (sz : Nat) : Met l yX10_isAt wsX10_isAt ({ frames := 4, cells := 0, slots := 0, locals := 85 }) (va_Pc [.ref h0, .int x0, .ref (g.2.2.1 8)] (PW g [(h0, .inr (4, [.ref h1, .int x1])), (h1, .inl (gB g, 1500, .inl fn0))] sz)) (va_Qi (fun (r : Int32) (_ : Unit) => 0 ≤ (Int32.toInt r) ∧ (Int32.toInt r) ≤ 1 ∧ ISB (Int32.toInt r) (WAT (GB fn0 (Int32.toInt x1)) (Int32.toInt x0) wOver)) (BW g (va_A [(h0, .inr (4, [.ref h1, .int x1])), (h1, .inl (gB g, 1500, .inl fn0))] sz) (fun _ : Unit => [(h0, .inr (4, [.ref h1, .int x1])), (h1, .inl (gB g, 1500, .inl fn0))])) (va_A [(h0, .inr (4, [.ref h1, .int x1])), (h1, .inl (gB g, 1500, .inl fn0))] sz)) 0 0 (va_A [(h0, .inr (4, [.ref h1, .int x1])), (h1, .inl (gB g, 1500, .inl fn0))] sz) := by
  refine met_z RX10 (by decide) rfl rfl (Nat.le_of_ble_eq_true rfl) [(0, .ref h0), (1, .int x0), (2, .ref (g.2.2.1 8))] rfl ?_
  intro p e s m args below meth c A Q C hnm Rt
  refine r_iconst 0 0 C dX10_isAt_0 (by decide) ?_
  refine r_istore_n 1 C dX10_isAt_1 [(3, .int 0), (0, .ref h0), (1, .int x0), (2, .ref (g.2.2.1 8))] (by decide) rfl ?_
  have lp3 : ∀ (n2 : Nat) (z1 : Int32), (0 ≤ (Int32.toInt z1) ∧ (Int32.toInt z1) ≤ 3) → (WPF (GB fn0 (Int32.toInt x1)) (Int32.toInt x0) wOver (Int32.toInt z1)) → Int.toNat (3 - (Int32.toInt z1)) < n2 → WW p l e ({ frames := 4, cells := 0, slots := 0, locals := 85 } : Room) s m args below meth c A Q g 4 0 0 [(h0, .inr (4, [.ref h1, .int x1])), (h1, .inl (gB g, 1500, .inl fn0))] 2 [(3, .int z1), (0, .ref h0), (1, .int x0), (2, .ref (g.2.2.1 8))] [] := by
    intro n2
    induction n2 with
    | zero => intro z1 i6 j7 hm5; exact absurd hm5 (Nat.not_lt_zero _)
    | succ n2 ih4 =>
      intro z1 i6 j7 hm5
      obtain ⟨i6a, i6b⟩ := i6
      refine r_iload_n 2 0 C dX10_isAt_2 rfl ?_
      refine r_aload_n 3 3 C dX10_isAt_3 rfl ?_
      refine r_scallVi 4 C dX10_isAt_4 [.int z1] 8 (by decide) [] [(h0, .inr (4, [.ref h1, .int x1])), (h1, .inl (gB g, 1500, .inl fn0))] (fun sz => c186_J0_length_8abf5 l g   sz) gX10_isAt_J0_length_8abf5 rfl ⟨rfl, rfl⟩ 0 (by decide) ⟨Nat.le_of_ble_eq_true rfl, Nat.le_of_ble_eq_true rfl⟩ [] [0, 1] rfl rfl (by decide) (by decide) (by decide) rfl rfl (Nat.le_of_ble_eq_true rfl) ⟨Nat.le_of_ble_eq_true rfl, Nat.le_of_ble_eq_true rfl⟩ (fun r8 _ w9 => ?_)
      refine r_ws [(h0, .inr (4, [.ref h1, .int x1])), (h1, .inl (gB g, 1500, .inl fn0))] rfl ?_
      have p10 : 3 = r8 := (w9).symm
      subst p10
      refine r_icmp_ge 7 34 C dX10_isAt_7 (by decide) (fun c11 => ?_) (fun c11 => ?_)
      · skip
        have k12 : 3 ≤ (Int32.toInt z1) := (fa_le 3 z1).mp c11
        refine r_iconst 34 1 C dX10_isAt_34 (by decide) ?_
        exact r_zret 35 Rt dX10_isAt_35 (by decide) () (show 0 ≤ (Int32.toInt 1) ∧ (Int32.toInt 1) ≤ 1 ∧ ISB 1 (WAT (GB fn0 (Int32.toInt x1)) (Int32.toInt x0) wOver) from ⟨(by ((repeat' apply And.intro) <;> first | trivial | rfl | assumption | omega | decide | exact Or.inl rfl | exact Or.inr (Or.inl rfl) | exact Or.inr (Or.inr rfl))), (by ((repeat' apply And.intro) <;> first | trivial | rfl | assumption | omega | decide | exact Or.inl rfl | exact Or.inr (Or.inl rfl) | exact Or.inr (Or.inr rfl))), (by first | exact wat_yes (show WPF (GB fn0 (Int32.toInt x1)) (Int32.toInt x0) wOver (Int32.toInt z1) by assumption) (show (3 : Int) ≤ _ by omega))⟩) [0, 1] (by decide) rfl (Nat.le_of_ble_eq_true rfl) (Nat.le_of_ble_eq_true rfl)
      · skip
        have k13 : ¬ (3 ≤ (Int32.toInt z1)) := fun h_9 => c11 ((fa_le 3 z1).mpr h_9)
        refine r_aload_n 10 1 C dX10_isAt_10 rfl ?_
        refine r_iload_n 11 2 C dX10_isAt_11 rfl ?_
        refine r_iload_n 12 0 C dX10_isAt_12 rfl ?_
        obtain ⟨z14, ez14⟩ : ∃ z_9, x0 + z1 = z_9 := ⟨_, rfl⟩
        have tz14 : (Int32.toInt z14) = (Int32.toInt x0) + (Int32.toInt z1) := by rw [← ez14]; exact fb_addIv (a := 0) (b := 1500) (c := 0) (d := 3) i_x0 ⟨i6a, i6b⟩ (by decide) (by decide)
        refine r_iadd 13 z14 C dX10_isAt_13 ez14 ?_
        obtain ⟨z15, ez15⟩ : ∃ z_9, Int32.toInt64 z14 = z_9 := ⟨_, rfl⟩
        have tz15 : (Int64.toInt z15) = (Int32.toInt z14) := by rw [← ez15]; exact Int32.toInt_toInt64 _
        refine r_i2l 14 z15 C dX10_isAt_14 ez15 ?_
        refine r_callVi 15 C dX10_isAt_15 [] [(h0, .inr (4, [.ref h1, .int x1])), (h1, .inl (gB g, 1500, .inl fn0))] [] (fun sz => c14_X5_get l g h0 h1 z15 x1 fn0 i_x1 sz) gX10_isAt_X5_get rfl ⟨rfl, rfl⟩ 1 (by decide) ⟨Nat.le_of_ble_eq_true rfl, Nat.le_of_ble_eq_true rfl⟩ 0 rfl rfl [0, 1] [] rfl rfl (by decide) (by decide) (by decide) rfl rfl (Nat.le_of_ble_eq_true rfl) ⟨Nat.le_of_ble_eq_true rfl, Nat.le_of_ble_eq_true rfl⟩ (fun r16 _ w17 => ?_)
        refine r_ws [(h0, .inr (4, [.ref h1, .int x1])), (h1, .inl (gB g, 1500, .inl fn0))] rfl ?_
        have p18 : -1 ≤ (Int32.toInt r16) := w17.1
        have p19 : (Int32.toInt r16) ≤ 255 := w17.2.1
        have p20 : HID ((0 ≤ (Int64.toInt z15) ∧ (Int64.toInt z15) < (Int32.toInt x1) ∧ r16 = (fn0 (Int.toNat (Int64.toInt z15)) &&& 255)) ∨ (((Int64.toInt z15) < 0 ∨ (Int32.toInt x1) ≤ (Int64.toInt z15)) ∧ r16 = -1)) := w17.2.2.1
        have p21 : (Int32.toInt r16) = GB fn0 (Int32.toInt x1) (Int64.toInt z15) := w17.2.2.2
        refine r_aload_n 18 3 C dX10_isAt_18 rfl ?_
        refine r_iload_n 19 0 C dX10_isAt_19 rfl ?_
        refine r_scallVi 20 C dX10_isAt_20 [.int r16] 8 (by decide) [] [(h0, .inr (4, [.ref h1, .int x1])), (h1, .inl (gB g, 1500, .inl fn0))] (fun sz => c189_J0_charAt_5068e l g z1 ⟨by omega, by omega⟩ sz) gX10_isAt_J0_charAt_5068e rfl ⟨rfl, rfl⟩ 1 (by decide) ⟨Nat.le_of_ble_eq_true rfl, Nat.le_of_ble_eq_true rfl⟩ [] [0, 1] rfl rfl (by decide) (by decide) (by decide) rfl rfl (Nat.le_of_ble_eq_true rfl) ⟨Nat.le_of_ble_eq_true rfl, Nat.le_of_ble_eq_true rfl⟩ (fun r22 _ w23 => ?_)
        refine r_ws [(h0, .inr (4, [.ref h1, .int x1])), (h1, .inl (gB g, 1500, .inl fn0))] rfl ?_
        have p24 : 0 ≤ (Int32.toInt r22) := w23.1
        have p25 : (Int32.toInt r22) ≤ 65535 := w23.2.1
        have p26 : CHA wOver (Int32.toInt z1) (Int32.toInt r22) := w23.2.2
        refine r_icmp_eq 23 28 C dX10_isAt_23 (by decide) (fun c27 => ?_) (fun c27 => ?_)
        · skip
          have k28 : (Int32.toInt r16) = (Int32.toInt r22) := (fa_eq r16 r22).mp c27
          obtain ⟨z29, ez29⟩ : ∃ z_9, z1 + Int32.ofInt 1 = z_9 := ⟨_, rfl⟩
          have tz29 : (Int32.toInt z29) = (Int32.toInt z1) + 1 := by rw [← ez29]; exact fb_addIv (a := 0) (b := 3) (c := 1) (d := 1) ⟨i6a, i6b⟩ ⟨by decide, by decide⟩ (by decide) (by decide)
          refine r_iinc 28 0 z29 C dX10_isAt_28 rfl ez29 [(3, .int z29), (0, .ref h0), (1, .int x0), (2, .ref (g.2.2.1 8))] (by decide) rfl ?_
          refine r_goto 31 2 C dX10_isAt_31 (by decide) ?_
          exact ih4 z29 ⟨by omega, by omega⟩ (wpf_step (show WPF (GB fn0 (Int32.toInt x1)) (Int32.toInt x0) wOver (Int32.toInt z1) by assumption) (by omega) (by omega) p21 (by omega) p26 (by omega)) (by omega)
        · skip
          have k30 : ¬ ((Int32.toInt r16) = (Int32.toInt r22)) := fun h_9 => c27 ((fa_eq r16 r22).mpr h_9)
          refine r_iconst 26 0 C dX10_isAt_26 (by decide) ?_
          exact r_zret 27 Rt dX10_isAt_27 (by decide) () (show 0 ≤ (Int32.toInt 0) ∧ (Int32.toInt 0) ≤ 1 ∧ ISB 0 (WAT (GB fn0 (Int32.toInt x1)) (Int32.toInt x0) wOver) from ⟨(by ((repeat' apply And.intro) <;> first | trivial | rfl | assumption | omega | decide | exact Or.inl rfl | exact Or.inr (Or.inl rfl) | exact Or.inr (Or.inr rfl))), (by ((repeat' apply And.intro) <;> first | trivial | rfl | assumption | omega | decide | exact Or.inl rfl | exact Or.inr (Or.inl rfl) | exact Or.inr (Or.inr rfl))), (by first | exact wat_yes (show WPF (GB fn0 (Int32.toInt x1)) (Int32.toInt x0) wOver (Int32.toInt z1) by assumption) (show (3 : Int) ≤ _ by omega) | exact wat_no (by omega) (show _ < (3 : Int) by omega) p21 (by omega) p26 (by omega))⟩) [0, 1] (by decide) rfl (Nat.le_of_ble_eq_true rfl) (Nat.le_of_ble_eq_true rfl)
  exact lp3 _ 0 (by decide) wpf_0 (Nat.lt_succ_self _)
set_option maxHeartbeats 4000000 in
set_option maxRecDepth 100000 in
theorem c191_X10_isWord (l : Launch) (g : GD) (h0 : Nat) (h1 : Nat) (h2 : Nat) (h3 : Nat) (x0 : Int32) (x1 : Int32) (x2 : Int32) (x3 : Int32) (x4 : Int32) (x5 : Int32) (x6 : Int32) (x7 : Int32) (x8 : Int32) (fn0 : Nat → Int32) (i_x0 : (0 ≤ (Int32.toInt x0) ∧ (Int32.toInt x0) ≤ 1500)) (i_x1 : (0 ≤ (Int32.toInt x1) ∧ (Int32.toInt x1) ≤ 1500)) (i_x2 : (0 ≤ (Int32.toInt x2) ∧ (Int32.toInt x2) ≤ 1500)) (i_x3 : (-1 ≤ (Int32.toInt x3) ∧ (Int32.toInt x3) ≤ 9999)) (i_x4 : (0 ≤ (Int32.toInt x4) ∧ (Int32.toInt x4) ≤ 1)) (i_x5 : (-1 ≤ (Int32.toInt x5) ∧ (Int32.toInt x5) ≤ 9999)) (i_x6 : (0 ≤ (Int32.toInt x6) ∧ (Int32.toInt x6) ≤ 1500)) (i_x7 : (0 ≤ (Int32.toInt x7) ∧ (Int32.toInt x7) ≤ 1500)) (i_x8 : (0 ≤ (Int32.toInt x8) ∧ (Int32.toInt x8) ≤ 1500)) (sz : Nat) : Met l yX10_isWord wsX10_isWord ({ frames := 5, cells := 0, slots := 0, locals := 108 }) (va_Pc [.ref h0, .ref (g.2.2.1 8)] (PW g [(h0, .inr (9, [.ref h3, .ref h1, .int x0, .int x1, .int x2, .int x3, .int x4, .int x5, .int x6, .int x7])), (h1, .inr (4, [.ref h2, .int x8])), (h2, .inl (gB g, 1500, .inl fn0))] sz)) (va_Qi (fun (r : Int32) (_ : Unit) => 0 ≤ (Int32.toInt r) ∧ (Int32.toInt r) ≤ 1 ∧ ISB (Int32.toInt r) (IW (GB fn0 (Int32.toInt x8)) (Int32.toInt x1) (Int32.toInt x2) wOver)) (BW g (va_A [(h0, .inr (9, [.ref h3, .ref h1, .int x0, .int x1, .int x2, .int x3, .int x4, .int x5, .int x6, .int x7])), (h1, .inr (4, [.ref h2, .int x8])), (h2, .inl (gB g, 1500, .inl fn0))] sz) (fun _ : Unit => [(h0, .inr (9, [.ref h3, .ref h1, .int x0, .int x1, .int x2, .int x3, .int x4, .int x5, .int x6, .int x7])), (h1, .inr (4, [.ref h2, .int x8])), (h2, .inl (gB g, 1500, .inl fn0))])) (va_A [(h0, .inr (9, [.ref h3, .ref h1, .int x0, .int x1, .int x2, .int x3, .int x4, .int x5, .int x6, .int x7])), (h1, .inr (4, [.ref h2, .int x8])), (h2, .inl (gB g, 1500, .inl fn0))] sz)) 0 0 (va_A [(h0, .inr (9, [.ref h3, .ref h1, .int x0, .int x1, .int x2, .int x3, .int x4, .int x5, .int x6, .int x7])), (h1, .inr (4, [.ref h2, .int x8])), (h2, .inl (gB g, 1500, .inl fn0))] sz) := by
  refine met_z RX10 (by decide) rfl rfl (Nat.le_of_ble_eq_true rfl) [(0, .ref h0), (1, .ref (g.2.2.1 8))] rfl ?_
  intro p e s m args below meth c A Q C hnm Rt
  have hiX10 : ∀ w ∈ wsX100, w ∈ wsX10_isWord := fun w h => List.mem_cons_of_mem _ (List.mem_append_left _ (List.mem_append_right _ (h)))
  refine r_aload_n 0 0 C dX10_isWord_0 rfl ?_
  refine r_get 1 C dX10_isWord_1 (k := 4) 0 rfl rfl hiX10 (by decide) rfl (mg 1 rfl) (Or.inl rfl) rfl ?_
  refine r_aload_n 4 0 C dX10_isWord_4 rfl ?_
  refine r_get 5 C dX10_isWord_5 (k := 3) 0 rfl rfl hiX10 (by decide) rfl (mg 2 rfl) (Or.inl rfl) rfl ?_
  obtain ⟨z1, ez1⟩ : ∃ z_9, x2 - x1 = z_9 := ⟨_, rfl⟩
  have tz1 : (Int32.toInt z1) = (Int32.toInt x2) - (Int32.toInt x1) := by rw [← ez1]; exact fb_subIv (a := 0) (b := 1500) (c := 0) (d := 1500) i_x2 i_x1 (by decide) (by decide)
  refine r_isub 8 z1 C dX10_isWord_8 ez1 ?_
  refine r_aload_n 9 1 C dX10_isWord_9 rfl ?_
  refine r_scallVi 10 C dX10_isWord_10 [.int z1] 8 (by decide) [] [(h0, .inr (9, [.ref h3, .ref h1, .int x0, .int x1, .int x2, .int x3, .int x4, .int x5, .int x6, .int x7])), (h1, .inr (4, [.ref h2, .int x8])), (h2, .inl (gB g, 1500, .inl fn0))] (fun sz => c186_J0_length_8abf5 l g   sz) gX10_isWord_J0_length_8abf5 rfl ⟨rfl, rfl⟩ 0 (by decide) ⟨Nat.le_of_ble_eq_true rfl, Nat.le_of_ble_eq_true rfl⟩ [] [0, 1, 2] rfl rfl (by decide) (by decide) (by decide) rfl rfl (Nat.le_of_ble_eq_true rfl) ⟨Nat.le_of_ble_eq_true rfl, Nat.le_of_ble_eq_true rfl⟩ (fun r2 _ w3 => ?_)
  refine r_ws [(h0, .inr (9, [.ref h3, .ref h1, .int x0, .int x1, .int x2, .int x3, .int x4, .int x5, .int x6, .int x7])), (h1, .inr (4, [.ref h2, .int x8])), (h2, .inl (gB g, 1500, .inl fn0))] rfl ?_
  have p4 : 3 = r2 := (w3).symm
  subst p4
  refine r_icmp_ne 13 35 C dX10_isWord_13 (by decide) (fun c5 => ?_) (fun c5 => ?_)
  · skip
    have k6 : ¬ ((Int32.toInt z1) = 3) := fun h_9 => c5 ((fa_eq z1 3).mpr h_9)
    refine r_iconst 35 0 C dX10_isWord_35 (by decide) ?_
    exact r_zret 36 Rt dX10_isWord_36 (by decide) () (show 0 ≤ (Int32.toInt 0) ∧ (Int32.toInt 0) ≤ 1 ∧ ISB 0 (IW (GB fn0 (Int32.toInt x8)) (Int32.toInt x1) (Int32.toInt x2) wOver) from ⟨(by ((repeat' apply And.intro) <;> first | trivial | rfl | assumption | omega | decide | exact Or.inl rfl | exact Or.inr (Or.inl rfl) | exact Or.inr (Or.inr rfl))), (by ((repeat' apply And.intro) <;> first | trivial | rfl | assumption | omega | decide | exact Or.inl rfl | exact Or.inr (Or.inl rfl) | exact Or.inr (Or.inr rfl))), (by exact Or.inr ⟨by first | rfl | omega, fun h_9 => absurd h_9.1 (show ¬ (_ = (3 : Int)) by omega)⟩)⟩) [0, 1, 2] (by decide) rfl (Nat.le_of_ble_eq_true rfl) (Nat.le_of_ble_eq_true rfl)
  · skip
    have k7 : (Int32.toInt z1) = 3 := (fa_eq z1 3).mp c5
    refine r_aload_n 16 0 C dX10_isWord_16 rfl ?_
    refine r_get 17 C dX10_isWord_17 (k := 1) 0 rfl rfl hiX10 (by decide) rfl (mg 3 rfl) (Or.inl rfl) rfl ?_
    refine r_aload_n 20 0 C dX10_isWord_20 rfl ?_
    refine r_get 21 C dX10_isWord_21 (k := 3) 0 rfl rfl hiX10 (by decide) rfl (mg 2 rfl) (Or.inl rfl) rfl ?_
    refine r_aload_n 24 1 C dX10_isWord_24 rfl ?_
    refine r_callSi 25 C dX10_isWord_25 [] [(h1, .inr (4, [.ref h2, .int x8])), (h2, .inl (gB g, 1500, .inl fn0))] [(h0, .inr (9, [.ref h3, .ref h1, .int x0, .int x1, .int x2, .int x3, .int x4, .int x5, .int x6, .int x7]))] (fun sz => c190_X10_isAt l g h1 h2 x1 x8 fn0 i_x1 i_x8 sz) gX10_isWord_X10_isAt rfl ⟨rfl, rfl⟩ 3 (by decide) ⟨Nat.le_of_ble_eq_true rfl, Nat.le_of_ble_eq_true rfl⟩ [1, 2] [0] rfl rfl (by decide) (by decide) (by decide) rfl rfl (Nat.le_of_ble_eq_true rfl) ⟨Nat.le_of_ble_eq_true rfl, Nat.le_of_ble_eq_true rfl⟩ (fun r8 _ w9 => ?_)
    refine r_ws [(h0, .inr (9, [.ref h3, .ref h1, .int x0, .int x1, .int x2, .int x3, .int x4, .int x5, .int x6, .int x7])), (h1, .inr (4, [.ref h2, .int x8])), (h2, .inl (gB g, 1500, .inl fn0))] rfl ?_
    have p10 : 0 ≤ (Int32.toInt r8) := w9.1
    have p11 : (Int32.toInt r8) ≤ 1 := w9.2.1
    have p12 : ISB (Int32.toInt r8) (WAT (GB fn0 (Int32.toInt x8)) (Int32.toInt x1) wOver) := w9.2.2
    refine r_if_eq 28 35 C dX10_isWord_28 (by decide) (fun c13 => ?_) (fun c13 => ?_)
    · skip
      have k14 : (Int32.toInt r8) = 0 := (fa_eq r8 0).mp c13
      refine r_iconst 35 0 C dX10_isWord_35 (by decide) ?_
      exact r_zret 36 Rt dX10_isWord_36 (by decide) () (show 0 ≤ (Int32.toInt 0) ∧ (Int32.toInt 0) ≤ 1 ∧ ISB 0 (IW (GB fn0 (Int32.toInt x8)) (Int32.toInt x1) (Int32.toInt x2) wOver) from ⟨(by ((repeat' apply And.intro) <;> first | trivial | rfl | assumption | omega | decide | exact Or.inl rfl | exact Or.inr (Or.inl rfl) | exact Or.inr (Or.inr rfl))), (by ((repeat' apply And.intro) <;> first | trivial | rfl | assumption | omega | decide | exact Or.inl rfl | exact Or.inr (Or.inl rfl) | exact Or.inr (Or.inr rfl))), (by exact isb_r (isb_and p12 (show _ = (3 : Int) by omega)) (by omega))⟩) [0, 1, 2] (by decide) rfl (Nat.le_of_ble_eq_true rfl) (Nat.le_of_ble_eq_true rfl)
    · skip
      have k15 : ¬ ((Int32.toInt r8) = 0) := fun h_9 => c13 ((fa_eq r8 0).mpr h_9)
      refine r_iconst 31 1 C dX10_isWord_31 (by decide) ?_
      refine r_goto 32 36 C dX10_isWord_32 (by decide) ?_
      exact r_zret 36 Rt dX10_isWord_36 (by decide) () (show 0 ≤ (Int32.toInt 1) ∧ (Int32.toInt 1) ≤ 1 ∧ ISB 1 (IW (GB fn0 (Int32.toInt x8)) (Int32.toInt x1) (Int32.toInt x2) wOver) from ⟨(by ((repeat' apply And.intro) <;> first | trivial | rfl | assumption | omega | decide | exact Or.inl rfl | exact Or.inr (Or.inl rfl) | exact Or.inr (Or.inr rfl))), (by ((repeat' apply And.intro) <;> first | trivial | rfl | assumption | omega | decide | exact Or.inl rfl | exact Or.inr (Or.inl rfl) | exact Or.inr (Or.inr rfl))), (by exact isb_r (isb_and p12 (show _ = (3 : Int) by omega)) (by omega))⟩) [0, 1, 2] (by decide) rfl (Nat.le_of_ble_eq_true rfl) (Nat.le_of_ble_eq_true rfl)
set_option maxHeartbeats 4000000 in
set_option maxRecDepth 100000 in
theorem c192_X8_isFull (l : Launch) (g : GD) (h0 : Nat) (h1 : Nat) (h2 : Nat) (h3 : Nat) (x0 : Int32) (x1 : Int32) (x2 : Int32) (fn0 : Nat → Int32) (sz : Nat) : Met l yX8_isFull wsX8_isFull ({ frames := 0, cells := 0, slots := 0, locals := 0 }) (va_Pc [.ref h0] (PW g [(h0, .inr (7, [.ref h2, .ref h1, .ref h3, .int x0, .int x1, .int x2])), (h1, .inl (gI g, 40, .inl fn0))] sz)) (va_Qi (fun (r : Int32) (_ : Unit) => (((Int32.toInt x0) < 40 ∧ r = 0) ∨ (¬ ((Int32.toInt x0) < 40) ∧ r = 1))) (BW g (va_A [(h0, .inr (7, [.ref h2, .ref h1, .ref h3, .int x0, .int x1, .int x2])), (h1, .inl (gI g, 40, .inl fn0))] sz) (fun _ : Unit => [(h0, .inr (7, [.ref h2, .ref h1, .ref h3, .int x0, .int x1, .int x2])), (h1, .inl (gI g, 40, .inl fn0))])) (va_A [(h0, .inr (7, [.ref h2, .ref h1, .ref h3, .int x0, .int x1, .int x2])), (h1, .inl (gI g, 40, .inl fn0))] sz)) 0 0 (va_A [(h0, .inr (7, [.ref h2, .ref h1, .ref h3, .int x0, .int x1, .int x2])), (h1, .inl (gI g, 40, .inl fn0))] sz) := by
  refine met_z RX8 (by decide) rfl rfl (Nat.le_of_ble_eq_true rfl) [(0, .ref h0)] rfl ?_
  intro p e s m args below meth c A Q C hnm Rt
  have gx0 := fb_rng x0
  have hiX8 : ∀ w ∈ wsX80, w ∈ wsX8_isFull := fun w h => List.mem_cons_of_mem _ (List.mem_append_right _ (h))
  refine r_aload_n 0 0 C dX8_isFull_0 rfl ?_
  refine r_get 1 C dX8_isFull_1 (k := 3) 0 rfl rfl hiX8 (by decide) rfl (mg 1 rfl) (Or.inl rfl) rfl ?_
  refine r_aload_n 4 0 C dX8_isFull_4 rfl ?_
  refine r_get 5 C dX8_isFull_5 (k := 1) 0 rfl rfl hiX8 (by decide) rfl (mg 2 rfl) (Or.inl rfl) rfl ?_
  refine r_ialen 8 40 C dX8_isFull_8 1 rfl (by decide) ?_
  refine r_icmp_lt 9 16 C dX8_isFull_9 (by decide) (fun c1 => ?_) (fun c1 => ?_)
  · skip
    have k2 : (Int32.toInt x0) < 40 := (fa_lt x0 40).mp c1
    refine r_iconst 16 0 C dX8_isFull_16 (by decide) ?_
    exact r_zret 17 Rt dX8_isFull_17 (by decide) () (show (((Int32.toInt x0) < 40 ∧ 0 = 0) ∨ (¬ ((Int32.toInt x0) < 40) ∧ 0 = 1)) from by refine Or.inl ?_ <;> ((repeat' apply And.intro) <;> first | trivial | rfl | assumption | omega | decide | exact Or.inl rfl | exact Or.inr (Or.inl rfl) | exact Or.inr (Or.inr rfl))) [0, 1] (by decide) rfl (Nat.le_of_ble_eq_true rfl) (Nat.le_of_ble_eq_true rfl)
  · skip
    have k3 : ¬ ((Int32.toInt x0) < 40) := fun h_9 => c1 ((fa_lt x0 40).mpr h_9)
    refine r_iconst 12 1 C dX8_isFull_12 (by decide) ?_
    refine r_goto 13 17 C dX8_isFull_13 (by decide) ?_
    exact r_zret 17 Rt dX8_isFull_17 (by decide) () (show (((Int32.toInt x0) < 40 ∧ 1 = 0) ∨ (¬ ((Int32.toInt x0) < 40) ∧ 1 = 1)) from by refine Or.inr (?_) <;> ((repeat' apply And.intro) <;> first | trivial | rfl | assumption | omega | decide | exact Or.inl rfl | exact Or.inr (Or.inl rfl) | exact Or.inr (Or.inr rfl))) [0, 1] (by decide) rfl (Nat.le_of_ble_eq_true rfl) (Nat.le_of_ble_eq_true rfl)
set_option maxHeartbeats 4000000 in
set_option maxRecDepth 100000 in
theorem c193_X8_put (l : Launch) (g : GD) (h0 : Nat) (h1 : Nat) (h2 : Nat) (x0 : Int32) (x1 : Int32) (x2 : Int32) (h3 : Nat) (x3 : Int32) (x4 : Int32) (x5 : Int32) (fn0 : Nat → Int32) (fn1 : Nat → Int32) (sz : Nat) : Met l yX8_put wsX8_put ({ frames := 0, cells := 0, slots := 0, locals := 0 }) (va_Pc [.ref h0, .int x0, .int x1, .int x2] (PW g [(h0, .inr (7, [.ref h3, .ref h1, .ref h2, .int x3, .int x4, .int x5])), (h1, .inl (gI g, 40, .inl fn0)), (h2, .inl (gI g, 40, .inl fn1))] sz)) (va_Qv (fun (u : (Nat → Int32) × (Nat → Int32)) => CND (0 ≤ (Int32.toInt x0) ∧ (Int32.toInt x0) < (Int32.toInt x3) ∧ (Int32.toInt x0) < 40) ((u.1) = upd fn0 (Int.toNat (Int32.toInt x0)) x1 ∧ (u.2) = upd fn1 (Int.toNat (Int32.toInt x0)) x2)) (BW g (va_A [(h0, .inr (7, [.ref h3, .ref h1, .ref h2, .int x3, .int x4, .int x5])), (h1, .inl (gI g, 40, .inl fn0)), (h2, .inl (gI g, 40, .inl fn1))] sz) (fun u : (Nat → Int32) × (Nat → Int32) => [(h0, .inr (7, [.ref h3, .ref h1, .ref h2, .int x3, .int x4, .int x5])), (h1, .inl (gI g, 40, .inl u.1)), (h2, .inl (gI g, 40, .inl u.2))])) (va_A [(h0, .inr (7, [.ref h3, .ref h1, .ref h2, .int x3, .int x4, .int x5])), (h1, .inl (gI g, 40, .inl fn0)), (h2, .inl (gI g, 40, .inl fn1))] sz)) 0 0 (va_A [(h0, .inr (7, [.ref h3, .ref h1, .ref h2, .int x3, .int x4, .int x5])), (h1, .inl (gI g, 40, .inl fn0)), (h2, .inl (gI g, 40, .inl fn1))] sz) := by
  refine met_v RX8 (by decide) rfl rfl (Nat.le_of_ble_eq_true rfl) [(0, .ref h0), (1, .int x0), (2, .int x1), (3, .int x2)] rfl ?_
  intro p e s m args below meth c A Q C hnm Rt
  have gx0 := fb_rng x0
  have gx3 := fb_rng x3
  have hiX8 : ∀ w ∈ wsX80, w ∈ wsX8_put := fun w h => List.mem_cons_of_mem _ (List.mem_append_right _ (h))
  refine r_iload_n 0 1 C dX8_put_0 rfl ?_
  refine r_if_lt 1 35 C dX8_put_1 (by decide) (fun c1 => ?_) (fun c1 => ?_)
  · skip
    have k2 : (Int32.toInt x0) < 0 := (fa_lt x0 0).mp c1
    exact r_vret 35 Rt dX8_put_35 (fn0, fn1) (show CND (0 ≤ (Int32.toInt x0) ∧ (Int32.toInt x0) < (Int32.toInt x3) ∧ (Int32.toInt x0) < 40) (fn0 = upd fn0 (Int.toNat (Int32.toInt x0)) x1 ∧ fn1 = upd fn1 (Int.toNat (Int32.toInt x0)) x2) from (by exact fun h_9 => absurd h_9 (by omega))) [0, 1, 2] (by decide) rfl (Nat.le_of_ble_eq_true rfl) (Nat.le_of_ble_eq_true rfl)
  · skip
    have k3 : ¬ ((Int32.toInt x0) < 0) := fun h_9 => c1 ((fa_lt x0 0).mpr h_9)
    refine r_iload_n 4 1 C dX8_put_4 rfl ?_
    refine r_aload_n 5 0 C dX8_put_5 rfl ?_
    refine r_get 6 C dX8_put_6 (k := 3) 0 rfl rfl hiX8 (by decide) rfl (mg 1 rfl) (Or.inl rfl) rfl ?_
    refine r_icmp_ge 9 35 C dX8_put_9 (by decide) (fun c4 => ?_) (fun c4 => ?_)
    · skip
      have k5 : (Int32.toInt x3) ≤ (Int32.toInt x0) := (fa_le x3 x0).mp c4
      exact r_vret 35 Rt dX8_put_35 (fn0, fn1) (show CND (0 ≤ (Int32.toInt x0) ∧ (Int32.toInt x0) < (Int32.toInt x3) ∧ (Int32.toInt x0) < 40) (fn0 = upd fn0 (Int.toNat (Int32.toInt x0)) x1 ∧ fn1 = upd fn1 (Int.toNat (Int32.toInt x0)) x2) from (by exact fun h_9 => absurd h_9 (by omega))) [0, 1, 2] (by decide) rfl (Nat.le_of_ble_eq_true rfl) (Nat.le_of_ble_eq_true rfl)
    · skip
      have k6 : ¬ ((Int32.toInt x3) ≤ (Int32.toInt x0)) := fun h_9 => c4 ((fa_le x3 x0).mpr h_9)
      refine r_iload_n 12 1 C dX8_put_12 rfl ?_
      refine r_aload_n 13 0 C dX8_put_13 rfl ?_
      refine r_get 14 C dX8_put_14 (k := 1) 0 rfl rfl hiX8 (by decide) rfl (mg 2 rfl) (Or.inl rfl) rfl ?_
      refine r_ialen 17 40 C dX8_put_17 1 rfl (by decide) ?_
      refine r_icmp_ge 18 35 C dX8_put_18 (by decide) (fun c7 => ?_) (fun c7 => ?_)
      · skip
        have k8 : 40 ≤ (Int32.toInt x0) := (fa_le 40 x0).mp c7
        exact r_vret 35 Rt dX8_put_35 (fn0, fn1) (show CND (0 ≤ (Int32.toInt x0) ∧ (Int32.toInt x0) < (Int32.toInt x3) ∧ (Int32.toInt x0) < 40) (fn0 = upd fn0 (Int.toNat (Int32.toInt x0)) x1 ∧ fn1 = upd fn1 (Int.toNat (Int32.toInt x0)) x2) from (by exact fun h_9 => absurd h_9 (by omega))) [0, 1, 2] (by decide) rfl (Nat.le_of_ble_eq_true rfl) (Nat.le_of_ble_eq_true rfl)
      · skip
        have k9 : ¬ (40 ≤ (Int32.toInt x0)) := fun h_9 => c7 ((fa_le 40 x0).mpr h_9)
        refine r_aload_n 21 0 C dX8_put_21 rfl ?_
        refine r_get 22 C dX8_put_22 (k := 1) 0 rfl rfl hiX8 (by decide) rfl (mg 2 rfl) (Or.inl rfl) rfl ?_
        refine r_iload_n 25 1 C dX8_put_25 rfl ?_
        refine r_iload_n 26 2 C dX8_put_26 rfl ?_
        obtain ⟨f10, ef10⟩ : ∃ f_9, upd fn0 (Int32.toNatClampNeg x0) x1 = f_9 := ⟨_, rfl⟩
        refine r_iast 27 C dX8_put_27 1 rfl (vinI (by omega) (by omega)) f10 ef10 [(h0, .inr (7, [.ref h3, .ref h1, .ref h2, .int x3, .int x4, .int x5])), (h1, .inl (gI g, 40, .inl f10)), (h2, .inl (gI g, 40, .inl fn1))] rfl ?_
        refine r_aload_n 28 0 C dX8_put_28 rfl ?_
        refine r_get 29 C dX8_put_29 (k := 2) 0 rfl rfl hiX8 (by decide) rfl (mg 3 rfl) (Or.inl rfl) rfl ?_
        refine r_iload_n 32 1 C dX8_put_32 rfl ?_
        refine r_iload_n 33 3 C dX8_put_33 rfl ?_
        obtain ⟨f11, ef11⟩ : ∃ f_9, upd fn1 (Int32.toNatClampNeg x0) x2 = f_9 := ⟨_, rfl⟩
        refine r_iast 34 C dX8_put_34 2 rfl (vinI (by omega) (by omega)) f11 ef11 [(h0, .inr (7, [.ref h3, .ref h1, .ref h2, .int x3, .int x4, .int x5])), (h1, .inl (gI g, 40, .inl f10)), (h2, .inl (gI g, 40, .inl f11))] rfl ?_
        exact r_vret 35 Rt dX8_put_35 (f10, f11) (show CND (0 ≤ (Int32.toInt x0) ∧ (Int32.toInt x0) < (Int32.toInt x3) ∧ (Int32.toInt x0) < 40) (f10 = upd fn0 (Int.toNat (Int32.toInt x0)) x1 ∧ f11 = upd fn1 (Int.toNat (Int32.toInt x0)) x2) from (by exact fun _ => ⟨ef10.symm, ef11.symm⟩)) [0, 1, 2] (by decide) rfl (Nat.le_of_ble_eq_true rfl) (Nat.le_of_ble_eq_true rfl)
set_option maxHeartbeats 4000000 in
set_option maxRecDepth 100000 in
theorem c194_X8_add (l : Launch) (g : GD) (h0 : Nat) (h1 : Nat) (h2 : Nat) (x0 : Int32) (x1 : Int32) (h3 : Nat) (x2 : Int32) (x3 : Int32) (x4 : Int32) (fn0 : Nat → Int32) (fn1 : Nat → Int32) (sz : Nat) : Met l yX8_add wsX8_add ({ frames := 1, cells := 0, slots := 0, locals := 23 }) (va_Pc [.ref h0, .int x0, .int x1] (PW g [(h0, .inr (7, [.ref h3, .ref h1, .ref h2, .int x2, .int x3, .int x4])), (h1, .inl (gI g, 40, .inl fn0)), (h2, .inl (gI g, 40, .inl fn1))] sz)) (va_Qv (fun (u : (Int32) × (Nat → Int32) × (Nat → Int32)) => (((Int32.toInt x2) < 40 ∧ (Int32.toInt (u.1)) = (Int32.toInt x2) + 1) ∨ (40 ≤ (Int32.toInt x2) ∧ (Int32.toInt (u.1)) = (Int32.toInt x2))) ∧ CND (0 ≤ (Int32.toInt x2) ∧ (Int32.toInt x2) < 40) ((u.2.1) = upd fn0 (Int.toNat (Int32.toInt x2)) x0 ∧ (u.2.2) = upd fn1 (Int.toNat (Int32.toInt x2)) x1)) (BW g (va_A [(h0, .inr (7, [.ref h3, .ref h1, .ref h2, .int x2, .int x3, .int x4])), (h1, .inl (gI g, 40, .inl fn0)), (h2, .inl (gI g, 40, .inl fn1))] sz) (fun u : (Int32) × (Nat → Int32) × (Nat → Int32) => [(h0, .inr (7, [.ref h3, .ref h1, .ref h2, .int u.1, .int x3, .int x4])), (h1, .inl (gI g, 40, .inl u.2.1)), (h2, .inl (gI g, 40, .inl u.2.2))])) (va_A [(h0, .inr (7, [.ref h3, .ref h1, .ref h2, .int x2, .int x3, .int x4])), (h1, .inl (gI g, 40, .inl fn0)), (h2, .inl (gI g, 40, .inl fn1))] sz)) 0 0 (va_A [(h0, .inr (7, [.ref h3, .ref h1, .ref h2, .int x2, .int x3, .int x4])), (h1, .inl (gI g, 40, .inl fn0)), (h2, .inl (gI g, 40, .inl fn1))] sz) := by
  refine met_v RX8 (by decide) rfl rfl (Nat.le_of_ble_eq_true rfl) [(0, .ref h0), (1, .int x0), (2, .int x1)] rfl ?_
  intro p e s m args below meth c A Q C hnm Rt
  have gx2 := fb_rng x2
  have hiX8 : ∀ w ∈ wsX80, w ∈ wsX8_add := fun w h => List.mem_cons_of_mem _ (List.mem_append_right _ (h))
  refine r_aload_n 0 0 C dX8_add_0 rfl ?_
  refine r_callVi 1 C dX8_add_1 [] [(h0, .inr (7, [.ref h3, .ref h1, .ref h2, .int x2, .int x3, .int x4])), (h1, .inl (gI g, 40, .inl fn0))] [(h2, .inl (gI g, 40, .inl fn1))] (fun sz => c192_X8_isFull l g h0 h1 h3 h2 x2 x3 x4 fn0  sz) gX8_add_X8_isFull rfl ⟨rfl, rfl⟩ 0 (by decide) ⟨Nat.le_of_ble_eq_true rfl, Nat.le_of_ble_eq_true rfl⟩ 0 rfl rfl [0, 1] [2] rfl rfl (by decide) (by decide) (by decide) rfl rfl (Nat.le_of_ble_eq_true rfl) ⟨Nat.le_of_ble_eq_true rfl, Nat.le_of_ble_eq_true rfl⟩ (fun r1 _ w2 => ?_)
  refine r_ws [(h2, .inl (gI g, 40, .inl fn1)), (h0, .inr (7, [.ref h3, .ref h1, .ref h2, .int x2, .int x3, .int x4])), (h1, .inl (gI g, 40, .inl fn0))] rfl ?_
  have w3 : (((Int32.toInt x2) < 40 ∧ r1 = 0) ∨ (¬ ((Int32.toInt x2) < 40) ∧ r1 = 1)) := w2
  rcases w3 with ⟨k4, k5⟩ | w3
  · skip
    have k5 := k5.symm
    subst k5
    refine r_if_ne_f 4 29 C dX8_add_4 (by decide) (by decide) ?_
    refine r_aload_n 7 0 C dX8_add_7 rfl ?_
    refine r_dup 8 C dX8_add_8 rfl ?_
    refine r_get 9 C dX8_add_9 (k := 3) 1 rfl rfl hiX8 (by decide) rfl (mg 1 rfl) (Or.inl rfl) rfl ?_
    refine r_iconst 12 1 C dX8_add_12 (by decide) ?_
    obtain ⟨z6, ez6⟩ : ∃ z_9, x2 + 1 = z_9 := ⟨_, rfl⟩
    have tz6 : (Int32.toInt z6) = (Int32.toInt x2) + 1 := by rw [← ez6]; exact fb_addI (by show -2147483648 ≤ (Int32.toInt x2) + 1; omega) (by show (Int32.toInt x2) + 1 < 2147483648; omega)
    refine r_iadd 13 z6 C dX8_add_13 ez6 ?_
    refine r_put 14 C dX8_add_14 (k := 3) 1 rfl rfl hiX8 tyX8 tyX8_ok nmX8 (by decide) rfl (mg 1 rfl) (Or.inl rfl) rfl rfl rfl rfl (Nat.le_of_ble_eq_true rfl) [(h2, .inl (gI g, 40, .inl fn1)), (h0, .inr (7, [.ref h3, .ref h1, .ref h2, .int z6, .int x3, .int x4])), (h1, .inl (gI g, 40, .inl fn0))] rfl ?_
    refine r_aload_n 17 0 C dX8_add_17 rfl ?_
    refine r_aload_n 18 0 C dX8_add_18 rfl ?_
    refine r_get 19 C dX8_add_19 (k := 3) 1 rfl rfl hiX8 (by decide) rfl (mg 1 rfl) (Or.inl rfl) rfl ?_
    refine r_iconst 22 1 C dX8_add_22 (by decide) ?_
    obtain ⟨z7, ez7⟩ : ∃ z_9, z6 - 1 = z_9 := ⟨_, rfl⟩
    have tz7 : (Int32.toInt z7) = (Int32.toInt z6) - 1 := by rw [← ez7]; exact fb_subI (by show -2147483648 ≤ (Int32.toInt z6) - 1; omega) (by show (Int32.toInt z6) - 1 < 2147483648; omega)
    refine r_isub 23 z7 C dX8_add_23 ez7 ?_
    refine r_iload_n 24 1 C dX8_add_24 rfl ?_
    refine r_iload_n 25 2 C dX8_add_25 rfl ?_
    refine r_callVv 26 C dX8_add_26 [] [(h0, .inr (7, [.ref h3, .ref h1, .ref h2, .int z6, .int x3, .int x4])), (h1, .inl (gI g, 40, .inl fn0)), (h2, .inl (gI g, 40, .inl fn1))] [] (fun sz => c193_X8_put l g h0 h1 h2 z7 x0 x1 h3 z6 x3 x4 fn0 fn1  sz) gX8_add_X8_put rfl ⟨rfl, rfl⟩ 3 (by decide) ⟨Nat.le_of_ble_eq_true rfl, Nat.le_of_ble_eq_true rfl⟩ 1 rfl rfl [1, 2, 0] [] rfl rfl (by decide) (by decide) (by decide) rfl rfl (Nat.le_of_ble_eq_true rfl) ⟨Nat.le_of_ble_eq_true rfl, Nat.le_of_ble_eq_true rfl⟩ (fun  u11 w10 => ?_)
    obtain ⟨f8, f9⟩ := u11
    refine r_ws [(h0, .inr (7, [.ref h3, .ref h1, .ref h2, .int z6, .int x3, .int x4])), (h1, .inl (gI g, 40, .inl f8)), (h2, .inl (gI g, 40, .inl f9))] rfl ?_
    have p12 : CND (0 ≤ (Int32.toInt z7) ∧ (Int32.toInt z7) < (Int32.toInt z6) ∧ (Int32.toInt z7) < 40) (f8 = upd fn0 (Int.toNat (Int32.toInt z7)) x0 ∧ f9 = upd fn1 (Int.toNat (Int32.toInt z7)) x1) := w10
    exact r_vret 29 Rt dX8_add_29 (z6, f8, f9) (show (((Int32.toInt x2) < 40 ∧ (Int32.toInt z6) = (Int32.toInt x2) + 1) ∨ (40 ≤ (Int32.toInt x2) ∧ (Int32.toInt z6) = (Int32.toInt x2))) ∧ CND (0 ≤ (Int32.toInt x2) ∧ (Int32.toInt x2) < 40) (f8 = upd fn0 (Int.toNat (Int32.toInt x2)) x0 ∧ f9 = upd fn1 (Int.toNat (Int32.toInt x2)) x1) from ⟨(by ((repeat' apply And.intro) <;> first | trivial | rfl | assumption | omega | decide | exact Or.inl rfl | exact Or.inr (Or.inl rfl) | exact Or.inr (Or.inr rfl))), (by exact fun _ => put_k (p12 ⟨by omega, by omega, by omega⟩) (by omega))⟩) [0, 1, 2] (by decide) rfl (Nat.le_of_ble_eq_true rfl) (Nat.le_of_ble_eq_true rfl)
  obtain ⟨k13, k14⟩ := w3
  have k14 := k14.symm
  subst k14
  refine r_if_ne_t 4 29 C dX8_add_4 (by decide) (by decide) ?_
  exact r_vret 29 Rt dX8_add_29 (x2, fn0, fn1) (show (((Int32.toInt x2) < 40 ∧ (Int32.toInt x2) = (Int32.toInt x2) + 1) ∨ (40 ≤ (Int32.toInt x2) ∧ (Int32.toInt x2) = (Int32.toInt x2))) ∧ CND (0 ≤ (Int32.toInt x2) ∧ (Int32.toInt x2) < 40) (fn0 = upd fn0 (Int.toNat (Int32.toInt x2)) x0 ∧ fn1 = upd fn1 (Int.toNat (Int32.toInt x2)) x1) from ⟨(by ((repeat' apply And.intro) <;> first | trivial | rfl | assumption | omega | decide | exact Or.inl rfl | exact Or.inr (Or.inl rfl) | exact Or.inr (Or.inr rfl))), (by exact fun h_9 => absurd h_9 (by omega))⟩) [1, 2, 0] (by decide) rfl (Nat.le_of_ble_eq_true rfl) (Nat.le_of_ble_eq_true rfl)
set_option maxHeartbeats 4000000 in
set_option maxRecDepth 100000 in
theorem c195_X10_takeLetter (l : Launch) (g : GD) (h0 : Nat) (h1 : Nat) (h2 : Nat) (h3 : Nat) (h4 : Nat) (h5 : Nat) (h6 : Nat) (x0 : Int32) (x1 : Int32) (x2 : Int32) (x3 : Int32) (x4 : Int32) (x5 : Int32) (x6 : Int32) (x7 : Int32) (h7 : Nat) (h8 : Nat) (x8 : Int32) (x9 : Int32) (x10 : Int32) (x11 : Int32) (x12 : Int32) (x13 : Int32) (x14 : Int32) (fn0 : Nat → Int32) (fn1 : Nat → Int32) (fn2 : Nat → Int32) (i_x0 : (0 ≤ (Int32.toInt x0) ∧ (Int32.toInt x0) ≤ 1500)) (i_x1 : (0 ≤ (Int32.toInt x1) ∧ (Int32.toInt x1) ≤ 1500)) (i_x2 : (0 ≤ (Int32.toInt x2) ∧ (Int32.toInt x2) ≤ 1500)) (i_x3 : (-1 ≤ (Int32.toInt x3) ∧ (Int32.toInt x3) ≤ 9999)) (i_x4 : (0 ≤ (Int32.toInt x4) ∧ (Int32.toInt x4) ≤ 1)) (i_x5 : (-1 ≤ (Int32.toInt x5) ∧ (Int32.toInt x5) ≤ 9999)) (i_x6 : (0 ≤ (Int32.toInt x6) ∧ (Int32.toInt x6) ≤ 1500)) (i_x7 : (0 ≤ (Int32.toInt x7) ∧ (Int32.toInt x7) ≤ 1500)) (i_x11 : (0 ≤ (Int32.toInt x11) ∧ (Int32.toInt x11) ≤ 1500)) (pre0 : (Int32.toInt x0) = (Int32.toInt x2)) (sz : Nat) : Met l yX10_takeLetter wsX10_takeLetter ({ frames := 7, cells := 0, slots := 0, locals := 152 }) (va_Pc [.ref h0] (PW g [(h0, .inr (9, [.ref h1, .ref h2, .int x0, .int x1, .int x2, .int x3, .int x4, .int x5, .int x6, .int x7])), (h1, .inr (3, [.ref h2, .ref h3, .ref h7, .ref h8, .int x8, .int x9, .int x10])), (h2, .inr (4, [.ref h4, .int x11])), (h3, .inr (7, [.ref h2, .ref h5, .ref h6, .int x12, .int x13, .int x14])), (h4, .inl (gB g, 1500, .inl fn0)), (h5, .inl (gI g, 40, .inl fn1)), (h6, .inl (gI g, 40, .inl fn2))] sz)) (va_Qi (fun (r : Int32) (u : (Int32) × (Int32) × (Int32) × (Int32) × (Int32) × (Int32) × (Int32) × (Nat → Int32) × (Nat → Int32) × (Nat → Int32)) => 0 ≤ (Int32.toInt r) ∧ (Int32.toInt r) ≤ 2 ∧ 0 ≤ (Int32.toInt (u.1)) ∧ (Int32.toInt (u.1)) ≤ 1500 ∧ 0 ≤ (Int32.toInt (u.2.1)) ∧ (Int32.toInt (u.2.1)) ≤ 1500 ∧ 0 ≤ (Int32.toInt (u.2.2.1)) ∧ (Int32.toInt (u.2.2.1)) ≤ 1500 ∧ -1 ≤ (Int32.toInt (u.2.2.2.1)) ∧ (Int32.toInt (u.2.2.2.1)) ≤ 9999 ∧ 0 ≤ (Int32.toInt (u.2.2.2.2.1)) ∧ (Int32.toInt (u.2.2.2.2.1)) ≤ 1500 ∧ 0 ≤ (Int32.toInt (u.2.2.2.2.2.1)) ∧ (Int32.toInt (u.2.2.2.2.2.1)) ≤ 1500 ∧ SEQ 0 (Int32.toInt r) (LET (GB fn0 (Int32.toInt x11)) (Int32.toInt x11) (Int32.toInt x1) (Int32.toInt x2) (Int32.toInt x12)) (fun v => v = (Int32.toInt (u.1))) ∧ AGR (u.2.2.2.2.2.2.2.1) fn0 (Int32.toInt x11) (Int32.toInt (u.1)) ∧ (¬ ((Int32.toInt r) = 0) ∨ ((Int32.toInt x0) < (Int32.toInt (u.1)) ∧ (Int32.toInt (u.1)) ≤ (Int32.toInt x11) ∧ (Int32.toInt (u.2.2.2.2.2.2.1)) = (Int32.toInt x12) + 1)) ∧ (Int32.toInt x0) ≤ (Int32.toInt (u.1)) ∧ CND ((Int32.toInt r) = 0 ∧ 0 ≤ (Int32.toInt x12)) (LTC fn0 (Int32.toInt x11) (Int32.toInt x1) (Int32.toInt x2) (Int32.toInt x12) (Int32.toInt x3) fn1 fn2 (u.2.2.2.2.2.2.2.1) (Int32.toInt (u.1)) (u.2.2.2.2.2.2.2.2.1) (u.2.2.2.2.2.2.2.2.2)) ∧ LOW fn0 (u.2.2.2.2.2.2.2.1) (Int32.toInt x0) ∧ (¬ ((Int32.toInt r) = 0) ∨ (Int32.toInt x12) < 40)) (BW g (va_A [(h0, .inr (9, [.ref h1, .ref h2, .int x0, .int x1, .int x2, .int x3, .int x4, .int x5, .int x6, .int x7])), (h1, .inr (3, [.ref h2, .ref h3, .ref h7, .ref h8, .int x8, .int x9, .int x10])), (h2, .inr (4, [.ref h4, .int x11])), (h3, .inr (7, [.ref h2, .ref h5, .ref h6, .int x12, .int x13, .int x14])), (h4, .inl (gB g, 1500, .inl fn0)), (h5, .inl (gI g, 40, .inl fn1)), (h6, .inl (gI g, 40, .inl fn2))] sz) (fun u : (Int32) × (Int32) × (Int32) × (Int32) × (Int32) × (Int32) × (Int32) × (Nat → Int32) × (Nat → Int32) × (Nat → Int32) => [(h0, .inr (9, [.ref h1, .ref h2, .int u.1, .int u.2.1, .int u.2.2.1, .int x3, .int x4, .int u.2.2.2.1, .int u.2.2.2.2.1, .int u.2.2.2.2.2.1])), (h1, .inr (3, [.ref h2, .ref h3, .ref h7, .ref h8, .int x8, .int x9, .int x10])), (h2, .inr (4, [.ref h4, .int x11])), (h3, .inr (7, [.ref h2, .ref h5, .ref h6, .int u.2.2.2.2.2.2.1, .int x13, .int x14])), (h4, .inl (gB g, 1500, .inl u.2.2.2.2.2.2.2.1)), (h5, .inl (gI g, 40, .inl u.2.2.2.2.2.2.2.2.1)), (h6, .inl (gI g, 40, .inl u.2.2.2.2.2.2.2.2.2))])) (va_A [(h0, .inr (9, [.ref h1, .ref h2, .int x0, .int x1, .int x2, .int x3, .int x4, .int x5, .int x6, .int x7])), (h1, .inr (3, [.ref h2, .ref h3, .ref h7, .ref h8, .int x8, .int x9, .int x10])), (h2, .inr (4, [.ref h4, .int x11])), (h3, .inr (7, [.ref h2, .ref h5, .ref h6, .int x12, .int x13, .int x14])), (h4, .inl (gB g, 1500, .inl fn0)), (h5, .inl (gI g, 40, .inl fn1)), (h6, .inl (gI g, 40, .inl fn2))] sz)) 0 0 (va_A [(h0, .inr (9, [.ref h1, .ref h2, .int x0, .int x1, .int x2, .int x3, .int x4, .int x5, .int x6, .int x7])), (h1, .inr (3, [.ref h2, .ref h3, .ref h7, .ref h8, .int x8, .int x9, .int x10])), (h2, .inr (4, [.ref h4, .int x11])), (h3, .inr (7, [.ref h2, .ref h5, .ref h6, .int x12, .int x13, .int x14])), (h4, .inl (gB g, 1500, .inl fn0)), (h5, .inl (gI g, 40, .inl fn1)), (h6, .inl (gI g, 40, .inl fn2))] sz) := by
  refine met_i RX10 (by decide) rfl rfl (Nat.le_of_ble_eq_true rfl) [(0, .ref h0)] rfl ?_
  intro p e s m args below meth c A Q C hnm Rt
  have gx12 := fb_rng x12
  have hiX10 : ∀ w ∈ wsX100, w ∈ wsX10_takeLetter := fun w h => List.mem_cons_of_mem _ (List.mem_append_left _ (List.mem_append_left _ (List.mem_append_left _ (List.mem_append_right _ (h)))))
  have hiX3 : ∀ w ∈ wsX30, w ∈ wsX10_takeLetter := fun w h => List.mem_cons_of_mem _ (List.mem_append_left _ (List.mem_append_left _ (List.mem_append_right _ (h))))
  refine r_aload_n 0 0 C dX10_takeLetter_0 rfl ?_
  refine r_get 1 C dX10_takeLetter_1 (k := 1) 0 rfl rfl hiX10 (by decide) rfl (mg 1 rfl) (Or.inl rfl) rfl ?_
  refine r_aload_n 4 0 C dX10_takeLetter_4 rfl ?_
  refine r_get 5 C dX10_takeLetter_5 (k := 3) 0 rfl rfl hiX10 (by decide) rfl (mg 2 rfl) (Or.inl rfl) rfl ?_
  obtain ⟨z1, ez1⟩ : ∃ z_9, Int32.toInt64 x1 = z_9 := ⟨_, rfl⟩
  have tz1 : (Int64.toInt z1) = (Int32.toInt x1) := by rw [← ez1]; exact Int32.toInt_toInt64 _
  refine r_i2l 8 z1 C dX10_takeLetter_8 ez1 ?_
  refine r_callVi 9 C dX10_takeLetter_9 [] [(h2, .inr (4, [.ref h4, .int x11])), (h4, .inl (gB g, 1500, .inl fn0))] [(h0, .inr (9, [.ref h1, .ref h2, .int x0, .int x1, .int x2, .int x3, .int x4, .int x5, .int x6, .int x7])), (h1, .inr (3, [.ref h2, .ref h3, .ref h7, .ref h8, .int x8, .int x9, .int x10])), (h3, .inr (7, [.ref h2, .ref h5, .ref h6, .int x12, .int x13, .int x14])), (h5, .inl (gI g, 40, .inl fn1)), (h6, .inl (gI g, 40, .inl fn2))] (fun sz => c14_X5_get l g h2 h4 z1 x11 fn0 i_x11 sz) gX10_takeLetter_X5_get rfl ⟨rfl, rfl⟩ 1 (by decide) ⟨Nat.le_of_ble_eq_true rfl, Nat.le_of_ble_eq_true rfl⟩ 2 rfl rfl [2, 4] [0, 1, 3, 5, 6] rfl rfl (by decide) (by decide) (by decide) rfl rfl (Nat.le_of_ble_eq_true rfl) ⟨Nat.le_of_ble_eq_true rfl, Nat.le_of_ble_eq_true rfl⟩ (fun r2 _ w3 => ?_)
  refine r_ws [(h0, .inr (9, [.ref h1, .ref h2, .int x0, .int x1, .int x2, .int x3, .int x4, .int x5, .int x6, .int x7])), (h1, .inr (3, [.ref h2, .ref h3, .ref h7, .ref h8, .int x8, .int x9, .int x10])), (h3, .inr (7, [.ref h2, .ref h5, .ref h6, .int x12, .int x13, .int x14])), (h5, .inl (gI g, 40, .inl fn1)), (h6, .inl (gI g, 40, .inl fn2)), (h2, .inr (4, [.ref h4, .int x11])), (h4, .inl (gB g, 1500, .inl fn0))] rfl ?_
  have p4 : -1 ≤ (Int32.toInt r2) := w3.1
  have p5 : (Int32.toInt r2) ≤ 255 := w3.2.1
  have p6 : HID ((0 ≤ (Int64.toInt z1) ∧ (Int64.toInt z1) < (Int32.toInt x11) ∧ r2 = (fn0 (Int.toNat (Int64.toInt z1)) &&& 255)) ∨ (((Int64.toInt z1) < 0 ∨ (Int32.toInt x11) ≤ (Int64.toInt z1)) ∧ r2 = -1)) := w3.2.2.1
  have p7 : (Int32.toInt r2) = GB fn0 (Int32.toInt x11) (Int64.toInt z1) := w3.2.2.2
  refine r_bipush 12 47 C dX10_takeLetter_12 (by decide) ?_
  refine r_icmp_ne 14 34 C dX10_takeLetter_14 (by decide) (fun c8 => ?_) (fun c8 => ?_)
  · skip
    have k9 : ¬ ((Int32.toInt r2) = 47) := fun h_9 => c8 ((fa_eq r2 47).mpr h_9)
    refine r_iconst 34 0 C dX10_takeLetter_34 (by decide) ?_
    refine r_istore_n 35 C dX10_takeLetter_35 [(1, .int 0), (0, .ref h0)] (by decide) rfl ?_
    refine r_iload_n 36 0 C dX10_takeLetter_36 rfl ?_
    refine r_if_eq_t 37 53 C dX10_takeLetter_37 (by decide) (by decide) ?_
    refine r_iconst 53 2 C dX10_takeLetter_53 (by decide) ?_
    exact r_iret 54 Rt dX10_takeLetter_54 (x0, x1, x2, x5, x6, x7, x12, fn0, fn1, fn2) (show 0 ≤ (Int32.toInt 2) ∧ (Int32.toInt 2) ≤ 2 ∧ 0 ≤ (Int32.toInt x0) ∧ (Int32.toInt x0) ≤ 1500 ∧ 0 ≤ (Int32.toInt x1) ∧ (Int32.toInt x1) ≤ 1500 ∧ 0 ≤ (Int32.toInt x2) ∧ (Int32.toInt x2) ≤ 1500 ∧ -1 ≤ (Int32.toInt x5) ∧ (Int32.toInt x5) ≤ 9999 ∧ 0 ≤ (Int32.toInt x6) ∧ (Int32.toInt x6) ≤ 1500 ∧ 0 ≤ (Int32.toInt x7) ∧ (Int32.toInt x7) ≤ 1500 ∧ SEQ 0 2 (LET (GB fn0 (Int32.toInt x11)) (Int32.toInt x11) (Int32.toInt x1) (Int32.toInt x2) (Int32.toInt x12)) (fun v => v = (Int32.toInt x0)) ∧ AGR fn0 fn0 (Int32.toInt x11) (Int32.toInt x0) ∧ (¬ (2 = 0) ∨ ((Int32.toInt x0) < (Int32.toInt x0) ∧ (Int32.toInt x0) ≤ (Int32.toInt x11) ∧ (Int32.toInt x12) = (Int32.toInt x12) + 1)) ∧ (Int32.toInt x0) ≤ (Int32.toInt x0) ∧ CND (2 = 0 ∧ 0 ≤ (Int32.toInt x12)) (LTC fn0 (Int32.toInt x11) (Int32.toInt x1) (Int32.toInt x2) (Int32.toInt x12) (Int32.toInt x3) fn1 fn2 fn0 (Int32.toInt x0) fn1 fn2) ∧ LOW fn0 fn0 (Int32.toInt x0) ∧ (¬ (2 = 0) ∨ (Int32.toInt x12) < 40) from ⟨(by ((repeat' apply And.intro) <;> first | trivial | rfl | assumption | omega | decide | exact Or.inl rfl | exact Or.inr (Or.inl rfl) | exact Or.inr (Or.inr rfl))), (by ((repeat' apply And.intro) <;> first | trivial | rfl | assumption | omega | decide | exact Or.inl rfl | exact Or.inr (Or.inl rfl) | exact Or.inr (Or.inr rfl))), i_x0.1, i_x0.2, i_x1.1, i_x1.2, i_x2.1, i_x2.2, i_x5.1, i_x5.2, i_x6.1, i_x6.2, i_x7.1, i_x7.2, (by exact let_no (gb_at p7 (by omega)) (by omega) (by omega)), (by exact agr_refl), (by ((repeat' apply And.intro) <;> first | trivial | rfl | assumption | omega | decide | exact Or.inl rfl | exact Or.inr (Or.inl rfl) | exact Or.inr (Or.inr rfl))), (by ((repeat' apply And.intro) <;> first | trivial | rfl | assumption | omega | decide | exact Or.inl rfl | exact Or.inr (Or.inl rfl) | exact Or.inr (Or.inr rfl))), (by exact fun h_9 => absurd h_9 (by omega)), (by exact low_0), (by ((repeat' apply And.intro) <;> first | trivial | rfl | assumption | omega | decide | exact Or.inl rfl | exact Or.inr (Or.inl rfl) | exact Or.inr (Or.inr rfl)))⟩) [0, 1, 5, 2, 6, 3, 4] (by decide) rfl (Nat.le_of_ble_eq_true rfl) (Nat.le_of_ble_eq_true rfl)
  · skip
    have k10 : (Int32.toInt r2) = 47 := (fa_eq r2 47).mp c8
    refine r_aload_n 17 0 C dX10_takeLetter_17 rfl ?_
    refine r_get 18 C dX10_takeLetter_18 (k := 4) 0 rfl rfl hiX10 (by decide) rfl (mg 3 rfl) (Or.inl rfl) rfl ?_
    refine r_aload_n 21 0 C dX10_takeLetter_21 rfl ?_
    refine r_get 22 C dX10_takeLetter_22 (k := 3) 0 rfl rfl hiX10 (by decide) rfl (mg 2 rfl) (Or.inl rfl) rfl ?_
    obtain ⟨z11, ez11⟩ : ∃ z_9, x2 - x1 = z_9 := ⟨_, rfl⟩
    have tz11 : (Int32.toInt z11) = (Int32.toInt x2) - (Int32.toInt x1) := by rw [← ez11]; exact fb_subIv (a := 0) (b := 1500) (c := 0) (d := 1500) i_x2 i_x1 (by decide) (by decide)
    refine r_isub 25 z11 C dX10_takeLetter_25 ez11 ?_
    refine r_iconst 26 1 C dX10_takeLetter_26 (by decide) ?_
    refine r_icmp_le 27 34 C dX10_takeLetter_27 (by decide) (fun c12 => ?_) (fun c12 => ?_)
    · skip
      have k13 : (Int32.toInt z11) ≤ 1 := (fa_le z11 1).mp c12
      refine r_iconst 34 0 C dX10_takeLetter_34 (by decide) ?_
      refine r_istore_n 35 C dX10_takeLetter_35 [(1, .int 0), (0, .ref h0)] (by decide) rfl ?_
      refine r_iload_n 36 0 C dX10_takeLetter_36 rfl ?_
      refine r_if_eq_t 37 53 C dX10_takeLetter_37 (by decide) (by decide) ?_
      refine r_iconst 53 2 C dX10_takeLetter_53 (by decide) ?_
      exact r_iret 54 Rt dX10_takeLetter_54 (x0, x1, x2, x5, x6, x7, x12, fn0, fn1, fn2) (show 0 ≤ (Int32.toInt 2) ∧ (Int32.toInt 2) ≤ 2 ∧ 0 ≤ (Int32.toInt x0) ∧ (Int32.toInt x0) ≤ 1500 ∧ 0 ≤ (Int32.toInt x1) ∧ (Int32.toInt x1) ≤ 1500 ∧ 0 ≤ (Int32.toInt x2) ∧ (Int32.toInt x2) ≤ 1500 ∧ -1 ≤ (Int32.toInt x5) ∧ (Int32.toInt x5) ≤ 9999 ∧ 0 ≤ (Int32.toInt x6) ∧ (Int32.toInt x6) ≤ 1500 ∧ 0 ≤ (Int32.toInt x7) ∧ (Int32.toInt x7) ≤ 1500 ∧ SEQ 0 2 (LET (GB fn0 (Int32.toInt x11)) (Int32.toInt x11) (Int32.toInt x1) (Int32.toInt x2) (Int32.toInt x12)) (fun v => v = (Int32.toInt x0)) ∧ AGR fn0 fn0 (Int32.toInt x11) (Int32.toInt x0) ∧ (¬ (2 = 0) ∨ ((Int32.toInt x0) < (Int32.toInt x0) ∧ (Int32.toInt x0) ≤ (Int32.toInt x11) ∧ (Int32.toInt x12) = (Int32.toInt x12) + 1)) ∧ (Int32.toInt x0) ≤ (Int32.toInt x0) ∧ CND (2 = 0 ∧ 0 ≤ (Int32.toInt x12)) (LTC fn0 (Int32.toInt x11) (Int32.toInt x1) (Int32.toInt x2) (Int32.toInt x12) (Int32.toInt x3) fn1 fn2 fn0 (Int32.toInt x0) fn1 fn2) ∧ LOW fn0 fn0 (Int32.toInt x0) ∧ (¬ (2 = 0) ∨ (Int32.toInt x12) < 40) from ⟨(by ((repeat' apply And.intro) <;> first | trivial | rfl | assumption | omega | decide | exact Or.inl rfl | exact Or.inr (Or.inl rfl) | exact Or.inr (Or.inr rfl))), (by ((repeat' apply And.intro) <;> first | trivial | rfl | assumption | omega | decide | exact Or.inl rfl | exact Or.inr (Or.inl rfl) | exact Or.inr (Or.inr rfl))), i_x0.1, i_x0.2, i_x1.1, i_x1.2, i_x2.1, i_x2.2, i_x5.1, i_x5.2, i_x6.1, i_x6.2, i_x7.1, i_x7.2, (by exact let_no (gb_at p7 (by omega)) (by omega) (by omega)), (by exact agr_refl), (by ((repeat' apply And.intro) <;> first | trivial | rfl | assumption | omega | decide | exact Or.inl rfl | exact Or.inr (Or.inl rfl) | exact Or.inr (Or.inr rfl))), (by ((repeat' apply And.intro) <;> first | trivial | rfl | assumption | omega | decide | exact Or.inl rfl | exact Or.inr (Or.inl rfl) | exact Or.inr (Or.inr rfl))), (by exact fun h_9 => absurd h_9 (by omega)), (by exact low_0), (by ((repeat' apply And.intro) <;> first | trivial | rfl | assumption | omega | decide | exact Or.inl rfl | exact Or.inr (Or.inl rfl) | exact Or.inr (Or.inr rfl)))⟩) [0, 1, 5, 2, 6, 3, 4] (by decide) rfl (Nat.le_of_ble_eq_true rfl) (Nat.le_of_ble_eq_true rfl)
    · skip
      have k14 : ¬ ((Int32.toInt z11) ≤ 1) := fun h_9 => c12 ((fa_le z11 1).mpr h_9)
      refine r_iconst 30 1 C dX10_takeLetter_30 (by decide) ?_
      refine r_goto 31 35 C dX10_takeLetter_31 (by decide) ?_
      refine r_istore_n 35 C dX10_takeLetter_35 [(1, .int 1), (0, .ref h0)] (by decide) rfl ?_
      refine r_iload_n 36 0 C dX10_takeLetter_36 rfl ?_
      refine r_if_eq_f 37 53 C dX10_takeLetter_37 (by decide) (by decide) ?_
      refine r_aload_n 40 1 C dX10_takeLetter_40 rfl ?_
      refine r_get 41 C dX10_takeLetter_41 (k := 0) 0 rfl rfl hiX10 (by decide) rfl (mg 4 rfl) (Or.inl rfl) rfl ?_
      refine r_getN 44 C dX10_takeLetter_44 (k := 1) 1 rfl rfl hiX3 (by decide) rfl (mg 23 rfl) rfl rfl ?_
      refine r_callVi 47 C dX10_takeLetter_47 [] [(h3, .inr (7, [.ref h2, .ref h5, .ref h6, .int x12, .int x13, .int x14])), (h5, .inl (gI g, 40, .inl fn1))] [(h0, .inr (9, [.ref h1, .ref h2, .int x0, .int x1, .int x2, .int x3, .int x4, .int x5, .int x6, .int x7])), (h1, .inr (3, [.ref h2, .ref h3, .ref h7, .ref h8, .int x8, .int x9, .int x10])), (h6, .inl (gI g, 40, .inl fn2)), (h2, .inr (4, [.ref h4, .int x11])), (h4, .inl (gB g, 1500, .inl fn0))] (fun sz => c192_X8_isFull l g h3 h5 h2 h6 x12 x13 x14 fn1  sz) gX10_takeLetter_X8_isFull rfl ⟨rfl, rfl⟩ 0 (by decide) ⟨Nat.le_of_ble_eq_true rfl, Nat.le_of_ble_eq_true rfl⟩ 2 rfl rfl [2, 3] [0, 1, 4, 5, 6] rfl rfl (by decide) (by decide) (by decide) rfl rfl (Nat.le_of_ble_eq_true rfl) ⟨Nat.le_of_ble_eq_true rfl, Nat.le_of_ble_eq_true rfl⟩ (fun r15 _ w16 => ?_)
      refine r_ws [(h0, .inr (9, [.ref h1, .ref h2, .int x0, .int x1, .int x2, .int x3, .int x4, .int x5, .int x6, .int x7])), (h1, .inr (3, [.ref h2, .ref h3, .ref h7, .ref h8, .int x8, .int x9, .int x10])), (h6, .inl (gI g, 40, .inl fn2)), (h2, .inr (4, [.ref h4, .int x11])), (h4, .inl (gB g, 1500, .inl fn0)), (h3, .inr (7, [.ref h2, .ref h5, .ref h6, .int x12, .int x13, .int x14])), (h5, .inl (gI g, 40, .inl fn1))] rfl ?_
      have w17 : (((Int32.toInt x12) < 40 ∧ r15 = 0) ∨ (¬ ((Int32.toInt x12) < 40) ∧ r15 = 1)) := w16
      rcases w17 with ⟨k18, k19⟩ | w17
      · skip
        have k19 := k19.symm
        subst k19
        refine r_if_eq_t 50 55 C dX10_takeLetter_50 (by decide) (by decide) ?_
        refine r_aload_n 55 1 C dX10_takeLetter_55 rfl ?_
        refine r_callVi 56 C dX10_takeLetter_56 [] [(h0, .inr (9, [.ref h1, .ref h2, .int x0, .int x1, .int x2, .int x3, .int x4, .int x5, .int x6, .int x7])), (h2, .inr (4, [.ref h4, .int x11])), (h4, .inl (gB g, 1500, .inl fn0))] [(h1, .inr (3, [.ref h2, .ref h3, .ref h7, .ref h8, .int x8, .int x9, .int x10])), (h6, .inl (gI g, 40, .inl fn2)), (h3, .inr (7, [.ref h2, .ref h5, .ref h6, .int x12, .int x13, .int x14])), (h5, .inl (gI g, 40, .inl fn1))] (fun sz => c172_X10_takeProgram l g h0 h2 h4 h1 x0 x1 x2 x3 x4 x5 x6 x7 x11 fn0 i_x0 i_x1 i_x2 i_x3 i_x4 i_x5 i_x6 i_x7 i_x11 sz) gX10_takeLetter_X10_takeProgram rfl ⟨rfl, rfl⟩ 0 (by decide) ⟨Nat.le_of_ble_eq_true rfl, Nat.le_of_ble_eq_true rfl⟩ 0 rfl rfl [0, 3, 4] [1, 2, 5, 6] rfl rfl (by decide) (by decide) (by decide) rfl rfl (Nat.le_of_ble_eq_true rfl) ⟨Nat.le_of_ble_eq_true rfl, Nat.le_of_ble_eq_true rfl⟩ (fun r27 u29 w28 => ?_)
        obtain ⟨z20, z21, z22, z23, z24, z25, f26⟩ := u29
        refine r_ws [(h1, .inr (3, [.ref h2, .ref h3, .ref h7, .ref h8, .int x8, .int x9, .int x10])), (h6, .inl (gI g, 40, .inl fn2)), (h3, .inr (7, [.ref h2, .ref h5, .ref h6, .int x12, .int x13, .int x14])), (h5, .inl (gI g, 40, .inl fn1)), (h0, .inr (9, [.ref h1, .ref h2, .int z20, .int z21, .int z22, .int x3, .int x4, .int z23, .int z24, .int z25])), (h2, .inr (4, [.ref h4, .int x11])), (h4, .inl (gB g, 1500, .inl f26))] rfl ?_
        have p30 : 0 ≤ (Int32.toInt r27) := w28.1
        have p31 : (Int32.toInt r27) ≤ 2 := w28.2.1
        have p32 : 0 ≤ (Int32.toInt z20) := w28.2.2.1
        have p33 : (Int32.toInt z20) ≤ 1500 := w28.2.2.2.1
        have p34 : 0 ≤ (Int32.toInt z21) := w28.2.2.2.2.1
        have p35 : (Int32.toInt z21) ≤ 1500 := w28.2.2.2.2.2.1
        have p36 : 0 ≤ (Int32.toInt z22) := w28.2.2.2.2.2.2.1
        have p37 : (Int32.toInt z22) ≤ 1500 := w28.2.2.2.2.2.2.2.1
        have p38 : -1 ≤ (Int32.toInt z23) := w28.2.2.2.2.2.2.2.2.1
        have p39 : (Int32.toInt z23) ≤ 9999 := w28.2.2.2.2.2.2.2.2.2.1
        have p40 : 0 ≤ (Int32.toInt z24) := w28.2.2.2.2.2.2.2.2.2.2.1
        have p41 : (Int32.toInt z24) ≤ 1500 := w28.2.2.2.2.2.2.2.2.2.2.2.1
        have p42 : 0 ≤ (Int32.toInt z25) := w28.2.2.2.2.2.2.2.2.2.2.2.2.1
        have p43 : (Int32.toInt z25) ≤ 1500 := w28.2.2.2.2.2.2.2.2.2.2.2.2.2.1
        have p44 : SEQ 0 (Int32.toInt r27) (PRG (GB fn0 (Int32.toInt x11)) (Int32.toInt x11) (Int32.toInt x0)) (fun v => v = (Int32.toInt z20)) := w28.2.2.2.2.2.2.2.2.2.2.2.2.2.2.1
        have p45 : AGR f26 fn0 (Int32.toInt x11) (Int32.toInt z20) := w28.2.2.2.2.2.2.2.2.2.2.2.2.2.2.2.1
        have p46 : (¬ ((Int32.toInt r27) = 0) ∨ ((Int32.toInt x0) < (Int32.toInt z20) ∧ (Int32.toInt z20) ≤ (Int32.toInt x11))) := w28.2.2.2.2.2.2.2.2.2.2.2.2.2.2.2.2.1
        have p47 : (Int32.toInt x0) ≤ (Int32.toInt z20) := w28.2.2.2.2.2.2.2.2.2.2.2.2.2.2.2.2.2.1
        have p48 : CND ((Int32.toInt r27) = 0) (PRGX (GB fn0 (Int32.toInt x11)) (Int32.toInt x11) (Int32.toInt x0) = some ((Int32.toInt z20), (Int32.toInt z23)) ∧ PGP fn0 (Int32.toInt x3) f26 (Int32.toInt z20) (Int32.toInt z23) (Int32.toInt z24) (Int32.toInt z25)) := w28.2.2.2.2.2.2.2.2.2.2.2.2.2.2.2.2.2.2.1
        have p49 : LOW fn0 f26 (Int32.toInt x0) := w28.2.2.2.2.2.2.2.2.2.2.2.2.2.2.2.2.2.2.2
        refine r_istore_n 59 C dX10_takeLetter_59 [(2, .int r27), (1, .int 1), (0, .ref h0)] (by decide) rfl ?_
        refine r_iload_n 60 0 C dX10_takeLetter_60 rfl ?_
        refine r_if_eq 61 66 C dX10_takeLetter_61 (by decide) (fun c50 => ?_) (fun c50 => ?_)
        · skip
          have k51 : (Int32.toInt r27) = 0 := (fa_eq r27 0).mp c50
          refine r_aload_n 66 2 C dX10_takeLetter_66 rfl ?_
          refine r_get 67 C dX10_takeLetter_67 (k := 0) 4 rfl rfl hiX10 (by decide) rfl (mg 4 rfl) (Or.inl rfl) rfl ?_
          refine r_getN 70 C dX10_takeLetter_70 (k := 1) 0 rfl rfl hiX3 (by decide) rfl (mg 23 rfl) rfl rfl ?_
          refine r_aload_n 73 2 C dX10_takeLetter_73 rfl ?_
          refine r_get 74 C dX10_takeLetter_74 (k := 8) 4 rfl rfl hiX10 (by decide) rfl (mg 5 rfl) (Or.inl rfl) rfl ?_
          refine r_aload_n 77 2 C dX10_takeLetter_77 rfl ?_
          refine r_get 78 C dX10_takeLetter_78 (k := 9) 4 rfl rfl hiX10 (by decide) rfl (mg 6 rfl) (Or.inl rfl) rfl ?_
          refine r_callVv 81 C dX10_takeLetter_81 [] [(h3, .inr (7, [.ref h2, .ref h5, .ref h6, .int x12, .int x13, .int x14])), (h5, .inl (gI g, 40, .inl fn1)), (h6, .inl (gI g, 40, .inl fn2))] [(h1, .inr (3, [.ref h2, .ref h3, .ref h7, .ref h8, .int x8, .int x9, .int x10])), (h0, .inr (9, [.ref h1, .ref h2, .int z20, .int z21, .int z22, .int x3, .int x4, .int z23, .int z24, .int z25])), (h2, .inr (4, [.ref h4, .int x11])), (h4, .inl (gB g, 1500, .inl f26))] (fun sz => c194_X8_add l g h3 h5 h6 z24 z25 h2 x12 x13 x14 fn1 fn2  sz) gX10_takeLetter_X8_add rfl ⟨rfl, rfl⟩ 2 (by decide) ⟨Nat.le_of_ble_eq_true rfl, Nat.le_of_ble_eq_true rfl⟩ 2 rfl rfl [2, 3, 1] [0, 4, 5, 6] rfl rfl (by decide) (by decide) (by decide) rfl rfl (Nat.le_of_ble_eq_true rfl) ⟨Nat.le_of_ble_eq_true rfl, Nat.le_of_ble_eq_true rfl⟩ (fun  u56 w55 => ?_)
          obtain ⟨z52, f53, f54⟩ := u56
          refine r_ws [(h1, .inr (3, [.ref h2, .ref h3, .ref h7, .ref h8, .int x8, .int x9, .int x10])), (h0, .inr (9, [.ref h1, .ref h2, .int z20, .int z21, .int z22, .int x3, .int x4, .int z23, .int z24, .int z25])), (h2, .inr (4, [.ref h4, .int x11])), (h4, .inl (gB g, 1500, .inl f26)), (h3, .inr (7, [.ref h2, .ref h5, .ref h6, .int z52, .int x13, .int x14])), (h5, .inl (gI g, 40, .inl f53)), (h6, .inl (gI g, 40, .inl f54))] rfl ?_
          have gz52 := fb_rng z52
          have p57 : (((Int32.toInt x12) < 40 ∧ (Int32.toInt z52) = (Int32.toInt x12) + 1) ∨ (40 ≤ (Int32.toInt x12) ∧ (Int32.toInt z52) = (Int32.toInt x12))) := w55.1
          have p58 : CND (0 ≤ (Int32.toInt x12) ∧ (Int32.toInt x12) < 40) (f53 = upd fn1 (Int.toNat (Int32.toInt x12)) z24 ∧ f54 = upd fn2 (Int.toNat (Int32.toInt x12)) z25) := w55.2
          refine r_aload_n 84 2 C dX10_takeLetter_84 rfl ?_
          refine r_callVi 85 C dX10_takeLetter_85 [] [(h0, .inr (9, [.ref h1, .ref h2, .int z20, .int z21, .int z22, .int x3, .int x4, .int z23, .int z24, .int z25])), (h2, .inr (4, [.ref h4, .int x11])), (h4, .inl (gB g, 1500, .inl f26))] [(h1, .inr (3, [.ref h2, .ref h3, .ref h7, .ref h8, .int x8, .int x9, .int x10])), (h3, .inr (7, [.ref h2, .ref h5, .ref h6, .int z52, .int x13, .int x14])), (h5, .inl (gI g, 40, .inl f53)), (h6, .inl (gI g, 40, .inl f54))] (fun sz => c115_X10_takeWord l g h0 h2 h4 h1 z20 z21 z22 x3 x4 z23 z24 z25 x11 f26 ⟨p32, p33⟩ ⟨p34, p35⟩ ⟨p36, p37⟩ i_x3 i_x4 ⟨p38, p39⟩ ⟨p40, p41⟩ ⟨p42, p43⟩ i_x11 sz) gX10_takeLetter_X10_takeWord rfl ⟨rfl, rfl⟩ 0 (by decide) ⟨Nat.le_of_ble_eq_true rfl, Nat.le_of_ble_eq_true rfl⟩ 1 rfl rfl [1, 2, 3] [0, 4, 5, 6] rfl rfl (by decide) (by decide) (by decide) rfl rfl (Nat.le_of_ble_eq_true rfl) ⟨Nat.le_of_ble_eq_true rfl, Nat.le_of_ble_eq_true rfl⟩ (fun r62 u64 w63 => ?_)
          obtain ⟨z59, z60, z61⟩ := u64
          refine r_ws [(h1, .inr (3, [.ref h2, .ref h3, .ref h7, .ref h8, .int x8, .int x9, .int x10])), (h3, .inr (7, [.ref h2, .ref h5, .ref h6, .int z52, .int x13, .int x14])), (h5, .inl (gI g, 40, .inl f53)), (h6, .inl (gI g, 40, .inl f54)), (h0, .inr (9, [.ref h1, .ref h2, .int z59, .int z60, .int z61, .int x3, .int x4, .int z23, .int z24, .int z25])), (h2, .inr (4, [.ref h4, .int x11])), (h4, .inl (gB g, 1500, .inl f26))] rfl ?_
          have p65 : 0 ≤ (Int32.toInt r62) := w63.1
          have p66 : (Int32.toInt r62) ≤ 1 := w63.2.1
          have p67 : 0 ≤ (Int32.toInt z59) := w63.2.2.1
          have p68 : (Int32.toInt z59) ≤ 1500 := w63.2.2.2.1
          have p69 : 0 ≤ (Int32.toInt z60) := w63.2.2.2.2.1
          have p70 : (Int32.toInt z60) ≤ 1500 := w63.2.2.2.2.2.1
          have p71 : 0 ≤ (Int32.toInt z61) := w63.2.2.2.2.2.2.1
          have p72 : (Int32.toInt z61) ≤ 1500 := w63.2.2.2.2.2.2.2.1
          have p73 : BSQ (Int32.toInt r62) (WRD (GB f26 (Int32.toInt x11)) (Int32.toInt x11) (Int32.toInt z20)) (fun w => w = ((Int32.toInt z60), (Int32.toInt z61))) := w63.2.2.2.2.2.2.2.2.1
          have p74 : ((Int32.toInt z59) = (Int32.toInt z61) ∧ (Int32.toInt z20) ≤ (Int32.toInt z60) ∧ (Int32.toInt z60) ≤ (Int32.toInt z61) ∧ (((Int32.toInt r62) = 1 ∧ (Int32.toInt z60) < (Int32.toInt z61) ∧ (Int32.toInt z61) ≤ (Int32.toInt x11)) ∨ (Int32.toInt r62) = 0)) := w63.2.2.2.2.2.2.2.2.2
          refine r_if_eq 88 95 C dX10_takeLetter_88 (by decide) (fun c75 => ?_) (fun c75 => ?_)
          · skip
            have k76 : (Int32.toInt r62) = 0 := (fa_eq r62 0).mp c75
            refine r_iconst 95 1 C dX10_takeLetter_95 (by decide) ?_
            exact r_iret 96 Rt dX10_takeLetter_96 (z59, z60, z61, z23, z24, z25, z52, f26, f53, f54) (show 0 ≤ (Int32.toInt 1) ∧ (Int32.toInt 1) ≤ 2 ∧ 0 ≤ (Int32.toInt z59) ∧ (Int32.toInt z59) ≤ 1500 ∧ 0 ≤ (Int32.toInt z60) ∧ (Int32.toInt z60) ≤ 1500 ∧ 0 ≤ (Int32.toInt z61) ∧ (Int32.toInt z61) ≤ 1500 ∧ -1 ≤ (Int32.toInt z23) ∧ (Int32.toInt z23) ≤ 9999 ∧ 0 ≤ (Int32.toInt z24) ∧ (Int32.toInt z24) ≤ 1500 ∧ 0 ≤ (Int32.toInt z25) ∧ (Int32.toInt z25) ≤ 1500 ∧ SEQ 0 1 (LET (GB fn0 (Int32.toInt x11)) (Int32.toInt x11) (Int32.toInt x1) (Int32.toInt x2) (Int32.toInt x12)) (fun v => v = (Int32.toInt z59)) ∧ AGR f26 fn0 (Int32.toInt x11) (Int32.toInt z59) ∧ (¬ (1 = 0) ∨ ((Int32.toInt x0) < (Int32.toInt z59) ∧ (Int32.toInt z59) ≤ (Int32.toInt x11) ∧ (Int32.toInt z52) = (Int32.toInt x12) + 1)) ∧ (Int32.toInt x0) ≤ (Int32.toInt z59) ∧ CND (1 = 0 ∧ 0 ≤ (Int32.toInt x12)) (LTC fn0 (Int32.toInt x11) (Int32.toInt x1) (Int32.toInt x2) (Int32.toInt x12) (Int32.toInt x3) fn1 fn2 f26 (Int32.toInt z59) f53 f54) ∧ LOW fn0 f26 (Int32.toInt x0) ∧ (¬ (1 = 0) ∨ (Int32.toInt x12) < 40) from ⟨(by ((repeat' apply And.intro) <;> first | trivial | rfl | assumption | omega | decide | exact Or.inl rfl | exact Or.inr (Or.inl rfl) | exact Or.inr (Or.inr rfl))), (by ((repeat' apply And.intro) <;> first | trivial | rfl | assumption | omega | decide | exact Or.inl rfl | exact Or.inr (Or.inl rfl) | exact Or.inr (Or.inr rfl))), (show _ ∧ _ from ⟨p67, p68⟩).1, (show _ ∧ _ from ⟨p67, p68⟩).2, (show _ ∧ _ from ⟨p69, p70⟩).1, (show _ ∧ _ from ⟨p69, p70⟩).2, (show _ ∧ _ from ⟨p71, p72⟩).1, (show _ ∧ _ from ⟨p71, p72⟩).2, (show _ ∧ _ from ⟨p38, p39⟩).1, (show _ ∧ _ from ⟨p38, p39⟩).2, (show _ ∧ _ from ⟨p40, p41⟩).1, (show _ ∧ _ from ⟨p40, p41⟩).2, (show _ ∧ _ from ⟨p42, p43⟩).1, (show _ ∧ _ from ⟨p42, p43⟩).2, (by exact let_end (gb_at p7 (by omega)) ⟨by omega, by omega, by omega⟩ p44 (by omega) (by omega) p45 p73 (by omega) (by omega)), (by exact agr_le p45 (by omega)), (by ((repeat' apply And.intro) <;> first | trivial | rfl | assumption | omega | decide | exact Or.inl rfl | exact Or.inr (Or.inl rfl) | exact Or.inr (Or.inr rfl))), (by ((repeat' apply And.intro) <;> first | trivial | rfl | assumption | omega | decide | exact Or.inl rfl | exact Or.inr (Or.inl rfl) | exact Or.inr (Or.inr rfl))), (by first | exact fun h_9 => absurd h_9 (by omega) | exact fun h_9 => ltc_pf (gb_at p7 (by omega)) ⟨by omega, by omega, by omega⟩ (p48 (by omega)) (by omega) p45 p73 (by omega) (by omega) (p58 ⟨by omega, by omega⟩)), (by exact p49), (by ((repeat' apply And.intro) <;> first | trivial | rfl | assumption | omega | decide | exact Or.inl rfl | exact Or.inr (Or.inl rfl) | exact Or.inr (Or.inr rfl)))⟩) [4, 0, 5, 1, 6, 2, 3] (by decide) rfl (Nat.le_of_ble_eq_true rfl) (Nat.le_of_ble_eq_true rfl)
          · skip
            have k77 : ¬ ((Int32.toInt r62) = 0) := fun h_9 => c75 ((fa_eq r62 0).mpr h_9)
            refine r_iconst 91 0 C dX10_takeLetter_91 (by decide) ?_
            refine r_goto 92 96 C dX10_takeLetter_92 (by decide) ?_
            exact r_iret 96 Rt dX10_takeLetter_96 (z59, z60, z61, z23, z24, z25, z52, f26, f53, f54) (show 0 ≤ (Int32.toInt 0) ∧ (Int32.toInt 0) ≤ 2 ∧ 0 ≤ (Int32.toInt z59) ∧ (Int32.toInt z59) ≤ 1500 ∧ 0 ≤ (Int32.toInt z60) ∧ (Int32.toInt z60) ≤ 1500 ∧ 0 ≤ (Int32.toInt z61) ∧ (Int32.toInt z61) ≤ 1500 ∧ -1 ≤ (Int32.toInt z23) ∧ (Int32.toInt z23) ≤ 9999 ∧ 0 ≤ (Int32.toInt z24) ∧ (Int32.toInt z24) ≤ 1500 ∧ 0 ≤ (Int32.toInt z25) ∧ (Int32.toInt z25) ≤ 1500 ∧ SEQ 0 0 (LET (GB fn0 (Int32.toInt x11)) (Int32.toInt x11) (Int32.toInt x1) (Int32.toInt x2) (Int32.toInt x12)) (fun v => v = (Int32.toInt z59)) ∧ AGR f26 fn0 (Int32.toInt x11) (Int32.toInt z59) ∧ (¬ (0 = 0) ∨ ((Int32.toInt x0) < (Int32.toInt z59) ∧ (Int32.toInt z59) ≤ (Int32.toInt x11) ∧ (Int32.toInt z52) = (Int32.toInt x12) + 1)) ∧ (Int32.toInt x0) ≤ (Int32.toInt z59) ∧ CND (0 = 0 ∧ 0 ≤ (Int32.toInt x12)) (LTC fn0 (Int32.toInt x11) (Int32.toInt x1) (Int32.toInt x2) (Int32.toInt x12) (Int32.toInt x3) fn1 fn2 f26 (Int32.toInt z59) f53 f54) ∧ LOW fn0 f26 (Int32.toInt x0) ∧ (¬ (0 = 0) ∨ (Int32.toInt x12) < 40) from ⟨(by ((repeat' apply And.intro) <;> first | trivial | rfl | assumption | omega | decide | exact Or.inl rfl | exact Or.inr (Or.inl rfl) | exact Or.inr (Or.inr rfl))), (by ((repeat' apply And.intro) <;> first | trivial | rfl | assumption | omega | decide | exact Or.inl rfl | exact Or.inr (Or.inl rfl) | exact Or.inr (Or.inr rfl))), (show _ ∧ _ from ⟨p67, p68⟩).1, (show _ ∧ _ from ⟨p67, p68⟩).2, (show _ ∧ _ from ⟨p69, p70⟩).1, (show _ ∧ _ from ⟨p69, p70⟩).2, (show _ ∧ _ from ⟨p71, p72⟩).1, (show _ ∧ _ from ⟨p71, p72⟩).2, (show _ ∧ _ from ⟨p38, p39⟩).1, (show _ ∧ _ from ⟨p38, p39⟩).2, (show _ ∧ _ from ⟨p40, p41⟩).1, (show _ ∧ _ from ⟨p40, p41⟩).2, (show _ ∧ _ from ⟨p42, p43⟩).1, (show _ ∧ _ from ⟨p42, p43⟩).2, (by exact let_end (gb_at p7 (by omega)) ⟨by omega, by omega, by omega⟩ p44 (by omega) (by omega) p45 p73 (by omega) (by omega)), (by exact agr_le p45 (by omega)), (by ((repeat' apply And.intro) <;> first | trivial | rfl | assumption | omega | decide | exact Or.inl rfl | exact Or.inr (Or.inl rfl) | exact Or.inr (Or.inr rfl))), (by ((repeat' apply And.intro) <;> first | trivial | rfl | assumption | omega | decide | exact Or.inl rfl | exact Or.inr (Or.inl rfl) | exact Or.inr (Or.inr rfl))), (by first | exact fun h_9 => absurd h_9 (by omega) | exact fun h_9 => ltc_pf (gb_at p7 (by omega)) ⟨by omega, by omega, by omega⟩ (p48 (by omega)) (by omega) p45 p73 (by omega) (by omega) (p58 ⟨by omega, by omega⟩)), (by exact p49), (by ((repeat' apply And.intro) <;> first | trivial | rfl | assumption | omega | decide | exact Or.inl rfl | exact Or.inr (Or.inl rfl) | exact Or.inr (Or.inr rfl)))⟩) [4, 0, 5, 1, 6, 2, 3] (by decide) rfl (Nat.le_of_ble_eq_true rfl) (Nat.le_of_ble_eq_true rfl)
        · skip
          have k78 : ¬ ((Int32.toInt r27) = 0) := fun h_9 => c50 ((fa_eq r27 0).mpr h_9)
          refine r_iload_n 64 0 C dX10_takeLetter_64 rfl ?_
          exact r_iret 65 Rt dX10_takeLetter_65 (z20, z21, z22, z23, z24, z25, x12, f26, fn1, fn2) (show 0 ≤ (Int32.toInt r27) ∧ (Int32.toInt r27) ≤ 2 ∧ 0 ≤ (Int32.toInt z20) ∧ (Int32.toInt z20) ≤ 1500 ∧ 0 ≤ (Int32.toInt z21) ∧ (Int32.toInt z21) ≤ 1500 ∧ 0 ≤ (Int32.toInt z22) ∧ (Int32.toInt z22) ≤ 1500 ∧ -1 ≤ (Int32.toInt z23) ∧ (Int32.toInt z23) ≤ 9999 ∧ 0 ≤ (Int32.toInt z24) ∧ (Int32.toInt z24) ≤ 1500 ∧ 0 ≤ (Int32.toInt z25) ∧ (Int32.toInt z25) ≤ 1500 ∧ SEQ 0 (Int32.toInt r27) (LET (GB fn0 (Int32.toInt x11)) (Int32.toInt x11) (Int32.toInt x1) (Int32.toInt x2) (Int32.toInt x12)) (fun v => v = (Int32.toInt z20)) ∧ AGR f26 fn0 (Int32.toInt x11) (Int32.toInt z20) ∧ (¬ ((Int32.toInt r27) = 0) ∨ ((Int32.toInt x0) < (Int32.toInt z20) ∧ (Int32.toInt z20) ≤ (Int32.toInt x11) ∧ (Int32.toInt x12) = (Int32.toInt x12) + 1)) ∧ (Int32.toInt x0) ≤ (Int32.toInt z20) ∧ CND ((Int32.toInt r27) = 0 ∧ 0 ≤ (Int32.toInt x12)) (LTC fn0 (Int32.toInt x11) (Int32.toInt x1) (Int32.toInt x2) (Int32.toInt x12) (Int32.toInt x3) fn1 fn2 f26 (Int32.toInt z20) fn1 fn2) ∧ LOW fn0 f26 (Int32.toInt x0) ∧ (¬ ((Int32.toInt r27) = 0) ∨ (Int32.toInt x12) < 40) from ⟨(show _ ∧ _ from ⟨p30, p31⟩).1, (show _ ∧ _ from ⟨p30, p31⟩).2, (show _ ∧ _ from ⟨p32, p33⟩).1, (show _ ∧ _ from ⟨p32, p33⟩).2, (show _ ∧ _ from ⟨p34, p35⟩).1, (show _ ∧ _ from ⟨p34, p35⟩).2, (show _ ∧ _ from ⟨p36, p37⟩).1, (show _ ∧ _ from ⟨p36, p37⟩).2, (show _ ∧ _ from ⟨p38, p39⟩).1, (show _ ∧ _ from ⟨p38, p39⟩).2, (show _ ∧ _ from ⟨p40, p41⟩).1, (show _ ∧ _ from ⟨p40, p41⟩).2, (show _ ∧ _ from ⟨p42, p43⟩).1, (show _ ∧ _ from ⟨p42, p43⟩).2, (by exact let_p0 (gb_at p7 (by omega)) ⟨by omega, by omega, by omega⟩ p44 (by omega) (by omega)), (by exact agr_le p45 (by omega)), (by ((repeat' apply And.intro) <;> first | trivial | rfl | assumption | omega | decide | exact Or.inl rfl | exact Or.inr (Or.inl rfl) | exact Or.inr (Or.inr rfl))), (by ((repeat' apply And.intro) <;> first | trivial | rfl | assumption | omega | decide | exact Or.inl rfl | exact Or.inr (Or.inl rfl) | exact Or.inr (Or.inr rfl))), (by exact fun h_9 => absurd h_9 (by omega)), (by exact p49), (by ((repeat' apply And.intro) <;> first | trivial | rfl | assumption | omega | decide | exact Or.inl rfl | exact Or.inr (Or.inl rfl) | exact Or.inr (Or.inr rfl)))⟩) [4, 0, 5, 2, 6, 3, 1] (by decide) rfl (Nat.le_of_ble_eq_true rfl) (Nat.le_of_ble_eq_true rfl)
      obtain ⟨k79, k80⟩ := w17
      have k80 := k80.symm
      subst k80
      refine r_if_eq_f 50 55 C dX10_takeLetter_50 (by decide) (by decide) ?_
      refine r_iconst 53 2 C dX10_takeLetter_53 (by decide) ?_
      exact r_iret 54 Rt dX10_takeLetter_54 (x0, x1, x2, x5, x6, x7, x12, fn0, fn1, fn2) (show 0 ≤ (Int32.toInt 2) ∧ (Int32.toInt 2) ≤ 2 ∧ 0 ≤ (Int32.toInt x0) ∧ (Int32.toInt x0) ≤ 1500 ∧ 0 ≤ (Int32.toInt x1) ∧ (Int32.toInt x1) ≤ 1500 ∧ 0 ≤ (Int32.toInt x2) ∧ (Int32.toInt x2) ≤ 1500 ∧ -1 ≤ (Int32.toInt x5) ∧ (Int32.toInt x5) ≤ 9999 ∧ 0 ≤ (Int32.toInt x6) ∧ (Int32.toInt x6) ≤ 1500 ∧ 0 ≤ (Int32.toInt x7) ∧ (Int32.toInt x7) ≤ 1500 ∧ SEQ 0 2 (LET (GB fn0 (Int32.toInt x11)) (Int32.toInt x11) (Int32.toInt x1) (Int32.toInt x2) (Int32.toInt x12)) (fun v => v = (Int32.toInt x0)) ∧ AGR fn0 fn0 (Int32.toInt x11) (Int32.toInt x0) ∧ (¬ (2 = 0) ∨ ((Int32.toInt x0) < (Int32.toInt x0) ∧ (Int32.toInt x0) ≤ (Int32.toInt x11) ∧ (Int32.toInt x12) = (Int32.toInt x12) + 1)) ∧ (Int32.toInt x0) ≤ (Int32.toInt x0) ∧ CND (2 = 0 ∧ 0 ≤ (Int32.toInt x12)) (LTC fn0 (Int32.toInt x11) (Int32.toInt x1) (Int32.toInt x2) (Int32.toInt x12) (Int32.toInt x3) fn1 fn2 fn0 (Int32.toInt x0) fn1 fn2) ∧ LOW fn0 fn0 (Int32.toInt x0) ∧ (¬ (2 = 0) ∨ (Int32.toInt x12) < 40) from ⟨(by ((repeat' apply And.intro) <;> first | trivial | rfl | assumption | omega | decide | exact Or.inl rfl | exact Or.inr (Or.inl rfl) | exact Or.inr (Or.inr rfl))), (by ((repeat' apply And.intro) <;> first | trivial | rfl | assumption | omega | decide | exact Or.inl rfl | exact Or.inr (Or.inl rfl) | exact Or.inr (Or.inr rfl))), i_x0.1, i_x0.2, i_x1.1, i_x1.2, i_x2.1, i_x2.2, i_x5.1, i_x5.2, i_x6.1, i_x6.2, i_x7.1, i_x7.2, (by exact let_no (gb_at p7 (by omega)) (by omega) (by omega)), (by exact agr_refl), (by ((repeat' apply And.intro) <;> first | trivial | rfl | assumption | omega | decide | exact Or.inl rfl | exact Or.inr (Or.inl rfl) | exact Or.inr (Or.inr rfl))), (by ((repeat' apply And.intro) <;> first | trivial | rfl | assumption | omega | decide | exact Or.inl rfl | exact Or.inr (Or.inl rfl) | exact Or.inr (Or.inr rfl))), (by exact fun h_9 => absurd h_9 (by omega)), (by exact low_0), (by ((repeat' apply And.intro) <;> first | trivial | rfl | assumption | omega | decide | exact Or.inl rfl | exact Or.inr (Or.inl rfl) | exact Or.inr (Or.inr rfl)))⟩) [0, 1, 3, 5, 4, 6, 2] (by decide) rfl (Nat.le_of_ble_eq_true rfl) (Nat.le_of_ble_eq_true rfl)
