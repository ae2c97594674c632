set_option maxHeartbeats 4000000 in
set_option maxRecDepth 100000 in
theorem lc_feed {p : Program} {e : Env} {s : State} {m : MethodId} {below : List Frame} {meth : Method} {c : Code} (l : Launch) {b : Nat} {xs : Nat → Int32} (C0 : lw_At p s m meth c b 6 xs) {g : GD} (C : Cx g p s m #[Value.ref b] meth c (fun q => s.heap.size ≤ q) RL cL_law 4 wsQ) (px : Nat) (pm : Nat) (a0 : Nat) (a9 : Nat) (b0 : Nat) (a1 : Nat) (a2 : Nat) (a3 : Nat) (a4 : Nat) (a5 : Nat) (a6 : Nat) (a7 : Nat) (a8 : Nat) (a10 : Nat → Int32) (b1 : Nat) (b2 : Nat) (b3 : Nat) (b4 : Nat) (b5 : Nat) (b6 : Nat) (b7 : Nat) (b8 : Nat) (b9 : Nat) (b10 : Nat) (b11 : Nat) (b12 : Nat) (b13 : Nat) (b14 : Nat) (b15 : Nat) (b16 : Nat) (b17 : Nat) (b18 : Nat) (b19 : Nat) (b20 : Nat) (b21 : Nat) (b22 : Nat) (b23 : Nat) (b24 : Nat) (b25 : Nat) (b26 : Nat) (b27 : Nat) (b28 : Nat) (b29 : Nat) (b30 : Nat) (b31 : Nat) (b32 : Nat) (b33 : Nat) (b34 : Nat) (b35 : Nat) (b36 : Nat → Int32) : WW p l e room_1 s m #[Value.ref b] below meth c (fun q => s.heap.size ≤ q) (lw_Z below #[Value.ref b] s) g 4 90 50196 [(px, .inr (10, [.ref a0, .ref a1, .ref a2, .ref a3, .ref a4, .ref a5, .ref a6, .ref a7, .ref a8, .null])), (a0, .inr (4, [.ref a9, .int 0])), (a9, .inl (gB g, 1500, .inl a10)), (pm, .inr (11, [.ref b0, .int 0, .ref b1, .int 0, .int 0, .int (-1), .ref b2, .ref b3, .ref b4, .ref b5, .int 0, .int 0, .int 0, .ref b6, .ref b7, .ref b8, .ref b9, .int 0, .int 0, .int 0, .long 0, .int 0, .int 0, .long 0, .long 0, .ref b10, .ref b11, .ref b12, .ref b13, .long 0, .int 0, .ref b14, .int 0, .int 0, .int 0, .int 0, .ref b15, .ref b16, .ref b17, .ref b18, .ref b19, .ref b20, .ref b21, .ref b22, .ref b23, .ref b24, .ref b25, .int 0, .int 0, .int 0, .int 0, .int 0, .int 0, .int 0, .long 0, .int 0, .ref b26, .ref b27, .long 0, .long 0, .int 0, .ref b28, .int 0, .ref b29, .ref b30, .ref b31, .ref b32, .int 0, .int 0, .int 0, .int 0, .ref b33, .ref b34, .int 0, .int 0, .ref b35])), (b0, .inl (gB g, 1500, .inl b36))] 108 [(3, .int 0), (2, .ref pm), (1, .ref px), (0, .ref b)] [] := by
  obtain ⟨hx, hb, hr, hml, hown, hts0, hX, hbl, hlocks, hgv⟩ := id C0
  have hbA : ¬ (fun q : Nat => s.heap.size ≤ q) b := Nat.not_le.mpr hbl
  refine r_aload_n 108 2 C dL_law_108 rfl ?_
  refine r_aload_n 109 3 C dL_law_109 rfl ?_
  refine r_iload_n 110 0 C dL_law_110 rfl ?_
  refine r_iconst 111 1 C dL_law_111 (by decide) ?_
  refine r_iadd 112 1 C dL_law_112 (by decide) ?_
  refine r_sld 113 (xs 1) C hX hbl hbA dL_law_113 (vin (by decide)) rfl ?_
  refine r_aload_n 114 3 C dL_law_114 rfl ?_
  refine r_iload_n 115 0 C dL_law_115 rfl ?_
  refine r_iconst 116 2 C dL_law_116 (by decide) ?_
  refine r_iadd 117 2 C dL_law_117 (by decide) ?_
  refine r_sld 118 (xs 2) C hX hbl hbA dL_law_118 (vin (by decide)) rfl ?_
  refine r_aload_n 119 3 C dL_law_119 rfl ?_
  refine r_iload_n 120 0 C dL_law_120 rfl ?_
  refine r_iconst 121 3 C dL_law_121 (by decide) ?_
  refine r_iadd 122 3 C dL_law_122 (by decide) ?_
  refine r_sld 123 (xs 3) C hX hbl hbA dL_law_123 (vin (by decide)) rfl ?_
  refine r_aload_n 124 3 C dL_law_124 rfl ?_
  refine r_iload_n 125 0 C dL_law_125 rfl ?_
  refine r_iconst 126 4 C dL_law_126 (by decide) ?_
  refine r_iadd 127 4 C dL_law_127 (by decide) ?_
  refine r_sld 128 (xs 4) C hX hbl hbA dL_law_128 (vin (by decide)) rfl ?_
  refine r_aload_n 129 3 C dL_law_129 rfl ?_
  refine r_iload_n 130 0 C dL_law_130 rfl ?_
  refine r_iconst 131 5 C dL_law_131 (by decide) ?_
  refine r_iadd 132 5 C dL_law_132 (by decide) ?_
  refine r_sld 133 (xs 5) C hX hbl hbA dL_law_133 (vin (by decide)) rfl ?_
  refine r_callVi 134 C dL_law_134 [] [(px, .inr (10, [.ref a0, .ref a1, .ref a2, .ref a3, .ref a4, .ref a5, .ref a6, .ref a7, .ref a8, .null])), (a0, .inr (4, [.ref a9, .int 0])), (a9, .inl (gB g, 1500, .inl a10))] [(pm, .inr (11, [.ref b0, .int 0, .ref b1, .int 0, .int 0, .int (-1), .ref b2, .ref b3, .ref b4, .ref b5, .int 0, .int 0, .int 0, .ref b6, .ref b7, .ref b8, .ref b9, .int 0, .int 0, .int 0, .long 0, .int 0, .int 0, .long 0, .long 0, .ref b10, .ref b11, .ref b12, .ref b13, .long 0, .int 0, .ref b14, .int 0, .int 0, .int 0, .int 0, .ref b15, .ref b16, .ref b17, .ref b18, .ref b19, .ref b20, .ref b21, .ref b22, .ref b23, .ref b24, .ref b25, .int 0, .int 0, .int 0, .int 0, .int 0, .int 0, .int 0, .long 0, .int 0, .ref b26, .ref b27, .long 0, .long 0, .int 0, .ref b28, .int 0, .ref b29, .ref b30, .ref b31, .ref b32, .int 0, .int 0, .int 0, .int 0, .ref b33, .ref b34, .int 0, .int 0, .ref b35])), (b0, .inl (gB g, 1500, .inl b36))] (fun sz => c44_X11_feed l g px (xs 1) (xs 2) (xs 3) (xs 4) (xs 5) a0 a9 a1 a2 a3 a4 a5 a6 a7 a8 a10 sz) gQ_X11_feed rfl ⟨rfl, rfl⟩ 5 (by decide) ⟨Nat.le_of_ble_eq_true rfl, Nat.le_of_ble_eq_true rfl⟩ 0 rfl rfl [0, 1, 2] [3, 4] rfl rfl (by decide) (by decide) (by decide) rfl rfl (Nat.le_of_ble_eq_true rfl) ⟨Nat.le_of_ble_eq_true rfl, Nat.le_of_ble_eq_true rfl⟩ (fun r1 _ w2 => ?_)
  refine r_ws [(pm, .inr (11, [.ref b0, .int 0, .ref b1, .int 0, .int 0, .int (-1), .ref b2, .ref b3, .ref b4, .ref b5, .int 0, .int 0, .int 0, .ref b6, .ref b7, .ref b8, .ref b9, .int 0, .int 0, .int 0, .long 0, .int 0, .int 0, .long 0, .long 0, .ref b10, .ref b11, .ref b12, .ref b13, .long 0, .int 0, .ref b14, .int 0, .int 0, .int 0, .int 0, .ref b15, .ref b16, .ref b17, .ref b18, .ref b19, .ref b20, .ref b21, .ref b22, .ref b23, .ref b24, .ref b25, .int 0, .int 0, .int 0, .int 0, .int 0, .int 0, .int 0, .long 0, .int 0, .ref b26, .ref b27, .long 0, .long 0, .int 0, .ref b28, .int 0, .ref b29, .ref b30, .ref b31, .ref b32, .int 0, .int 0, .int 0, .int 0, .ref b33, .ref b34, .int 0, .int 0, .ref b35])), (b0, .inl (gB g, 1500, .inl b36))] rfl ?_
  have w2 : r1 = 20 := w2
  subst w2
  refine r_aload_n 137 1 C dL_law_137 rfl ?_
  refine r_aload_n 138 3 C dL_law_138 rfl ?_
  refine r_iload_n 139 0 C dL_law_139 rfl ?_
  refine r_iconst 140 1 C dL_law_140 (by decide) ?_
  refine r_iadd 141 1 C dL_law_141 (by decide) ?_
  refine r_sld 142 (xs 1) C hX hbl hbA dL_law_142 (vin (by decide)) rfl ?_
  refine r_aload_n 143 3 C dL_law_143 rfl ?_
  refine r_iload_n 144 0 C dL_law_144 rfl ?_
  refine r_iconst 145 2 C dL_law_145 (by decide) ?_
  refine r_iadd 146 2 C dL_law_146 (by decide) ?_
  refine r_sld 147 (xs 2) C hX hbl hbA dL_law_147 (vin (by decide)) rfl ?_
  refine r_aload_n 148 3 C dL_law_148 rfl ?_
  refine r_iload_n 149 0 C dL_law_149 rfl ?_
  refine r_iconst 150 3 C dL_law_150 (by decide) ?_
  refine r_iadd 151 3 C dL_law_151 (by decide) ?_
  refine r_sld 152 (xs 3) C hX hbl hbA dL_law_152 (vin (by decide)) rfl ?_
  refine r_aload_n 153 3 C dL_law_153 rfl ?_
  refine r_iload_n 154 0 C dL_law_154 rfl ?_
  refine r_iconst 155 4 C dL_law_155 (by decide) ?_
  refine r_iadd 156 4 C dL_law_156 (by decide) ?_
  refine r_sld 157 (xs 4) C hX hbl hbA dL_law_157 (vin (by decide)) rfl ?_
  refine r_aload_n 158 3 C dL_law_158 rfl ?_
  refine r_iload_n 159 0 C dL_law_159 rfl ?_
  refine r_iconst 160 5 C dL_law_160 (by decide) ?_
  refine r_iadd 161 5 C dL_law_161 (by decide) ?_
  refine r_sld 162 (xs 5) C hX hbl hbA dL_law_162 (vin (by decide)) rfl ?_
  refine r_callVi 163 C dL_law_163 [.int 20] [(pm, .inr (11, [.ref b0, .int 0, .ref b1, .int 0, .int 0, .int (-1), .ref b2, .ref b3, .ref b4, .ref b5, .int 0, .int 0, .int 0, .ref b6, .ref b7, .ref b8, .ref b9, .int 0, .int 0, .int 0, .long 0, .int 0, .int 0, .long 0, .long 0, .ref b10, .ref b11, .ref b12, .ref b13, .long 0, .int 0, .ref b14, .int 0, .int 0, .int 0, .int 0, .ref b15, .ref b16, .ref b17, .ref b18, .ref b19, .ref b20, .ref b21, .ref b22, .ref b23, .ref b24, .ref b25, .int 0, .int 0, .int 0, .int 0, .int 0, .int 0, .int 0, .long 0, .int 0, .ref b26, .ref b27, .long 0, .long 0, .int 0, .ref b28, .int 0, .ref b29, .ref b30, .ref b31, .ref b32, .int 0, .int 0, .int 0, .int 0, .ref b33, .ref b34, .int 0, .int 0, .ref b35])), (b0, .inl (gB g, 1500, .inl b36))] [] (fun sz => c50_X12_feed l g pm (xs 1) (xs 2) (xs 3) (xs 4) (xs 5) b0 b1 b2 b3 b4 b5 b6 b7 b8 b9 b10 b11 b12 b13 b14 b15 b16 b17 b18 b19 b20 b21 b22 b23 b24 b25 b26 b27 b28 b29 b30 b31 b32 b33 b34 b35 b36 sz) gQ_X12_feed rfl ⟨rfl, rfl⟩ 5 (by decide) ⟨Nat.le_of_ble_eq_true rfl, Nat.le_of_ble_eq_true rfl⟩ 0 rfl rfl [0, 1] [] rfl rfl (by decide) (by decide) (by decide) rfl rfl (Nat.le_of_ble_eq_true rfl) ⟨Nat.le_of_ble_eq_true rfl, Nat.le_of_ble_eq_true rfl⟩ (fun r3 _ w4 => ?_)
  refine r_ws [] rfl ?_
  have w4 : r3 = 20 := w4
  subst w4
  refine r_icmp_eq_t 166 545 C dL_law_166 (by decide) (by decide) ?_
  refine r_iinc 545 0 6 C dL_law_545 rfl (by decide) [(3, .int 6), (2, .ref pm), (1, .ref px), (0, .ref b)] (by decide) rfl ?_
  refine r_goto 548 18 C dL_law_548 (by decide) ?_
  refine r_iload_n 18 0 C dL_law_18 rfl ?_
  refine r_aload_n 19 3 C dL_law_19 rfl ?_
  refine r_slen 20 6 C hX hbl hbA dL_law_20 (by decide) ?_
  refine r_bipush 21 6 C dL_law_21 (by decide) ?_
  refine r_isub 23 0 C dL_law_23 (by decide) ?_
  refine r_icmp_gt_t 24 551 C dL_law_24 (by decide) (by decide) ?_
  refine r_iconst 551 1 C dL_law_551 (by decide) ?_
  exact r_lawret hx hb hr hlocks 552 dL_law_552 (Nat.le_of_ble_eq_true rfl) (Nat.le_of_ble_eq_true rfl)
set_option maxHeartbeats 4000000 in
set_option maxRecDepth 100000 in
theorem lc_end {p : Program} {e : Env} {s : State} {m : MethodId} {below : List Frame} {meth : Method} {c : Code} (l : Launch) {b : Nat} {xs : Nat → Int32} (C0 : lw_At p s m meth c b 6 xs) {g : GD} (C : Cx g p s m #[Value.ref b] meth c (fun q => s.heap.size ≤ q) RL cL_law 4 wsQ) (px : Nat) (pm : Nat) (a0 : Nat) (a1 : Nat) (a2 : Nat) (a3 : Nat) (a4 : Nat) (a5 : Nat) (a6 : Nat) (a7 : Nat) (a8 : Nat) (a9 : Nat) (b0 : Nat) (b1 : Nat) (b2 : Nat) (b3 : Nat) (b4 : Nat) (b5 : Nat) (b6 : Nat) (b7 : Nat) (b8 : Nat) (b9 : Nat) (b10 : Nat) (b11 : Nat) (b12 : Nat) (b13 : Nat) (b14 : Nat) (b15 : Nat) (b16 : Nat) (b17 : Nat) (b18 : Nat) (b19 : Nat) (b20 : Nat) (b21 : Nat) (b22 : Nat) (b23 : Nat) (b24 : Nat) (b25 : Nat) (b26 : Nat) (b27 : Nat) (b28 : Nat) (b29 : Nat) (b30 : Nat) (b31 : Nat) (b32 : Nat) (b33 : Nat) (b34 : Nat) (b35 : Nat) : WW p l e room_1 s m #[Value.ref b] below meth c (fun q => s.heap.size ≤ q) (lw_Z below #[Value.ref b] s) g 4 90 50196 [(px, .inr (10, [.ref a0, .ref a1, .ref a2, .ref a3, .ref a4, .ref a5, .ref a6, .ref a7, .ref a8, .null])), (a0, .inr (4, [.ref a9, .int 0])), (pm, .inr (11, [.ref b0, .int 0, .ref b1, .int 0, .int 0, .int (-1), .ref b2, .ref b3, .ref b4, .ref b5, .int 0, .int 0, .int 0, .ref b6, .ref b7, .ref b8, .ref b9, .int 0, .int 0, .int 0, .long 0, .int 0, .int 0, .long 0, .long 0, .ref b10, .ref b11, .ref b12, .ref b13, .long 0, .int 0, .ref b14, .int 0, .int 0, .int 0, .int 0, .ref b15, .ref b16, .ref b17, .ref b18, .ref b19, .ref b20, .ref b21, .ref b22, .ref b23, .ref b24, .ref b25, .int 0, .int 0, .int 0, .int 0, .int 0, .int 0, .int 0, .long 0, .int 0, .ref b26, .ref b27, .long 0, .long 0, .int 0, .ref b28, .int 0, .ref b29, .ref b30, .ref b31, .ref b32, .int 0, .int 0, .int 0, .int 0, .ref b33, .ref b34, .int 0, .int 0, .ref b35]))] 171 [(3, .int 0), (2, .ref pm), (1, .ref px), (0, .ref b)] [] := by
  obtain ⟨hx, hb, hr, hml, hown, hts0, hX, hbl, hlocks, hgv⟩ := id C0
  have hbA : ¬ (fun q : Nat => s.heap.size ≤ q) b := Nat.not_le.mpr hbl
  refine r_aload_n 171 2 C dL_law_171 rfl ?_
  refine r_aload_n 172 3 C dL_law_172 rfl ?_
  refine r_iload_n 173 0 C dL_law_173 rfl ?_
  refine r_iconst 174 1 C dL_law_174 (by decide) ?_
  refine r_iadd 175 1 C dL_law_175 (by decide) ?_
  refine r_sld 176 (xs 1) C hX hbl hbA dL_law_176 (vin (by decide)) rfl ?_
  refine r_callVi 177 C dL_law_177 [] [(px, .inr (10, [.ref a0, .ref a1, .ref a2, .ref a3, .ref a4, .ref a5, .ref a6, .ref a7, .ref a8, .null])), (a0, .inr (4, [.ref a9, .int 0]))] [(pm, .inr (11, [.ref b0, .int 0, .ref b1, .int 0, .int 0, .int (-1), .ref b2, .ref b3, .ref b4, .ref b5, .int 0, .int 0, .int 0, .ref b6, .ref b7, .ref b8, .ref b9, .int 0, .int 0, .int 0, .long 0, .int 0, .int 0, .long 0, .long 0, .ref b10, .ref b11, .ref b12, .ref b13, .long 0, .int 0, .ref b14, .int 0, .int 0, .int 0, .int 0, .ref b15, .ref b16, .ref b17, .ref b18, .ref b19, .ref b20, .ref b21, .ref b22, .ref b23, .ref b24, .ref b25, .int 0, .int 0, .int 0, .int 0, .int 0, .int 0, .int 0, .long 0, .int 0, .ref b26, .ref b27, .long 0, .long 0, .int 0, .ref b28, .int 0, .ref b29, .ref b30, .ref b31, .ref b32, .int 0, .int 0, .int 0, .int 0, .ref b33, .ref b34, .int 0, .int 0, .ref b35]))] (fun sz => c52_X11_end l g px (xs 1) a0 a1 a2 a3 a4 a5 a6 a7 a8 a9 sz) gQ_X11_end rfl ⟨rfl, rfl⟩ 1 (by decide) ⟨Nat.le_of_ble_eq_true rfl, Nat.le_of_ble_eq_true rfl⟩ 0 rfl rfl [0, 1] [2] rfl rfl (by decide) (by decide) (by decide) rfl rfl (Nat.le_of_ble_eq_true rfl) ⟨Nat.le_of_ble_eq_true rfl, Nat.le_of_ble_eq_true rfl⟩ (fun r1 _ w2 => ?_)
  refine r_ws [(pm, .inr (11, [.ref b0, .int 0, .ref b1, .int 0, .int 0, .int (-1), .ref b2, .ref b3, .ref b4, .ref b5, .int 0, .int 0, .int 0, .ref b6, .ref b7, .ref b8, .ref b9, .int 0, .int 0, .int 0, .long 0, .int 0, .int 0, .long 0, .long 0, .ref b10, .ref b11, .ref b12, .ref b13, .long 0, .int 0, .ref b14, .int 0, .int 0, .int 0, .int 0, .ref b15, .ref b16, .ref b17, .ref b18, .ref b19, .ref b20, .ref b21, .ref b22, .ref b23, .ref b24, .ref b25, .int 0, .int 0, .int 0, .int 0, .int 0, .int 0, .int 0, .long 0, .int 0, .ref b26, .ref b27, .long 0, .long 0, .int 0, .ref b28, .int 0, .ref b29, .ref b30, .ref b31, .ref b32, .int 0, .int 0, .int 0, .int 0, .ref b33, .ref b34, .int 0, .int 0, .ref b35]))] rfl ?_
  rcases w2 with ⟨k3, rfl⟩ | w2
  · skip
    refine r_aload_n 180 1 C dL_law_180 rfl ?_
    refine r_aload_n 181 3 C dL_law_181 rfl ?_
    refine r_iload_n 182 0 C dL_law_182 rfl ?_
    refine r_iconst 183 1 C dL_law_183 (by decide) ?_
    refine r_iadd 184 1 C dL_law_184 (by decide) ?_
    refine r_sld 185 (xs 1) C hX hbl hbA dL_law_185 (vin (by decide)) rfl ?_
    refine r_callVi 186 C dL_law_186 [.int (-1)] [(pm, .inr (11, [.ref b0, .int 0, .ref b1, .int 0, .int 0, .int (-1), .ref b2, .ref b3, .ref b4, .ref b5, .int 0, .int 0, .int 0, .ref b6, .ref b7, .ref b8, .ref b9, .int 0, .int 0, .int 0, .long 0, .int 0, .int 0, .long 0, .long 0, .ref b10, .ref b11, .ref b12, .ref b13, .long 0, .int 0, .ref b14, .int 0, .int 0, .int 0, .int 0, .ref b15, .ref b16, .ref b17, .ref b18, .ref b19, .ref b20, .ref b21, .ref b22, .ref b23, .ref b24, .ref b25, .int 0, .int 0, .int 0, .int 0, .int 0, .int 0, .int 0, .long 0, .int 0, .ref b26, .ref b27, .long 0, .long 0, .int 0, .ref b28, .int 0, .ref b29, .ref b30, .ref b31, .ref b32, .int 0, .int 0, .int 0, .int 0, .ref b33, .ref b34, .int 0, .int 0, .ref b35]))] [] (fun sz => c54_X12_end l g pm (xs 1) b0 b1 b2 b3 b4 b5 b6 b7 b8 b9 b10 b11 b12 b13 b14 b15 b16 b17 b18 b19 b20 b21 b22 b23 b24 b25 b26 b27 b28 b29 b30 b31 b32 b33 b34 b35 sz) gQ_X12_end rfl ⟨rfl, rfl⟩ 1 (by decide) ⟨Nat.le_of_ble_eq_true rfl, Nat.le_of_ble_eq_true rfl⟩ 0 rfl rfl [0] [] rfl rfl (by decide) (by decide) (by decide) rfl rfl (Nat.le_of_ble_eq_true rfl) ⟨Nat.le_of_ble_eq_true rfl, Nat.le_of_ble_eq_true rfl⟩ (fun r4 _ w5 => ?_)
    refine r_ws [] rfl ?_
    rcases w5 with ⟨k6, rfl⟩ | w5
    · skip
      refine r_icmp_eq_t 189 545 C dL_law_189 (by decide) (by decide) ?_
      refine r_iinc 545 0 6 C dL_law_545 rfl (by decide) [(3, .int 6), (2, .ref pm), (1, .ref px), (0, .ref b)] (by decide) rfl ?_
      refine r_goto 548 18 C dL_law_548 (by decide) ?_
      refine r_iload_n 18 0 C dL_law_18 rfl ?_
      refine r_aload_n 19 3 C dL_law_19 rfl ?_
      refine r_slen 20 6 C hX hbl hbA dL_law_20 (by decide) ?_
      refine r_bipush 21 6 C dL_law_21 (by decide) ?_
      refine r_isub 23 0 C dL_law_23 (by decide) ?_
      refine r_icmp_gt_t 24 551 C dL_law_24 (by decide) (by decide) ?_
      refine r_iconst 551 1 C dL_law_551 (by decide) ?_
      exact r_lawret hx hb hr hlocks 552 dL_law_552 (Nat.le_of_ble_eq_true rfl) (Nat.le_of_ble_eq_true rfl)
    rcases w5 with ⟨k7, k8, rfl⟩ | w5
    · skip
      exact absurd trivial (by omega)
    obtain ⟨k9, k10, rfl⟩ := w5
    exact absurd trivial (by omega)
  rcases w2 with ⟨k11, k12, rfl⟩ | w2
  · skip
    refine r_aload_n 180 1 C dL_law_180 rfl ?_
    refine r_aload_n 181 3 C dL_law_181 rfl ?_
    refine r_iload_n 182 0 C dL_law_182 rfl ?_
    refine r_iconst 183 1 C dL_law_183 (by decide) ?_
    refine r_iadd 184 1 C dL_law_184 (by decide) ?_
    refine r_sld 185 (xs 1) C hX hbl hbA dL_law_185 (vin (by decide)) rfl ?_
    refine r_callVi 186 C dL_law_186 [.int 0] [(pm, .inr (11, [.ref b0, .int 0, .ref b1, .int 0, .int 0, .int (-1), .ref b2, .ref b3, .ref b4, .ref b5, .int 0, .int 0, .int 0, .ref b6, .ref b7, .ref b8, .ref b9, .int 0, .int 0, .int 0, .long 0, .int 0, .int 0, .long 0, .long 0, .ref b10, .ref b11, .ref b12, .ref b13, .long 0, .int 0, .ref b14, .int 0, .int 0, .int 0, .int 0, .ref b15, .ref b16, .ref b17, .ref b18, .ref b19, .ref b20, .ref b21, .ref b22, .ref b23, .ref b24, .ref b25, .int 0, .int 0, .int 0, .int 0, .int 0, .int 0, .int 0, .long 0, .int 0, .ref b26, .ref b27, .long 0, .long 0, .int 0, .ref b28, .int 0, .ref b29, .ref b30, .ref b31, .ref b32, .int 0, .int 0, .int 0, .int 0, .ref b33, .ref b34, .int 0, .int 0, .ref b35]))] [] (fun sz => c54_X12_end l g pm (xs 1) b0 b1 b2 b3 b4 b5 b6 b7 b8 b9 b10 b11 b12 b13 b14 b15 b16 b17 b18 b19 b20 b21 b22 b23 b24 b25 b26 b27 b28 b29 b30 b31 b32 b33 b34 b35 sz) gQ_X12_end rfl ⟨rfl, rfl⟩ 1 (by decide) ⟨Nat.le_of_ble_eq_true rfl, Nat.le_of_ble_eq_true rfl⟩ 0 rfl rfl [0] [] rfl rfl (by decide) (by decide) (by decide) rfl rfl (Nat.le_of_ble_eq_true rfl) ⟨Nat.le_of_ble_eq_true rfl, Nat.le_of_ble_eq_true rfl⟩ (fun r13 _ w14 => ?_)
    refine r_ws [] rfl ?_
    rcases w14 with ⟨k15, rfl⟩ | w14
    · skip
      exact absurd trivial (by omega)
    rcases w14 with ⟨k16, k17, rfl⟩ | w14
    · skip
      refine r_icmp_eq_t 189 545 C dL_law_189 (by decide) (by decide) ?_
      refine r_iinc 545 0 6 C dL_law_545 rfl (by decide) [(3, .int 6), (2, .ref pm), (1, .ref px), (0, .ref b)] (by decide) rfl ?_
      refine r_goto 548 18 C dL_law_548 (by decide) ?_
      refine r_iload_n 18 0 C dL_law_18 rfl ?_
      refine r_aload_n 19 3 C dL_law_19 rfl ?_
      refine r_slen 20 6 C hX hbl hbA dL_law_20 (by decide) ?_
      refine r_bipush 21 6 C dL_law_21 (by decide) ?_
      refine r_isub 23 0 C dL_law_23 (by decide) ?_
      refine r_icmp_gt_t 24 551 C dL_law_24 (by decide) (by decide) ?_
      refine r_iconst 551 1 C dL_law_551 (by decide) ?_
      exact r_lawret hx hb hr hlocks 552 dL_law_552 (Nat.le_of_ble_eq_true rfl) (Nat.le_of_ble_eq_true rfl)
    obtain ⟨k18, k19, rfl⟩ := w14
    exact absurd trivial (by omega)
  obtain ⟨k20, k21, rfl⟩ := w2
  refine r_aload_n 180 1 C dL_law_180 rfl ?_
  refine r_aload_n 181 3 C dL_law_181 rfl ?_
  refine r_iload_n 182 0 C dL_law_182 rfl ?_
  refine r_iconst 183 1 C dL_law_183 (by decide) ?_
  refine r_iadd 184 1 C dL_law_184 (by decide) ?_
  refine r_sld 185 (xs 1) C hX hbl hbA dL_law_185 (vin (by decide)) rfl ?_
  refine r_callVi 186 C dL_law_186 [.int (-1)] [(pm, .inr (11, [.ref b0, .int 0, .ref b1, .int 0, .int 0, .int (-1), .ref b2, .ref b3, .ref b4, .ref b5, .int 0, .int 0, .int 0, .ref b6, .ref b7, .ref b8, .ref b9, .int 0, .int 0, .int 0, .long 0, .int 0, .int 0, .long 0, .long 0, .ref b10, .ref b11, .ref b12, .ref b13, .long 0, .int 0, .ref b14, .int 0, .int 0, .int 0, .int 0, .ref b15, .ref b16, .ref b17, .ref b18, .ref b19, .ref b20, .ref b21, .ref b22, .ref b23, .ref b24, .ref b25, .int 0, .int 0, .int 0, .int 0, .int 0, .int 0, .int 0, .long 0, .int 0, .ref b26, .ref b27, .long 0, .long 0, .int 0, .ref b28, .int 0, .ref b29, .ref b30, .ref b31, .ref b32, .int 0, .int 0, .int 0, .int 0, .ref b33, .ref b34, .int 0, .int 0, .ref b35]))] [] (fun sz => c54_X12_end l g pm (xs 1) b0 b1 b2 b3 b4 b5 b6 b7 b8 b9 b10 b11 b12 b13 b14 b15 b16 b17 b18 b19 b20 b21 b22 b23 b24 b25 b26 b27 b28 b29 b30 b31 b32 b33 b34 b35 sz) gQ_X12_end rfl ⟨rfl, rfl⟩ 1 (by decide) ⟨Nat.le_of_ble_eq_true rfl, Nat.le_of_ble_eq_true rfl⟩ 0 rfl rfl [0] [] rfl rfl (by decide) (by decide) (by decide) rfl rfl (Nat.le_of_ble_eq_true rfl) ⟨Nat.le_of_ble_eq_true rfl, Nat.le_of_ble_eq_true rfl⟩ (fun r22 _ w23 => ?_)
  refine r_ws [] rfl ?_
  rcases w23 with ⟨k24, rfl⟩ | w23
  · skip
    exact absurd trivial (by omega)
  rcases w23 with ⟨k25, k26, rfl⟩ | w23
  · skip
    exact absurd trivial (by omega)
  obtain ⟨k27, k28, rfl⟩ := w23
  refine r_icmp_eq_t 189 545 C dL_law_189 (by decide) (by decide) ?_
  refine r_iinc 545 0 6 C dL_law_545 rfl (by decide) [(3, .int 6), (2, .ref pm), (1, .ref px), (0, .ref b)] (by decide) rfl ?_
  refine r_goto 548 18 C dL_law_548 (by decide) ?_
  refine r_iload_n 18 0 C dL_law_18 rfl ?_
  refine r_aload_n 19 3 C dL_law_19 rfl ?_
  refine r_slen 20 6 C hX hbl hbA dL_law_20 (by decide) ?_
  refine r_bipush 21 6 C dL_law_21 (by decide) ?_
  refine r_isub 23 0 C dL_law_23 (by decide) ?_
  refine r_icmp_gt_t 24 551 C dL_law_24 (by decide) (by decide) ?_
  refine r_iconst 551 1 C dL_law_551 (by decide) ?_
  exact r_lawret hx hb hr hlocks 552 dL_law_552 (Nat.le_of_ble_eq_true rfl) (Nat.le_of_ble_eq_true rfl)
set_option maxHeartbeats 4000000 in
set_option maxRecDepth 100000 in
theorem lc_read {p : Program} {e : Env} {s : State} {m : MethodId} {below : List Frame} {meth : Method} {c : Code} (l : Launch) {b : Nat} {xs : Nat → Int32} (C0 : lw_At p s m meth c b 6 xs) {g : GD} (C : Cx g p s m #[Value.ref b] meth c (fun q => s.heap.size ≤ q) RL cL_law 4 wsQ) (px : Nat) (pm : Nat) (a0 : Nat) (a3 : Nat) (a28 : Nat) (a29 : Nat) (a34 : Nat) (a30 : Nat) (a37 : Nat) (a31 : Nat) (a40 : Nat) (a4 : Nat) (a43 : Nat) (a45 : Nat) (a46 : Nat) (a47 : Nat) (a5 : Nat) (b6 : Nat) (a1 : Nat) (a2 : Nat) (a6 : Nat) (a7 : Nat) (a8 : Nat) (a9 : Nat) (a32 : Nat) (a35 : Nat) (a36 : Nat → Int32) (a38 : Nat) (a39 : Nat → Int32) (a41 : Nat) (a42 : Nat → Int32) (a44 : Nat) (a48 : Nat → Int32) (b0 : Nat) (b1 : Nat) (b2 : Nat) (b3 : Nat) (b4 : Nat) (b5 : Nat) (b7 : Nat) (b8 : Nat) (b9 : Nat) (b10 : Nat) (b11 : Nat) (b12 : Nat) (b13 : Nat) (b14 : Nat) (b15 : Nat) (b16 : Nat) (b17 : Nat) (b18 : Nat) (b19 : Nat) (b20 : Nat) (b21 : Nat) (b22 : Nat) (b23 : Nat) (b24 : Nat) (b25 : Nat) (b26 : Nat) (b27 : Nat) (b28 : Nat) (b29 : Nat) (b30 : Nat) (b31 : Nat) (b32 : Nat) (b33 : Nat) (b34 : Nat) (b35 : Nat) (b36 : Nat → Int32) : WW p l e room_1 s m #[Value.ref b] below meth c (fun q => s.heap.size ≤ q) (lw_Z below #[Value.ref b] s) g 4 90 50196 [(px, .inr (10, [.ref a0, .ref a1, .ref a2, .ref a3, .ref a4, .ref a5, .ref a6, .ref a7, .ref a8, .null])), (a0, .inr (4, [.ref a9, .int 0])), (a3, .inr (3, [.ref a28, .ref a29, .ref a30, .ref a31, .int (-1), .int 0, .int 0])), (a28, .inr (4, [.ref a32, .int 0])), (a29, .inr (7, [.ref a28, .ref a34, .ref a35, .int 0, .int 0, .int 0])), (a34, .inl (gI g, 40, .inl a36)), (a30, .inr (7, [.ref a28, .ref a37, .ref a38, .int 0, .int 0, .int 0])), (a37, .inl (gI g, 200, .inl a39)), (a31, .inr (7, [.ref a28, .ref a40, .ref a41, .int 0, .int 0, .int 0])), (a40, .inl (gI g, 0, .inl a42)), (a4, .inr (1, [.ref a43, .null, .null, .int 0, .long 0, .long 9223372036854775807, .int 0, .int 0, .long 0, .long 0])), (a43, .inr (2, [.ref a44, .int 0, .int 0, .ref a45, .ref a46, .ref a47])), (a45, .inl (gI g, 6, .inl a48)), (a46, .inl (gI g, 6, .inl a48)), (a47, .inl (gI g, 6, .inl a48)), (a5, .inr (9, [.null, .null, .int 0, .int 0, .int 0, .int 0, .int 0, .int 0, .int 0, .int 0])), (pm, .inr (11, [.ref b0, .int 0, .ref b1, .int 0, .int 0, .int (-1), .ref b2, .ref b3, .ref b4, .ref b5, .int 0, .int 0, .int 0, .ref b6, .ref b7, .ref b8, .ref b9, .int 0, .int 0, .int 0, .long 0, .int 0, .int 0, .long 0, .long 0, .ref b10, .ref b11, .ref b12, .ref b13, .long 0, .int 0, .ref b14, .int 0, .int 0, .int 0, .int 0, .ref b15, .ref b16, .ref b17, .ref b18, .ref b19, .ref b20, .ref b21, .ref b22, .ref b23, .ref b24, .ref b25, .int 0, .int 0, .int 0, .int 0, .int 0, .int 0, .int 0, .long 0, .int 0, .ref b26, .ref b27, .long 0, .long 0, .int 0, .ref b28, .int 0, .ref b29, .ref b30, .ref b31, .ref b32, .int 0, .int 0, .int 0, .int 0, .ref b33, .ref b34, .int 0, .int 0, .ref b35])), (b6, .inl (gI g, 3, .inl b36))] 194 [(3, .int 0), (2, .ref pm), (1, .ref px), (0, .ref b)] [] := by
  obtain ⟨hx, hb, hr, hml, hown, hts0, hX, hbl, hlocks, hgv⟩ := id C0
  have hbA : ¬ (fun q : Nat => s.heap.size ≤ q) b := Nat.not_le.mpr hbl
  refine r_aload_n 194 2 C dL_law_194 rfl ?_
  refine r_aload_n 195 3 C dL_law_195 rfl ?_
  refine r_iload_n 196 0 C dL_law_196 rfl ?_
  refine r_iconst 197 1 C dL_law_197 (by decide) ?_
  refine r_iadd 198 1 C dL_law_198 (by decide) ?_
  refine r_sld 199 (xs 1) C hX hbl hbA dL_law_199 (vin (by decide)) rfl ?_
  refine r_callVi 200 C dL_law_200 [] [(px, .inr (10, [.ref a0, .ref a1, .ref a2, .ref a3, .ref a4, .ref a5, .ref a6, .ref a7, .ref a8, .null])), (a0, .inr (4, [.ref a9, .int 0])), (a3, .inr (3, [.ref a28, .ref a29, .ref a30, .ref a31, .int (-1), .int 0, .int 0])), (a28, .inr (4, [.ref a32, .int 0])), (a29, .inr (7, [.ref a28, .ref a34, .ref a35, .int 0, .int 0, .int 0])), (a34, .inl (gI g, 40, .inl a36)), (a30, .inr (7, [.ref a28, .ref a37, .ref a38, .int 0, .int 0, .int 0])), (a37, .inl (gI g, 200, .inl a39)), (a31, .inr (7, [.ref a28, .ref a40, .ref a41, .int 0, .int 0, .int 0])), (a40, .inl (gI g, 0, .inl a42)), (a4, .inr (1, [.ref a43, .null, .null, .int 0, .long 0, .long 9223372036854775807, .int 0, .int 0, .long 0, .long 0])), (a43, .inr (2, [.ref a44, .int 0, .int 0, .ref a45, .ref a46, .ref a47])), (a45, .inl (gI g, 6, .inl a48)), (a46, .inl (gI g, 6, .inl a48)), (a47, .inl (gI g, 6, .inl a48)), (a5, .inr (9, [.null, .null, .int 0, .int 0, .int 0, .int 0, .int 0, .int 0, .int 0, .int 0]))] [(pm, .inr (11, [.ref b0, .int 0, .ref b1, .int 0, .int 0, .int (-1), .ref b2, .ref b3, .ref b4, .ref b5, .int 0, .int 0, .int 0, .ref b6, .ref b7, .ref b8, .ref b9, .int 0, .int 0, .int 0, .long 0, .int 0, .int 0, .long 0, .long 0, .ref b10, .ref b11, .ref b12, .ref b13, .long 0, .int 0, .ref b14, .int 0, .int 0, .int 0, .int 0, .ref b15, .ref b16, .ref b17, .ref b18, .ref b19, .ref b20, .ref b21, .ref b22, .ref b23, .ref b24, .ref b25, .int 0, .int 0, .int 0, .int 0, .int 0, .int 0, .int 0, .long 0, .int 0, .ref b26, .ref b27, .long 0, .long 0, .int 0, .ref b28, .int 0, .ref b29, .ref b30, .ref b31, .ref b32, .int 0, .int 0, .int 0, .int 0, .ref b33, .ref b34, .int 0, .int 0, .ref b35])), (b6, .inl (gI g, 3, .inl b36))] (fun sz => c106_X11_read l g px (xs 1) a0 a3 a28 a29 a34 a30 a37 a31 a40 a4 a43 a45 a46 a47 a5 a1 a2 a6 a7 a8 a9 a32 a35 a36 a38 a39 a41 a42 a44 a48 sz) gQ_X11_read rfl ⟨rfl, rfl⟩ 1 (by decide) ⟨Nat.le_of_ble_eq_true rfl, Nat.le_of_ble_eq_true rfl⟩ 0 rfl rfl [0, 1, 2, 3, 4, 5, 6, 7, 8, 9, 10, 11, 12, 13, 14, 15] [16, 17] rfl rfl (by decide) (by decide) (by decide) rfl rfl (Nat.le_of_ble_eq_true rfl) ⟨Nat.le_of_ble_eq_true rfl, Nat.le_of_ble_eq_true rfl⟩ (fun r1 _ w2 => ?_)
  refine r_ws [(pm, .inr (11, [.ref b0, .int 0, .ref b1, .int 0, .int 0, .int (-1), .ref b2, .ref b3, .ref b4, .ref b5, .int 0, .int 0, .int 0, .ref b6, .ref b7, .ref b8, .ref b9, .int 0, .int 0, .int 0, .long 0, .int 0, .int 0, .long 0, .long 0, .ref b10, .ref b11, .ref b12, .ref b13, .long 0, .int 0, .ref b14, .int 0, .int 0, .int 0, .int 0, .ref b15, .ref b16, .ref b17, .ref b18, .ref b19, .ref b20, .ref b21, .ref b22, .ref b23, .ref b24, .ref b25, .int 0, .int 0, .int 0, .int 0, .int 0, .int 0, .int 0, .long 0, .int 0, .ref b26, .ref b27, .long 0, .long 0, .int 0, .ref b28, .int 0, .ref b29, .ref b30, .ref b31, .ref b32, .int 0, .int 0, .int 0, .int 0, .ref b33, .ref b34, .int 0, .int 0, .ref b35])), (b6, .inl (gI g, 3, .inl b36))] rfl ?_
  rcases w2 with ⟨k3, rfl⟩ | w2
  · skip
    refine r_aload_n 203 1 C dL_law_203 rfl ?_
    refine r_aload_n 204 3 C dL_law_204 rfl ?_
    refine r_iload_n 205 0 C dL_law_205 rfl ?_
    refine r_iconst 206 1 C dL_law_206 (by decide) ?_
    refine r_iadd 207 1 C dL_law_207 (by decide) ?_
    refine r_sld 208 (xs 1) C hX hbl hbA dL_law_208 (vin (by decide)) rfl ?_
    refine r_callVi 209 C dL_law_209 [.int 1] [(pm, .inr (11, [.ref b0, .int 0, .ref b1, .int 0, .int 0, .int (-1), .ref b2, .ref b3, .ref b4, .ref b5, .int 0, .int 0, .int 0, .ref b6, .ref b7, .ref b8, .ref b9, .int 0, .int 0, .int 0, .long 0, .int 0, .int 0, .long 0, .long 0, .ref b10, .ref b11, .ref b12, .ref b13, .long 0, .int 0, .ref b14, .int 0, .int 0, .int 0, .int 0, .ref b15, .ref b16, .ref b17, .ref b18, .ref b19, .ref b20, .ref b21, .ref b22, .ref b23, .ref b24, .ref b25, .int 0, .int 0, .int 0, .int 0, .int 0, .int 0, .int 0, .long 0, .int 0, .ref b26, .ref b27, .long 0, .long 0, .int 0, .ref b28, .int 0, .ref b29, .ref b30, .ref b31, .ref b32, .int 0, .int 0, .int 0, .int 0, .ref b33, .ref b34, .int 0, .int 0, .ref b35])), (b6, .inl (gI g, 3, .inl b36))] [] (fun sz => c113_X12_read l g pm (xs 1) b6 b0 b1 b2 b3 b4 b5 b7 b8 b9 b10 b11 b12 b13 b14 b15 b16 b17 b18 b19 b20 b21 b22 b23 b24 b25 b26 b27 b28 b29 b30 b31 b32 b33 b34 b35 b36 sz) gQ_X12_read rfl ⟨rfl, rfl⟩ 1 (by decide) ⟨Nat.le_of_ble_eq_true rfl, Nat.le_of_ble_eq_true rfl⟩ 0 rfl rfl [0, 1] [] rfl rfl (by decide) (by decide) (by decide) rfl rfl (Nat.le_of_ble_eq_true rfl) ⟨Nat.le_of_ble_eq_true rfl, Nat.le_of_ble_eq_true rfl⟩ (fun r4 _ w5 => ?_)
    refine r_ws [] rfl ?_
    rcases w5 with ⟨k6, rfl⟩ | w5
    · skip
      exact absurd trivial (by omega)
    rcases w5 with ⟨k7, k8, k9, rfl⟩ | w5
    · skip
      exact absurd trivial (by omega)
    rcases w5 with ⟨k10, k11, k12, rfl⟩ | w5
    · skip
      refine r_icmp_eq_t 212 545 C dL_law_212 (by decide) (by decide) ?_
      refine r_iinc 545 0 6 C dL_law_545 rfl (by decide) [(3, .int 6), (2, .ref pm), (1, .ref px), (0, .ref b)] (by decide) rfl ?_
      refine r_goto 548 18 C dL_law_548 (by decide) ?_
      refine r_iload_n 18 0 C dL_law_18 rfl ?_
      refine r_aload_n 19 3 C dL_law_19 rfl ?_
      refine r_slen 20 6 C hX hbl hbA dL_law_20 (by decide) ?_
      refine r_bipush 21 6 C dL_law_21 (by decide) ?_
      refine r_isub 23 0 C dL_law_23 (by decide) ?_
      refine r_icmp_gt_t 24 551 C dL_law_24 (by decide) (by decide) ?_
      refine r_iconst 551 1 C dL_law_551 (by decide) ?_
      exact r_lawret hx hb hr hlocks 552 dL_law_552 (Nat.le_of_ble_eq_true rfl) (Nat.le_of_ble_eq_true rfl)
    obtain ⟨k13, k14, rfl⟩ := w5
    exact absurd trivial (by omega)
  rcases w2 with ⟨k15, k16, rfl⟩ | w2
  · skip
    refine r_aload_n 203 1 C dL_law_203 rfl ?_
    refine r_aload_n 204 3 C dL_law_204 rfl ?_
    refine r_iload_n 205 0 C dL_law_205 rfl ?_
    refine r_iconst 206 1 C dL_law_206 (by decide) ?_
    refine r_iadd 207 1 C dL_law_207 (by decide) ?_
    refine r_sld 208 (xs 1) C hX hbl hbA dL_law_208 (vin (by decide)) rfl ?_
    refine r_callVi 209 C dL_law_209 [.int 1] [(pm, .inr (11, [.ref b0, .int 0, .ref b1, .int 0, .int 0, .int (-1), .ref b2, .ref b3, .ref b4, .ref b5, .int 0, .int 0, .int 0, .ref b6, .ref b7, .ref b8, .ref b9, .int 0, .int 0, .int 0, .long 0, .int 0, .int 0, .long 0, .long 0, .ref b10, .ref b11, .ref b12, .ref b13, .long 0, .int 0, .ref b14, .int 0, .int 0, .int 0, .int 0, .ref b15, .ref b16, .ref b17, .ref b18, .ref b19, .ref b20, .ref b21, .ref b22, .ref b23, .ref b24, .ref b25, .int 0, .int 0, .int 0, .int 0, .int 0, .int 0, .int 0, .long 0, .int 0, .ref b26, .ref b27, .long 0, .long 0, .int 0, .ref b28, .int 0, .ref b29, .ref b30, .ref b31, .ref b32, .int 0, .int 0, .int 0, .int 0, .ref b33, .ref b34, .int 0, .int 0, .ref b35])), (b6, .inl (gI g, 3, .inl b36))] [] (fun sz => c113_X12_read l g pm (xs 1) b6 b0 b1 b2 b3 b4 b5 b7 b8 b9 b10 b11 b12 b13 b14 b15 b16 b17 b18 b19 b20 b21 b22 b23 b24 b25 b26 b27 b28 b29 b30 b31 b32 b33 b34 b35 b36 sz) gQ_X12_read rfl ⟨rfl, rfl⟩ 1 (by decide) ⟨Nat.le_of_ble_eq_true rfl, Nat.le_of_ble_eq_true rfl⟩ 0 rfl rfl [0, 1] [] rfl rfl (by decide) (by decide) (by decide) rfl rfl (Nat.le_of_ble_eq_true rfl) ⟨Nat.le_of_ble_eq_true rfl, Nat.le_of_ble_eq_true rfl⟩ (fun r17 _ w18 => ?_)
    refine r_ws [] rfl ?_
    rcases w18 with ⟨k19, rfl⟩ | w18
    · skip
      exact absurd trivial (by omega)
    rcases w18 with ⟨k20, k21, k22, rfl⟩ | w18
    · skip
      refine r_icmp_eq_t 212 545 C dL_law_212 (by decide) (by decide) ?_
      refine r_iinc 545 0 6 C dL_law_545 rfl (by decide) [(3, .int 6), (2, .ref pm), (1, .ref px), (0, .ref b)] (by decide) rfl ?_
      refine r_goto 548 18 C dL_law_548 (by decide) ?_
      refine r_iload_n 18 0 C dL_law_18 rfl ?_
      refine r_aload_n 19 3 C dL_law_19 rfl ?_
      refine r_slen 20 6 C hX hbl hbA dL_law_20 (by decide) ?_
      refine r_bipush 21 6 C dL_law_21 (by decide) ?_
      refine r_isub 23 0 C dL_law_23 (by decide) ?_
      refine r_icmp_gt_t 24 551 C dL_law_24 (by decide) (by decide) ?_
      refine r_iconst 551 1 C dL_law_551 (by decide) ?_
      exact r_lawret hx hb hr hlocks 552 dL_law_552 (Nat.le_of_ble_eq_true rfl) (Nat.le_of_ble_eq_true rfl)
    rcases w18 with ⟨k23, k24, k25, rfl⟩ | w18
    · skip
      exact absurd trivial (by omega)
    obtain ⟨k26, k27, rfl⟩ := w18
    exact absurd trivial (by omega)
  obtain ⟨k28, k29, rfl⟩ := w2
  refine r_aload_n 203 1 C dL_law_203 rfl ?_
  refine r_aload_n 204 3 C dL_law_204 rfl ?_
  refine r_iload_n 205 0 C dL_law_205 rfl ?_
  refine r_iconst 206 1 C dL_law_206 (by decide) ?_
  refine r_iadd 207 1 C dL_law_207 (by decide) ?_
  refine r_sld 208 (xs 1) C hX hbl hbA dL_law_208 (vin (by decide)) rfl ?_
  refine r_callVi 209 C dL_law_209 [.int (-1)] [(pm, .inr (11, [.ref b0, .int 0, .ref b1, .int 0, .int 0, .int (-1), .ref b2, .ref b3, .ref b4, .ref b5, .int 0, .int 0, .int 0, .ref b6, .ref b7, .ref b8, .ref b9, .int 0, .int 0, .int 0, .long 0, .int 0, .int 0, .long 0, .long 0, .ref b10, .ref b11, .ref b12, .ref b13, .long 0, .int 0, .ref b14, .int 0, .int 0, .int 0, .int 0, .ref b15, .ref b16, .ref b17, .ref b18, .ref b19, .ref b20, .ref b21, .ref b22, .ref b23, .ref b24, .ref b25, .int 0, .int 0, .int 0, .int 0, .int 0, .int 0, .int 0, .long 0, .int 0, .ref b26, .ref b27, .long 0, .long 0, .int 0, .ref b28, .int 0, .ref b29, .ref b30, .ref b31, .ref b32, .int 0, .int 0, .int 0, .int 0, .ref b33, .ref b34, .int 0, .int 0, .ref b35])), (b6, .inl (gI g, 3, .inl b36))] [] (fun sz => c113_X12_read l g pm (xs 1) b6 b0 b1 b2 b3 b4 b5 b7 b8 b9 b10 b11 b12 b13 b14 b15 b16 b17 b18 b19 b20 b21 b22 b23 b24 b25 b26 b27 b28 b29 b30 b31 b32 b33 b34 b35 b36 sz) gQ_X12_read rfl ⟨rfl, rfl⟩ 1 (by decide) ⟨Nat.le_of_ble_eq_true rfl, Nat.le_of_ble_eq_true rfl⟩ 0 rfl rfl [0, 1] [] rfl rfl (by decide) (by decide) (by decide) rfl rfl (Nat.le_of_ble_eq_true rfl) ⟨Nat.le_of_ble_eq_true rfl, Nat.le_of_ble_eq_true rfl⟩ (fun r30 _ w31 => ?_)
  refine r_ws [] rfl ?_
  rcases w31 with ⟨k32, rfl⟩ | w31
  · skip
    refine r_icmp_eq_t 212 545 C dL_law_212 (by decide) (by decide) ?_
    refine r_iinc 545 0 6 C dL_law_545 rfl (by decide) [(3, .int 6), (2, .ref pm), (1, .ref px), (0, .ref b)] (by decide) rfl ?_
    refine r_goto 548 18 C dL_law_548 (by decide) ?_
    refine r_iload_n 18 0 C dL_law_18 rfl ?_
    refine r_aload_n 19 3 C dL_law_19 rfl ?_
    refine r_slen 20 6 C hX hbl hbA dL_law_20 (by decide) ?_
    refine r_bipush 21 6 C dL_law_21 (by decide) ?_
    refine r_isub 23 0 C dL_law_23 (by decide) ?_
    refine r_icmp_gt_t 24 551 C dL_law_24 (by decide) (by decide) ?_
    refine r_iconst 551 1 C dL_law_551 (by decide) ?_
    exact r_lawret hx hb hr hlocks 552 dL_law_552 (Nat.le_of_ble_eq_true rfl) (Nat.le_of_ble_eq_true rfl)
  rcases w31 with ⟨k33, k34, k35, rfl⟩ | w31
  · skip
    refine r_icmp_eq_f 212 545 C dL_law_212 (by decide) (by decide) ?_
    refine r_iconst 215 0 C dL_law_215 (by decide) ?_
    exact absurd trivial (by omega)
  rcases w31 with ⟨k36, k37, k38, rfl⟩ | w31
  · skip
    refine r_icmp_eq_f 212 545 C dL_law_212 (by decide) (by decide) ?_
    refine r_iconst 215 0 C dL_law_215 (by decide) ?_
    exact absurd trivial (by omega)
  obtain ⟨k39, k40, rfl⟩ := w31
  refine r_icmp_eq_t 212 545 C dL_law_212 (by decide) (by decide) ?_
  refine r_iinc 545 0 6 C dL_law_545 rfl (by decide) [(3, .int 6), (2, .ref pm), (1, .ref px), (0, .ref b)] (by decide) rfl ?_
  refine r_goto 548 18 C dL_law_548 (by decide) ?_
  refine r_iload_n 18 0 C dL_law_18 rfl ?_
  refine r_aload_n 19 3 C dL_law_19 rfl ?_
  refine r_slen 20 6 C hX hbl hbA dL_law_20 (by decide) ?_
  refine r_bipush 21 6 C dL_law_21 (by decide) ?_
  refine r_isub 23 0 C dL_law_23 (by decide) ?_
  refine r_icmp_gt_t 24 551 C dL_law_24 (by decide) (by decide) ?_
  refine r_iconst 551 1 C dL_law_551 (by decide) ?_
  exact r_lawret hx hb hr hlocks 552 dL_law_552 (Nat.le_of_ble_eq_true rfl) (Nat.le_of_ble_eq_true rfl)
set_option maxHeartbeats 4000000 in
set_option maxRecDepth 100000 in
theorem lc_font {p : Program} {e : Env} {s : State} {m : MethodId} {below : List Frame} {meth : Method} {c : Code} (l : Launch) {b : Nat} {xs : Nat → Int32} (C0 : lw_At p s m meth c b 6 xs) {g : GD} (C : Cx g p s m #[Value.ref b] meth c (fun q => s.heap.size ≤ q) RL cL_law 4 wsQ) (px : Nat) (pm : Nat) (a2 : Nat) (a0 : Nat) (a1 : Nat) (a3 : Nat) (a4 : Nat) (a5 : Nat) (a6 : Nat) (a7 : Nat) (a8 : Nat) (a13 : Nat) (a14 : Nat) (a15 : Nat) (a16 : Nat) (b0 : Nat) (b1 : Nat) (b2 : Nat) (b3 : Nat) (b4 : Nat) (b5 : Nat) (b6 : Nat) (b7 : Nat) (b8 : Nat) (b9 : Nat) (b10 : Nat) (b11 : Nat) (b12 : Nat) (b13 : Nat) (b14 : Nat) (b15 : Nat) (b16 : Nat) (b17 : Nat) (b18 : Nat) (b19 : Nat) (b20 : Nat) (b21 : Nat) (b22 : Nat) (b23 : Nat) (b24 : Nat) (b25 : Nat) (b26 : Nat) (b27 : Nat) (b28 : Nat) (b29 : Nat) (b30 : Nat) (b31 : Nat) (b32 : Nat) (b33 : Nat) (b34 : Nat) (b35 : Nat) : WW p l e room_1 s m #[Value.ref b] below meth c (fun q => s.heap.size ≤ q) (lw_Z below #[Value.ref b] s) g 4 90 50196 [(px, .inr (10, [.ref a0, .ref a1, .ref a2, .ref a3, .ref a4, .ref a5, .ref a6, .ref a7, .ref a8, .null])), (a2, .inr (3, [.ref a13, .ref a14, .ref a15, .ref a16, .int (-1), .int 0, .int 0])), (pm, .inr (11, [.ref b0, .int 0, .ref b1, .int 0, .int 0, .int (-1), .ref b2, .ref b3, .ref b4, .ref b5, .int 0, .int 0, .int 0, .ref b6, .ref b7, .ref b8, .ref b9, .int 0, .int 0, .int 0, .long 0, .int 0, .int 0, .long 0, .long 0, .ref b10, .ref b11, .ref b12, .ref b13, .long 0, .int 0, .ref b14, .int 0, .int 0, .int 0, .int 0, .ref b15, .ref b16, .ref b17, .ref b18, .ref b19, .ref b20, .ref b21, .ref b22, .ref b23, .ref b24, .ref b25, .int 0, .int 0, .int 0, .int 0, .int 0, .int 0, .int 0, .long 0, .int 0, .ref b26, .ref b27, .long 0, .long 0, .int 0, .ref b28, .int 0, .ref b29, .ref b30, .ref b31, .ref b32, .int 0, .int 0, .int 0, .int 0, .ref b33, .ref b34, .int 0, .int 0, .ref b35]))] 217 [(3, .int 0), (2, .ref pm), (1, .ref px), (0, .ref b)] [] := by
  obtain ⟨hx, hb, hr, hml, hown, hts0, hX, hbl, hlocks, hgv⟩ := id C0
  have hbA : ¬ (fun q : Nat => s.heap.size ≤ q) b := Nat.not_le.mpr hbl
  refine r_aload_n 217 2 C dL_law_217 rfl ?_
  refine r_aload_n 218 3 C dL_law_218 rfl ?_
  refine r_iload_n 219 0 C dL_law_219 rfl ?_
  refine r_iconst 220 1 C dL_law_220 (by decide) ?_
  refine r_iadd 221 1 C dL_law_221 (by decide) ?_
  refine r_sld 222 (xs 1) C hX hbl hbA dL_law_222 (vin (by decide)) rfl ?_
  refine r_callVi 223 C dL_law_223 [] [(px, .inr (10, [.ref a0, .ref a1, .ref a2, .ref a3, .ref a4, .ref a5, .ref a6, .ref a7, .ref a8, .null])), (a2, .inr (3, [.ref a13, .ref a14, .ref a15, .ref a16, .int (-1), .int 0, .int 0]))] [(pm, .inr (11, [.ref b0, .int 0, .ref b1, .int 0, .int 0, .int (-1), .ref b2, .ref b3, .ref b4, .ref b5, .int 0, .int 0, .int 0, .ref b6, .ref b7, .ref b8, .ref b9, .int 0, .int 0, .int 0, .long 0, .int 0, .int 0, .long 0, .long 0, .ref b10, .ref b11, .ref b12, .ref b13, .long 0, .int 0, .ref b14, .int 0, .int 0, .int 0, .int 0, .ref b15, .ref b16, .ref b17, .ref b18, .ref b19, .ref b20, .ref b21, .ref b22, .ref b23, .ref b24, .ref b25, .int 0, .int 0, .int 0, .int 0, .int 0, .int 0, .int 0, .long 0, .int 0, .ref b26, .ref b27, .long 0, .long 0, .int 0, .ref b28, .int 0, .ref b29, .ref b30, .ref b31, .ref b32, .int 0, .int 0, .int 0, .int 0, .ref b33, .ref b34, .int 0, .int 0, .ref b35]))] (fun sz => c114_X11_font l g px (xs 1) a2 a0 a1 a3 a4 a5 a6 a7 a8 a13 a14 a15 a16 sz) gQ_X11_font rfl ⟨rfl, rfl⟩ 1 (by decide) ⟨Nat.le_of_ble_eq_true rfl, Nat.le_of_ble_eq_true rfl⟩ 0 rfl rfl [0, 1] [2] rfl rfl (by decide) (by decide) (by decide) rfl rfl (Nat.le_of_ble_eq_true rfl) ⟨Nat.le_of_ble_eq_true rfl, Nat.le_of_ble_eq_true rfl⟩ (fun r1 _ w2 => ?_)
  refine r_ws [(pm, .inr (11, [.ref b0, .int 0, .ref b1, .int 0, .int 0, .int (-1), .ref b2, .ref b3, .ref b4, .ref b5, .int 0, .int 0, .int 0, .ref b6, .ref b7, .ref b8, .ref b9, .int 0, .int 0, .int 0, .long 0, .int 0, .int 0, .long 0, .long 0, .ref b10, .ref b11, .ref b12, .ref b13, .long 0, .int 0, .ref b14, .int 0, .int 0, .int 0, .int 0, .ref b15, .ref b16, .ref b17, .ref b18, .ref b19, .ref b20, .ref b21, .ref b22, .ref b23, .ref b24, .ref b25, .int 0, .int 0, .int 0, .int 0, .int 0, .int 0, .int 0, .long 0, .int 0, .ref b26, .ref b27, .long 0, .long 0, .int 0, .ref b28, .int 0, .ref b29, .ref b30, .ref b31, .ref b32, .int 0, .int 0, .int 0, .int 0, .ref b33, .ref b34, .int 0, .int 0, .ref b35]))] rfl ?_
  have w2 : r1 = (-1) := w2
  subst w2
  refine r_aload_n 226 1 C dL_law_226 rfl ?_
  refine r_aload_n 227 3 C dL_law_227 rfl ?_
  refine r_iload_n 228 0 C dL_law_228 rfl ?_
  refine r_iconst 229 1 C dL_law_229 (by decide) ?_
  refine r_iadd 230 1 C dL_law_230 (by decide) ?_
  refine r_sld 231 (xs 1) C hX hbl hbA dL_law_231 (vin (by decide)) rfl ?_
  refine r_callVi 232 C dL_law_232 [.int (-1)] [(pm, .inr (11, [.ref b0, .int 0, .ref b1, .int 0, .int 0, .int (-1), .ref b2, .ref b3, .ref b4, .ref b5, .int 0, .int 0, .int 0, .ref b6, .ref b7, .ref b8, .ref b9, .int 0, .int 0, .int 0, .long 0, .int 0, .int 0, .long 0, .long 0, .ref b10, .ref b11, .ref b12, .ref b13, .long 0, .int 0, .ref b14, .int 0, .int 0, .int 0, .int 0, .ref b15, .ref b16, .ref b17, .ref b18, .ref b19, .ref b20, .ref b21, .ref b22, .ref b23, .ref b24, .ref b25, .int 0, .int 0, .int 0, .int 0, .int 0, .int 0, .int 0, .long 0, .int 0, .ref b26, .ref b27, .long 0, .long 0, .int 0, .ref b28, .int 0, .ref b29, .ref b30, .ref b31, .ref b32, .int 0, .int 0, .int 0, .int 0, .ref b33, .ref b34, .int 0, .int 0, .ref b35]))] [] (fun sz => c115_X12_font l g pm (xs 1) b0 b1 b2 b3 b4 b5 b6 b7 b8 b9 b10 b11 b12 b13 b14 b15 b16 b17 b18 b19 b20 b21 b22 b23 b24 b25 b26 b27 b28 b29 b30 b31 b32 b33 b34 b35 sz) gQ_X12_font rfl ⟨rfl, rfl⟩ 1 (by decide) ⟨Nat.le_of_ble_eq_true rfl, Nat.le_of_ble_eq_true rfl⟩ 0 rfl rfl [0] [] rfl rfl (by decide) (by decide) (by decide) rfl rfl (Nat.le_of_ble_eq_true rfl) ⟨Nat.le_of_ble_eq_true rfl, Nat.le_of_ble_eq_true rfl⟩ (fun r3 _ w4 => ?_)
  refine r_ws [] rfl ?_
  have w4 : r3 = (-1) := w4
  subst w4
  refine r_icmp_eq_t 235 545 C dL_law_235 (by decide) (by decide) ?_
  refine r_iinc 545 0 6 C dL_law_545 rfl (by decide) [(3, .int 6), (2, .ref pm), (1, .ref px), (0, .ref b)] (by decide) rfl ?_
  refine r_goto 548 18 C dL_law_548 (by decide) ?_
  refine r_iload_n 18 0 C dL_law_18 rfl ?_
  refine r_aload_n 19 3 C dL_law_19 rfl ?_
  refine r_slen 20 6 C hX hbl hbA dL_law_20 (by decide) ?_
  refine r_bipush 21 6 C dL_law_21 (by decide) ?_
  refine r_isub 23 0 C dL_law_23 (by decide) ?_
  refine r_icmp_gt_t 24 551 C dL_law_24 (by decide) (by decide) ?_
  refine r_iconst 551 1 C dL_law_551 (by decide) ?_
  exact r_lawret hx hb hr hlocks 552 dL_law_552 (Nat.le_of_ble_eq_true rfl) (Nat.le_of_ble_eq_true rfl)
set_option maxHeartbeats 4000000 in
set_option maxRecDepth 100000 in
theorem lc_code {p : Program} {e : Env} {s : State} {m : MethodId} {below : List Frame} {meth : Method} {c : Code} (l : Launch) {b : Nat} {xs : Nat → Int32} (C0 : lw_At p s m meth c b 6 xs) {g : GD} (C : Cx g p s m #[Value.ref b] meth c (fun q => s.heap.size ≤ q) RL cL_law 4 wsQ) (px : Nat) (pm : Nat) (a2 : Nat) (a14 : Nat) (a15 : Nat) (a16 : Nat) (a0 : Nat) (a1 : Nat) (a3 : Nat) (a4 : Nat) (a5 : Nat) (a6 : Nat) (a7 : Nat) (a8 : Nat) (a13 : Nat) (a19 : Nat) (a20 : Nat) (a22 : Nat) (a23 : Nat) (a25 : Nat) (a26 : Nat) (b0 : Nat) (b1 : Nat) (b2 : Nat) (b3 : Nat) (b4 : Nat) (b5 : Nat) (b6 : Nat) (b7 : Nat) (b8 : Nat) (b9 : Nat) (b10 : Nat) (b11 : Nat) (b12 : Nat) (b13 : Nat) (b14 : Nat) (b15 : Nat) (b16 : Nat) (b17 : Nat) (b18 : Nat) (b19 : Nat) (b20 : Nat) (b21 : Nat) (b22 : Nat) (b23 : Nat) (b24 : Nat) (b25 : Nat) (b26 : Nat) (b27 : Nat) (b28 : Nat) (b29 : Nat) (b30 : Nat) (b31 : Nat) (b32 : Nat) (b33 : Nat) (b34 : Nat) (b35 : Nat) : WW p l e room_1 s m #[Value.ref b] below meth c (fun q => s.heap.size ≤ q) (lw_Z below #[Value.ref b] s) g 4 90 50196 [(px, .inr (10, [.ref a0, .ref a1, .ref a2, .ref a3, .ref a4, .ref a5, .ref a6, .ref a7, .ref a8, .null])), (a2, .inr (3, [.ref a13, .ref a14, .ref a15, .ref a16, .int (-1), .int 0, .int 0])), (a14, .inr (7, [.ref a13, .ref a19, .ref a20, .int 0, .int 0, .int 0])), (a15, .inr (7, [.ref a13, .ref a22, .ref a23, .int 0, .int 0, .int 0])), (a16, .inr (7, [.ref a13, .ref a25, .ref a26, .int 0, .int 0, .int 0])), (pm, .inr (11, [.ref b0, .int 0, .ref b1, .int 0, .int 0, .int (-1), .ref b2, .ref b3, .ref b4, .ref b5, .int 0, .int 0, .int 0, .ref b6, .ref b7, .ref b8, .ref b9, .int 0, .int 0, .int 0, .long 0, .int 0, .int 0, .long 0, .long 0, .ref b10, .ref b11, .ref b12, .ref b13, .long 0, .int 0, .ref b14, .int 0, .int 0, .int 0, .int 0, .ref b15, .ref b16, .ref b17, .ref b18, .ref b19, .ref b20, .ref b21, .ref b22, .ref b23, .ref b24, .ref b25, .int 0, .int 0, .int 0, .int 0, .int 0, .int 0, .int 0, .long 0, .int 0, .ref b26, .ref b27, .long 0, .long 0, .int 0, .ref b28, .int 0, .ref b29, .ref b30, .ref b31, .ref b32, .int 0, .int 0, .int 0, .int 0, .ref b33, .ref b34, .int 0, .int 0, .ref b35]))] 240 [(3, .int 0), (2, .ref pm), (1, .ref px), (0, .ref b)] [] := by
  obtain ⟨hx, hb, hr, hml, hown, hts0, hX, hbl, hlocks, hgv⟩ := id C0
  have hbA : ¬ (fun q : Nat => s.heap.size ≤ q) b := Nat.not_le.mpr hbl
  refine r_aload_n 240 2 C dL_law_240 rfl ?_
  refine r_aload_n 241 3 C dL_law_241 rfl ?_
  refine r_iload_n 242 0 C dL_law_242 rfl ?_
  refine r_iconst 243 1 C dL_law_243 (by decide) ?_
  refine r_iadd 244 1 C dL_law_244 (by decide) ?_
  refine r_sld 245 (xs 1) C hX hbl hbA dL_law_245 (vin (by decide)) rfl ?_
  refine r_aload_n 246 3 C dL_law_246 rfl ?_
  refine r_iload_n 247 0 C dL_law_247 rfl ?_
  refine r_iconst 248 2 C dL_law_248 (by decide) ?_
  refine r_iadd 249 2 C dL_law_249 (by decide) ?_
  refine r_sld 250 (xs 2) C hX hbl hbA dL_law_250 (vin (by decide)) rfl ?_
  refine r_aload_n 251 3 C dL_law_251 rfl ?_
  refine r_iload_n 252 0 C dL_law_252 rfl ?_
  refine r_iconst 253 3 C dL_law_253 (by decide) ?_
  refine r_iadd 254 3 C dL_law_254 (by decide) ?_
  refine r_sld 255 (xs 3) C hX hbl hbA dL_law_255 (vin (by decide)) rfl ?_
  refine r_callVi 256 C dL_law_256 [] [(px, .inr (10, [.ref a0, .ref a1, .ref a2, .ref a3, .ref a4, .ref a5, .ref a6, .ref a7, .ref a8, .null])), (a2, .inr (3, [.ref a13, .ref a14, .ref a15, .ref a16, .int (-1), .int 0, .int 0])), (a14, .inr (7, [.ref a13, .ref a19, .ref a20, .int 0, .int 0, .int 0])), (a15, .inr (7, [.ref a13, .ref a22, .ref a23, .int 0, .int 0, .int 0])), (a16, .inr (7, [.ref a13, .ref a25, .ref a26, .int 0, .int 0, .int 0]))] [(pm, .inr (11, [.ref b0, .int 0, .ref b1, .int 0, .int 0, .int (-1), .ref b2, .ref b3, .ref b4, .ref b5, .int 0, .int 0, .int 0, .ref b6, .ref b7, .ref b8, .ref b9, .int 0, .int 0, .int 0, .long 0, .int 0, .int 0, .long 0, .long 0, .ref b10, .ref b11, .ref b12, .ref b13, .long 0, .int 0, .ref b14, .int 0, .int 0, .int 0, .int 0, .ref b15, .ref b16, .ref b17, .ref b18, .ref b19, .ref b20, .ref b21, .ref b22, .ref b23, .ref b24, .ref b25, .int 0, .int 0, .int 0, .int 0, .int 0, .int 0, .int 0, .long 0, .int 0, .ref b26, .ref b27, .long 0, .long 0, .int 0, .ref b28, .int 0, .ref b29, .ref b30, .ref b31, .ref b32, .int 0, .int 0, .int 0, .int 0, .ref b33, .ref b34, .int 0, .int 0, .ref b35]))] (fun sz => c118_X11_code l g px (xs 1) (xs 2) (xs 3) a2 a14 a15 a16 a0 a1 a3 a4 a5 a6 a7 a8 a13 a19 a20 a22 a23 a25 a26 sz) gQ_X11_code rfl ⟨rfl, rfl⟩ 3 (by decide) ⟨Nat.le_of_ble_eq_true rfl, Nat.le_of_ble_eq_true rfl⟩ 0 rfl rfl [0, 1, 2, 3, 4] [5] rfl rfl (by decide) (by decide) (by decide) rfl rfl (Nat.le_of_ble_eq_true rfl) ⟨Nat.le_of_ble_eq_true rfl, Nat.le_of_ble_eq_true rfl⟩ (fun r1 _ w2 => ?_)
  refine r_ws [(pm, .inr (11, [.ref b0, .int 0, .ref b1, .int 0, .int 0, .int (-1), .ref b2, .ref b3, .ref b4, .ref b5, .int 0, .int 0, .int 0, .ref b6, .ref b7, .ref b8, .ref b9, .int 0, .int 0, .int 0, .long 0, .int 0, .int 0, .long 0, .long 0, .ref b10, .ref b11, .ref b12, .ref b13, .long 0, .int 0, .ref b14, .int 0, .int 0, .int 0, .int 0, .ref b15, .ref b16, .ref b17, .ref b18, .ref b19, .ref b20, .ref b21, .ref b22, .ref b23, .ref b24, .ref b25, .int 0, .int 0, .int 0, .int 0, .int 0, .int 0, .int 0, .long 0, .int 0, .ref b26, .ref b27, .long 0, .long 0, .int 0, .ref b28, .int 0, .ref b29, .ref b30, .ref b31, .ref b32, .int 0, .int 0, .int 0, .int 0, .ref b33, .ref b34, .int 0, .int 0, .ref b35]))] rfl ?_
  have w2 : r1 = (-1) := w2
  subst w2
  refine r_aload_n 259 1 C dL_law_259 rfl ?_
  refine r_aload_n 260 3 C dL_law_260 rfl ?_
  refine r_iload_n 261 0 C dL_law_261 rfl ?_
  refine r_iconst 262 1 C dL_law_262 (by decide) ?_
  refine r_iadd 263 1 C dL_law_263 (by decide) ?_
  refine r_sld 264 (xs 1) C hX hbl hbA dL_law_264 (vin (by decide)) rfl ?_
  refine r_aload_n 265 3 C dL_law_265 rfl ?_
  refine r_iload_n 266 0 C dL_law_266 rfl ?_
  refine r_iconst 267 2 C dL_law_267 (by decide) ?_
  refine r_iadd 268 2 C dL_law_268 (by decide) ?_
  refine r_sld 269 (xs 2) C hX hbl hbA dL_law_269 (vin (by decide)) rfl ?_
  refine r_aload_n 270 3 C dL_law_270 rfl ?_
  refine r_iload_n 271 0 C dL_law_271 rfl ?_
  refine r_iconst 272 3 C dL_law_272 (by decide) ?_
  refine r_iadd 273 3 C dL_law_273 (by decide) ?_
  refine r_sld 274 (xs 3) C hX hbl hbA dL_law_274 (vin (by decide)) rfl ?_
  refine r_callVi 275 C dL_law_275 [.int (-1)] [(pm, .inr (11, [.ref b0, .int 0, .ref b1, .int 0, .int 0, .int (-1), .ref b2, .ref b3, .ref b4, .ref b5, .int 0, .int 0, .int 0, .ref b6, .ref b7, .ref b8, .ref b9, .int 0, .int 0, .int 0, .long 0, .int 0, .int 0, .long 0, .long 0, .ref b10, .ref b11, .ref b12, .ref b13, .long 0, .int 0, .ref b14, .int 0, .int 0, .int 0, .int 0, .ref b15, .ref b16, .ref b17, .ref b18, .ref b19, .ref b20, .ref b21, .ref b22, .ref b23, .ref b24, .ref b25, .int 0, .int 0, .int 0, .int 0, .int 0, .int 0, .int 0, .long 0, .int 0, .ref b26, .ref b27, .long 0, .long 0, .int 0, .ref b28, .int 0, .ref b29, .ref b30, .ref b31, .ref b32, .int 0, .int 0, .int 0, .int 0, .ref b33, .ref b34, .int 0, .int 0, .ref b35]))] [] (fun sz => c120_X12_code l g pm (xs 1) (xs 2) (xs 3) b0 b1 b2 b3 b4 b5 b6 b7 b8 b9 b10 b11 b12 b13 b14 b15 b16 b17 b18 b19 b20 b21 b22 b23 b24 b25 b26 b27 b28 b29 b30 b31 b32 b33 b34 b35 sz) gQ_X12_code rfl ⟨rfl, rfl⟩ 3 (by decide) ⟨Nat.le_of_ble_eq_true rfl, Nat.le_of_ble_eq_true rfl⟩ 0 rfl rfl [0] [] rfl rfl (by decide) (by decide) (by decide) rfl rfl (Nat.le_of_ble_eq_true rfl) ⟨Nat.le_of_ble_eq_true rfl, Nat.le_of_ble_eq_true rfl⟩ (fun r3 _ w4 => ?_)
  refine r_ws [] rfl ?_
  have w4 : r3 = (-1) := w4
  subst w4
  refine r_icmp_eq_t 278 545 C dL_law_278 (by decide) (by decide) ?_
  refine r_iinc 545 0 6 C dL_law_545 rfl (by decide) [(3, .int 6), (2, .ref pm), (1, .ref px), (0, .ref b)] (by decide) rfl ?_
  refine r_goto 548 18 C dL_law_548 (by decide) ?_
  refine r_iload_n 18 0 C dL_law_18 rfl ?_
  refine r_aload_n 19 3 C dL_law_19 rfl ?_
  refine r_slen 20 6 C hX hbl hbA dL_law_20 (by decide) ?_
  refine r_bipush 21 6 C dL_law_21 (by decide) ?_
  refine r_isub 23 0 C dL_law_23 (by decide) ?_
  refine r_icmp_gt_t 24 551 C dL_law_24 (by decide) (by decide) ?_
  refine r_iconst 551 1 C dL_law_551 (by decide) ?_
  exact r_lawret hx hb hr hlocks 552 dL_law_552 (Nat.le_of_ble_eq_true rfl) (Nat.le_of_ble_eq_true rfl)
set_option maxHeartbeats 4000000 in
set_option maxRecDepth 100000 in
theorem lc_draw {p : Program} {e : Env} {s : State} {m : MethodId} {below : List Frame} {meth : Method} {c : Code} (l : Launch) {b : Nat} {xs : Nat → Int32} (C0 : lw_At p s m meth c b 6 xs) {g : GD} (C : Cx g p s m #[Value.ref b] meth c (fun q => s.heap.size ≤ q) RL cL_law 4 wsQ) (px : Nat) (pm : Nat) (a2 : Nat) (a14 : Nat) (a0 : Nat) (a1 : Nat) (a3 : Nat) (a4 : Nat) (a5 : Nat) (a6 : Nat) (a7 : Nat) (a8 : Nat) (a13 : Nat) (a15 : Nat) (a16 : Nat) (a19 : Nat) (a20 : Nat) (b0 : Nat) (b1 : Nat) (b2 : Nat) (b3 : Nat) (b4 : Nat) (b5 : Nat) (b6 : Nat) (b7 : Nat) (b8 : Nat) (b9 : Nat) (b10 : Nat) (b11 : Nat) (b12 : Nat) (b13 : Nat) (b14 : Nat) (b15 : Nat) (b16 : Nat) (b17 : Nat) (b18 : Nat) (b19 : Nat) (b20 : Nat) (b21 : Nat) (b22 : Nat) (b23 : Nat) (b24 : Nat) (b25 : Nat) (b26 : Nat) (b27 : Nat) (b28 : Nat) (b29 : Nat) (b30 : Nat) (b31 : Nat) (b32 : Nat) (b33 : Nat) (b34 : Nat) (b35 : Nat) : WW p l e room_1 s m #[Value.ref b] below meth c (fun q => s.heap.size ≤ q) (lw_Z below #[Value.ref b] s) g 4 90 50196 [(px, .inr (10, [.ref a0, .ref a1, .ref a2, .ref a3, .ref a4, .ref a5, .ref a6, .ref a7, .ref a8, .null])), (a2, .inr (3, [.ref a13, .ref a14, .ref a15, .ref a16, .int (-1), .int 0, .int 0])), (a14, .inr (7, [.ref a13, .ref a19, .ref a20, .int 0, .int 0, .int 0])), (pm, .inr (11, [.ref b0, .int 0, .ref b1, .int 0, .int 0, .int (-1), .ref b2, .ref b3, .ref b4, .ref b5, .int 0, .int 0, .int 0, .ref b6, .ref b7, .ref b8, .ref b9, .int 0, .int 0, .int 0, .long 0, .int 0, .int 0, .long 0, .long 0, .ref b10, .ref b11, .ref b12, .ref b13, .long 0, .int 0, .ref b14, .int 0, .int 0, .int 0, .int 0, .ref b15, .ref b16, .ref b17, .ref b18, .ref b19, .ref b20, .ref b21, .ref b22, .ref b23, .ref b24, .ref b25, .int 0, .int 0, .int 0, .int 0, .int 0, .int 0, .int 0, .long 0, .int 0, .ref b26, .ref b27, .long 0, .long 0, .int 0, .ref b28, .int 0, .ref b29, .ref b30, .ref b31, .ref b32, .int 0, .int 0, .int 0, .int 0, .ref b33, .ref b34, .int 0, .int 0, .ref b35]))] 283 [(3, .int 0), (2, .ref pm), (1, .ref px), (0, .ref b)] [] := by
  obtain ⟨hx, hb, hr, hml, hown, hts0, hX, hbl, hlocks, hgv⟩ := id C0
  have hbA : ¬ (fun q : Nat => s.heap.size ≤ q) b := Nat.not_le.mpr hbl
  refine r_aload_n 283 2 C dL_law_283 rfl ?_
  refine r_aload_n 284 3 C dL_law_284 rfl ?_
  refine r_iload_n 285 0 C dL_law_285 rfl ?_
  refine r_iconst 286 1 C dL_law_286 (by decide) ?_
  refine r_iadd 287 1 C dL_law_287 (by decide) ?_
  refine r_sld 288 (xs 1) C hX hbl hbA dL_law_288 (vin (by decide)) rfl ?_
  refine r_aload_n 289 3 C dL_law_289 rfl ?_
  refine r_iload_n 290 0 C dL_law_290 rfl ?_
  refine r_iconst 291 2 C dL_law_291 (by decide) ?_
  refine r_iadd 292 2 C dL_law_292 (by decide) ?_
  refine r_sld 293 (xs 2) C hX hbl hbA dL_law_293 (vin (by decide)) rfl ?_
  refine r_callVi 294 C dL_law_294 [] [(px, .inr (10, [.ref a0, .ref a1, .ref a2, .ref a3, .ref a4, .ref a5, .ref a6, .ref a7, .ref a8, .null])), (a2, .inr (3, [.ref a13, .ref a14, .ref a15, .ref a16, .int (-1), .int 0, .int 0])), (a14, .inr (7, [.ref a13, .ref a19, .ref a20, .int 0, .int 0, .int 0]))] [(pm, .inr (11, [.ref b0, .int 0, .ref b1, .int 0, .int 0, .int (-1), .ref b2, .ref b3, .ref b4, .ref b5, .int 0, .int 0, .int 0, .ref b6, .ref b7, .ref b8, .ref b9, .int 0, .int 0, .int 0, .long 0, .int 0, .int 0, .long 0, .long 0, .ref b10, .ref b11, .ref b12, .ref b13, .long 0, .int 0, .ref b14, .int 0, .int 0, .int 0, .int 0, .ref b15, .ref b16, .ref b17, .ref b18, .ref b19, .ref b20, .ref b21, .ref b22, .ref b23, .ref b24, .ref b25, .int 0, .int 0, .int 0, .int 0, .int 0, .int 0, .int 0, .long 0, .int 0, .ref b26, .ref b27, .long 0, .long 0, .int 0, .ref b28, .int 0, .ref b29, .ref b30, .ref b31, .ref b32, .int 0, .int 0, .int 0, .int 0, .ref b33, .ref b34, .int 0, .int 0, .ref b35]))] (fun sz => c121_X11_draw l g px (xs 1) (xs 2) a2 a14 a0 a1 a3 a4 a5 a6 a7 a8 a13 a15 a16 a19 a20 sz) gQ_X11_draw rfl ⟨rfl, rfl⟩ 2 (by decide) ⟨Nat.le_of_ble_eq_true rfl, Nat.le_of_ble_eq_true rfl⟩ 0 rfl rfl [0, 1, 2] [3] rfl rfl (by decide) (by decide) (by decide) rfl rfl (Nat.le_of_ble_eq_true rfl) ⟨Nat.le_of_ble_eq_true rfl, Nat.le_of_ble_eq_true rfl⟩ (fun r1 _ w2 => ?_)
  refine r_ws [(pm, .inr (11, [.ref b0, .int 0, .ref b1, .int 0, .int 0, .int (-1), .ref b2, .ref b3, .ref b4, .ref b5, .int 0, .int 0, .int 0, .ref b6, .ref b7, .ref b8, .ref b9, .int 0, .int 0, .int 0, .long 0, .int 0, .int 0, .long 0, .long 0, .ref b10, .ref b11, .ref b12, .ref b13, .long 0, .int 0, .ref b14, .int 0, .int 0, .int 0, .int 0, .ref b15, .ref b16, .ref b17, .ref b18, .ref b19, .ref b20, .ref b21, .ref b22, .ref b23, .ref b24, .ref b25, .int 0, .int 0, .int 0, .int 0, .int 0, .int 0, .int 0, .long 0, .int 0, .ref b26, .ref b27, .long 0, .long 0, .int 0, .ref b28, .int 0, .ref b29, .ref b30, .ref b31, .ref b32, .int 0, .int 0, .int 0, .int 0, .ref b33, .ref b34, .int 0, .int 0, .ref b35]))] rfl ?_
  have w2 : r1 = (-1) := w2
  subst w2
  refine r_aload_n 297 1 C dL_law_297 rfl ?_
  refine r_aload_n 298 3 C dL_law_298 rfl ?_
  refine r_iload_n 299 0 C dL_law_299 rfl ?_
  refine r_iconst 300 1 C dL_law_300 (by decide) ?_
  refine r_iadd 301 1 C dL_law_301 (by decide) ?_
  refine r_sld 302 (xs 1) C hX hbl hbA dL_law_302 (vin (by decide)) rfl ?_
  refine r_aload_n 303 3 C dL_law_303 rfl ?_
  refine r_iload_n 304 0 C dL_law_304 rfl ?_
  refine r_iconst 305 2 C dL_law_305 (by decide) ?_
  refine r_iadd 306 2 C dL_law_306 (by decide) ?_
  refine r_sld 307 (xs 2) C hX hbl hbA dL_law_307 (vin (by decide)) rfl ?_
  refine r_callVi 308 C dL_law_308 [.int (-1)] [(pm, .inr (11, [.ref b0, .int 0, .ref b1, .int 0, .int 0, .int (-1), .ref b2, .ref b3, .ref b4, .ref b5, .int 0, .int 0, .int 0, .ref b6, .ref b7, .ref b8, .ref b9, .int 0, .int 0, .int 0, .long 0, .int 0, .int 0, .long 0, .long 0, .ref b10, .ref b11, .ref b12, .ref b13, .long 0, .int 0, .ref b14, .int 0, .int 0, .int 0, .int 0, .ref b15, .ref b16, .ref b17, .ref b18, .ref b19, .ref b20, .ref b21, .ref b22, .ref b23, .ref b24, .ref b25, .int 0, .int 0, .int 0, .int 0, .int 0, .int 0, .int 0, .long 0, .int 0, .ref b26, .ref b27, .long 0, .long 0, .int 0, .ref b28, .int 0, .ref b29, .ref b30, .ref b31, .ref b32, .int 0, .int 0, .int 0, .int 0, .ref b33, .ref b34, .int 0, .int 0, .ref b35]))] [] (fun sz => c123_X12_draw l g pm (xs 1) (xs 2) b0 b1 b2 b3 b4 b5 b6 b7 b8 b9 b10 b11 b12 b13 b14 b15 b16 b17 b18 b19 b20 b21 b22 b23 b24 b25 b26 b27 b28 b29 b30 b31 b32 b33 b34 b35 sz) gQ_X12_draw rfl ⟨rfl, rfl⟩ 2 (by decide) ⟨Nat.le_of_ble_eq_true rfl, Nat.le_of_ble_eq_true rfl⟩ 0 rfl rfl [0] [] rfl rfl (by decide) (by decide) (by decide) rfl rfl (Nat.le_of_ble_eq_true rfl) ⟨Nat.le_of_ble_eq_true rfl, Nat.le_of_ble_eq_true rfl⟩ (fun r3 _ w4 => ?_)
  refine r_ws [] rfl ?_
  have w4 : r3 = (-1) := w4
  subst w4
  refine r_icmp_eq_t 311 545 C dL_law_311 (by decide) (by decide) ?_
  refine r_iinc 545 0 6 C dL_law_545 rfl (by decide) [(3, .int 6), (2, .ref pm), (1, .ref px), (0, .ref b)] (by decide) rfl ?_
  refine r_goto 548 18 C dL_law_548 (by decide) ?_
  refine r_iload_n 18 0 C dL_law_18 rfl ?_
  refine r_aload_n 19 3 C dL_law_19 rfl ?_
  refine r_slen 20 6 C hX hbl hbA dL_law_20 (by decide) ?_
  refine r_bipush 21 6 C dL_law_21 (by decide) ?_
  refine r_isub 23 0 C dL_law_23 (by decide) ?_
  refine r_icmp_gt_t 24 551 C dL_law_24 (by decide) (by decide) ?_
  refine r_iconst 551 1 C dL_law_551 (by decide) ?_
  exact r_lawret hx hb hr hlocks 552 dL_law_552 (Nat.le_of_ble_eq_true rfl) (Nat.le_of_ble_eq_true rfl)
set_option maxHeartbeats 4000000 in
set_option maxRecDepth 100000 in
theorem lc_drawn {p : Program} {e : Env} {s : State} {m : MethodId} {below : List Frame} {meth : Method} {c : Code} (l : Launch) {b : Nat} {xs : Nat → Int32} (C0 : lw_At p s m meth c b 6 xs) {g : GD} (C : Cx g p s m #[Value.ref b] meth c (fun q => s.heap.size ≤ q) RL cL_law 4 wsQ) (px : Nat) (pm : Nat) (a0 : Nat) (a1 : Nat) (a2 : Nat) (a3 : Nat) (a4 : Nat) (a5 : Nat) (a6 : Nat) (a7 : Nat) (a8 : Nat) (b0 : Nat) (b1 : Nat) (b2 : Nat) (b3 : Nat) (b4 : Nat) (b5 : Nat) (b6 : Nat) (b7 : Nat) (b8 : Nat) (b9 : Nat) (b10 : Nat) (b11 : Nat) (b12 : Nat) (b13 : Nat) (b14 : Nat) (b15 : Nat) (b16 : Nat) (b17 : Nat) (b18 : Nat) (b19 : Nat) (b20 : Nat) (b21 : Nat) (b22 : Nat) (b23 : Nat) (b24 : Nat) (b25 : Nat) (b26 : Nat) (b27 : Nat) (b28 : Nat) (b29 : Nat) (b30 : Nat) (b31 : Nat) (b32 : Nat) (b33 : Nat) (b34 : Nat) (b35 : Nat) : WW p l e room_1 s m #[Value.ref b] below meth c (fun q => s.heap.size ≤ q) (lw_Z below #[Value.ref b] s) g 4 90 50196 [(px, .inr (10, [.ref a0, .ref a1, .ref a2, .ref a3, .ref a4, .ref a5, .ref a6, .ref a7, .ref a8, .null])), (pm, .inr (11, [.ref b0, .int 0, .ref b1, .int 0, .int 0, .int (-1), .ref b2, .ref b3, .ref b4, .ref b5, .int 0, .int 0, .int 0, .ref b6, .ref b7, .ref b8, .ref b9, .int 0, .int 0, .int 0, .long 0, .int 0, .int 0, .long 0, .long 0, .ref b10, .ref b11, .ref b12, .ref b13, .long 0, .int 0, .ref b14, .int 0, .int 0, .int 0, .int 0, .ref b15, .ref b16, .ref b17, .ref b18, .ref b19, .ref b20, .ref b21, .ref b22, .ref b23, .ref b24, .ref b25, .int 0, .int 0, .int 0, .int 0, .int 0, .int 0, .int 0, .long 0, .int 0, .ref b26, .ref b27, .long 0, .long 0, .int 0, .ref b28, .int 0, .ref b29, .ref b30, .ref b31, .ref b32, .int 0, .int 0, .int 0, .int 0, .ref b33, .ref b34, .int 0, .int 0, .ref b35]))] 316 [(3, .int 0), (2, .ref pm), (1, .ref px), (0, .ref b)] [] := by
  obtain ⟨hx, hb, hr, hml, hown, hts0, hX, hbl, hlocks, hgv⟩ := id C0
  have hbA : ¬ (fun q : Nat => s.heap.size ≤ q) b := Nat.not_le.mpr hbl
  refine r_aload_n 316 2 C dL_law_316 rfl ?_
  refine r_aload_n 317 3 C dL_law_317 rfl ?_
  refine r_iload_n 318 0 C dL_law_318 rfl ?_
  refine r_iconst 319 1 C dL_law_319 (by decide) ?_
  refine r_iadd 320 1 C dL_law_320 (by decide) ?_
  refine r_sld 321 (xs 1) C hX hbl hbA dL_law_321 (vin (by decide)) rfl ?_
  refine r_callVi 322 C dL_law_322 [] [(px, .inr (10, [.ref a0, .ref a1, .ref a2, .ref a3, .ref a4, .ref a5, .ref a6, .ref a7, .ref a8, .null]))] [(pm, .inr (11, [.ref b0, .int 0, .ref b1, .int 0, .int 0, .int (-1), .ref b2, .ref b3, .ref b4, .ref b5, .int 0, .int 0, .int 0, .ref b6, .ref b7, .ref b8, .ref b9, .int 0, .int 0, .int 0, .long 0, .int 0, .int 0, .long 0, .long 0, .ref b10, .ref b11, .ref b12, .ref b13, .long 0, .int 0, .ref b14, .int 0, .int 0, .int 0, .int 0, .ref b15, .ref b16, .ref b17, .ref b18, .ref b19, .ref b20, .ref b21, .ref b22, .ref b23, .ref b24, .ref b25, .int 0, .int 0, .int 0, .int 0, .int 0, .int 0, .int 0, .long 0, .int 0, .ref b26, .ref b27, .long 0, .long 0, .int 0, .ref b28, .int 0, .ref b29, .ref b30, .ref b31, .ref b32, .int 0, .int 0, .int 0, .int 0, .ref b33, .ref b34, .int 0, .int 0, .ref b35]))] (fun sz => c124_X11_drawn l g px (xs 1) a0 a1 a2 a3 a4 a5 a6 a7 a8 sz) gQ_X11_drawn rfl ⟨rfl, rfl⟩ 1 (by decide) ⟨Nat.le_of_ble_eq_true rfl, Nat.le_of_ble_eq_true rfl⟩ 0 rfl rfl [0] [1] rfl rfl (by decide) (by decide) (by decide) rfl rfl (Nat.le_of_ble_eq_true rfl) ⟨Nat.le_of_ble_eq_true rfl, Nat.le_of_ble_eq_true rfl⟩ (fun r1 _ w2 => ?_)
  refine r_ws [(pm, .inr (11, [.ref b0, .int 0, .ref b1, .int 0, .int 0, .int (-1), .ref b2, .ref b3, .ref b4, .ref b5, .int 0, .int 0, .int 0, .ref b6, .ref b7, .ref b8, .ref b9, .int 0, .int 0, .int 0, .long 0, .int 0, .int 0, .long 0, .long 0, .ref b10, .ref b11, .ref b12, .ref b13, .long 0, .int 0, .ref b14, .int 0, .int 0, .int 0, .int 0, .ref b15, .ref b16, .ref b17, .ref b18, .ref b19, .ref b20, .ref b21, .ref b22, .ref b23, .ref b24, .ref b25, .int 0, .int 0, .int 0, .int 0, .int 0, .int 0, .int 0, .long 0, .int 0, .ref b26, .ref b27, .long 0, .long 0, .int 0, .ref b28, .int 0, .ref b29, .ref b30, .ref b31, .ref b32, .int 0, .int 0, .int 0, .int 0, .ref b33, .ref b34, .int 0, .int 0, .ref b35]))] rfl ?_
  have w2 : r1 = (-1) := w2
  subst w2
  refine r_aload_n 325 1 C dL_law_325 rfl ?_
  refine r_aload_n 326 3 C dL_law_326 rfl ?_
  refine r_iload_n 327 0 C dL_law_327 rfl ?_
  refine r_iconst 328 1 C dL_law_328 (by decide) ?_
  refine r_iadd 329 1 C dL_law_329 (by decide) ?_
  refine r_sld 330 (xs 1) C hX hbl hbA dL_law_330 (vin (by decide)) rfl ?_
  refine r_callVi 331 C dL_law_331 [.int (-1)] [(pm, .inr (11, [.ref b0, .int 0, .ref b1, .int 0, .int 0, .int (-1), .ref b2, .ref b3, .ref b4, .ref b5, .int 0, .int 0, .int 0, .ref b6, .ref b7, .ref b8, .ref b9, .int 0, .int 0, .int 0, .long 0, .int 0, .int 0, .long 0, .long 0, .ref b10, .ref b11, .ref b12, .ref b13, .long 0, .int 0, .ref b14, .int 0, .int 0, .int 0, .int 0, .ref b15, .ref b16, .ref b17, .ref b18, .ref b19, .ref b20, .ref b21, .ref b22, .ref b23, .ref b24, .ref b25, .int 0, .int 0, .int 0, .int 0, .int 0, .int 0, .int 0, .long 0, .int 0, .ref b26, .ref b27, .long 0, .long 0, .int 0, .ref b28, .int 0, .ref b29, .ref b30, .ref b31, .ref b32, .int 0, .int 0, .int 0, .int 0, .ref b33, .ref b34, .int 0, .int 0, .ref b35]))] [] (fun sz => c125_X12_drawn l g pm (xs 1) b0 b1 b2 b3 b4 b5 b6 b7 b8 b9 b10 b11 b12 b13 b14 b15 b16 b17 b18 b19 b20 b21 b22 b23 b24 b25 b26 b27 b28 b29 b30 b31 b32 b33 b34 b35 sz) gQ_X12_drawn rfl ⟨rfl, rfl⟩ 1 (by decide) ⟨Nat.le_of_ble_eq_true rfl, Nat.le_of_ble_eq_true rfl⟩ 0 rfl rfl [0] [] rfl rfl (by decide) (by decide) (by decide) rfl rfl (Nat.le_of_ble_eq_true rfl) ⟨Nat.le_of_ble_eq_true rfl, Nat.le_of_ble_eq_true rfl⟩ (fun r3 _ w4 => ?_)
  refine r_ws [] rfl ?_
  have w4 : r3 = (-1) := w4
  subst w4
  refine r_icmp_eq_t 334 545 C dL_law_334 (by decide) (by decide) ?_
  refine r_iinc 545 0 6 C dL_law_545 rfl (by decide) [(3, .int 6), (2, .ref pm), (1, .ref px), (0, .ref b)] (by decide) rfl ?_
  refine r_goto 548 18 C dL_law_548 (by decide) ?_
  refine r_iload_n 18 0 C dL_law_18 rfl ?_
  refine r_aload_n 19 3 C dL_law_19 rfl ?_
  refine r_slen 20 6 C hX hbl hbA dL_law_20 (by decide) ?_
  refine r_bipush 21 6 C dL_law_21 (by decide) ?_
  refine r_isub 23 0 C dL_law_23 (by decide) ?_
  refine r_icmp_gt_t 24 551 C dL_law_24 (by decide) (by decide) ?_
  refine r_iconst 551 1 C dL_law_551 (by decide) ?_
  exact r_lawret hx hb hr hlocks 552 dL_law_552 (Nat.le_of_ble_eq_true rfl) (Nat.le_of_ble_eq_true rfl)
set_option maxHeartbeats 4000000 in
set_option maxRecDepth 100000 in
theorem lc_width {p : Program} {e : Env} {s : State} {m : MethodId} {below : List Frame} {meth : Method} {c : Code} (l : Launch) {b : Nat} {xs : Nat → Int32} (C0 : lw_At p s m meth c b 6 xs) {g : GD} (C : Cx g p s m #[Value.ref b] meth c (fun q => s.heap.size ≤ q) RL cL_law 4 wsQ) (px : Nat) (pm : Nat) (a0 : Nat) (a1 : Nat) (a2 : Nat) (a3 : Nat) (a4 : Nat) (a5 : Nat) (a6 : Nat) (a7 : Nat) (a8 : Nat) (b0 : Nat) (b1 : Nat) (b2 : Nat) (b3 : Nat) (b4 : Nat) (b5 : Nat) (b6 : Nat) (b7 : Nat) (b8 : Nat) (b9 : Nat) (b10 : Nat) (b11 : Nat) (b12 : Nat) (b13 : Nat) (b14 : Nat) (b15 : Nat) (b16 : Nat) (b17 : Nat) (b18 : Nat) (b19 : Nat) (b20 : Nat) (b21 : Nat) (b22 : Nat) (b23 : Nat) (b24 : Nat) (b25 : Nat) (b26 : Nat) (b27 : Nat) (b28 : Nat) (b29 : Nat) (b30 : Nat) (b31 : Nat) (b32 : Nat) (b33 : Nat) (b34 : Nat) (b35 : Nat) : WW p l e room_1 s m #[Value.ref b] below meth c (fun q => s.heap.size ≤ q) (lw_Z below #[Value.ref b] s) g 4 90 50196 [(px, .inr (10, [.ref a0, .ref a1, .ref a2, .ref a3, .ref a4, .ref a5, .ref a6, .ref a7, .ref a8, .null])), (pm, .inr (11, [.ref b0, .int 0, .ref b1, .int 0, .int 0, .int (-1), .ref b2, .ref b3, .ref b4, .ref b5, .int 0, .int 0, .int 0, .ref b6, .ref b7, .ref b8, .ref b9, .int 0, .int 0, .int 0, .long 0, .int 0, .int 0, .long 0, .long 0, .ref b10, .ref b11, .ref b12, .ref b13, .long 0, .int 0, .ref b14, .int 0, .int 0, .int 0, .int 0, .ref b15, .ref b16, .ref b17, .ref b18, .ref b19, .ref b20, .ref b21, .ref b22, .ref b23, .ref b24, .ref b25, .int 0, .int 0, .int 0, .int 0, .int 0, .int 0, .int 0, .long 0, .int 0, .ref b26, .ref b27, .long 0, .long 0, .int 0, .ref b28, .int 0, .ref b29, .ref b30, .ref b31, .ref b32, .int 0, .int 0, .int 0, .int 0, .ref b33, .ref b34, .int 0, .int 0, .ref b35]))] 339 [(3, .int 0), (2, .ref pm), (1, .ref px), (0, .ref b)] [] := by
  obtain ⟨hx, hb, hr, hml, hown, hts0, hX, hbl, hlocks, hgv⟩ := id C0
  have hbA : ¬ (fun q : Nat => s.heap.size ≤ q) b := Nat.not_le.mpr hbl
  refine r_aload_n 339 2 C dL_law_339 rfl ?_
  refine r_callVl 340 C dL_law_340 [] [(px, .inr (10, [.ref a0, .ref a1, .ref a2, .ref a3, .ref a4, .ref a5, .ref a6, .ref a7, .ref a8, .null]))] [(pm, .inr (11, [.ref b0, .int 0, .ref b1, .int 0, .int 0, .int (-1), .ref b2, .ref b3, .ref b4, .ref b5, .int 0, .int 0, .int 0, .ref b6, .ref b7, .ref b8, .ref b9, .int 0, .int 0, .int 0, .long 0, .int 0, .int 0, .long 0, .long 0, .ref b10, .ref b11, .ref b12, .ref b13, .long 0, .int 0, .ref b14, .int 0, .int 0, .int 0, .int 0, .ref b15, .ref b16, .ref b17, .ref b18, .ref b19, .ref b20, .ref b21, .ref b22, .ref b23, .ref b24, .ref b25, .int 0, .int 0, .int 0, .int 0, .int 0, .int 0, .int 0, .long 0, .int 0, .ref b26, .ref b27, .long 0, .long 0, .int 0, .ref b28, .int 0, .ref b29, .ref b30, .ref b31, .ref b32, .int 0, .int 0, .int 0, .int 0, .ref b33, .ref b34, .int 0, .int 0, .ref b35]))] (fun sz => c126_X11_width l g px a0 a1 a2 a3 a4 a5 a6 a7 a8 sz) gQ_X11_width rfl ⟨rfl, rfl⟩ 0 (by decide) ⟨Nat.le_of_ble_eq_true rfl, Nat.le_of_ble_eq_true rfl⟩ 0 rfl rfl [0] [1] rfl rfl (by decide) (by decide) (by decide) rfl rfl (Nat.le_of_ble_eq_true rfl) ⟨Nat.le_of_ble_eq_true rfl, Nat.le_of_ble_eq_true rfl⟩ (fun r1 _ w2 => ?_)
  refine r_ws [(pm, .inr (11, [.ref b0, .int 0, .ref b1, .int 0, .int 0, .int (-1), .ref b2, .ref b3, .ref b4, .ref b5, .int 0, .int 0, .int 0, .ref b6, .ref b7, .ref b8, .ref b9, .int 0, .int 0, .int 0, .long 0, .int 0, .int 0, .long 0, .long 0, .ref b10, .ref b11, .ref b12, .ref b13, .long 0, .int 0, .ref b14, .int 0, .int 0, .int 0, .int 0, .ref b15, .ref b16, .ref b17, .ref b18, .ref b19, .ref b20, .ref b21, .ref b22, .ref b23, .ref b24, .ref b25, .int 0, .int 0, .int 0, .int 0, .int 0, .int 0, .int 0, .long 0, .int 0, .ref b26, .ref b27, .long 0, .long 0, .int 0, .ref b28, .int 0, .ref b29, .ref b30, .ref b31, .ref b32, .int 0, .int 0, .int 0, .int 0, .ref b33, .ref b34, .int 0, .int 0, .ref b35]))] rfl ?_
  have w2 : r1 = 0 := w2
  subst w2
  refine r_aload_n 343 1 C dL_law_343 rfl ?_
  refine r_callVl 344 C dL_law_344 [.long 0] [(pm, .inr (11, [.ref b0, .int 0, .ref b1, .int 0, .int 0, .int (-1), .ref b2, .ref b3, .ref b4, .ref b5, .int 0, .int 0, .int 0, .ref b6, .ref b7, .ref b8, .ref b9, .int 0, .int 0, .int 0, .long 0, .int 0, .int 0, .long 0, .long 0, .ref b10, .ref b11, .ref b12, .ref b13, .long 0, .int 0, .ref b14, .int 0, .int 0, .int 0, .int 0, .ref b15, .ref b16, .ref b17, .ref b18, .ref b19, .ref b20, .ref b21, .ref b22, .ref b23, .ref b24, .ref b25, .int 0, .int 0, .int 0, .int 0, .int 0, .int 0, .int 0, .long 0, .int 0, .ref b26, .ref b27, .long 0, .long 0, .int 0, .ref b28, .int 0, .ref b29, .ref b30, .ref b31, .ref b32, .int 0, .int 0, .int 0, .int 0, .ref b33, .ref b34, .int 0, .int 0, .ref b35]))] [] (fun sz => c127_X12_width l g pm b0 b1 b2 b3 b4 b5 b6 b7 b8 b9 b10 b11 b12 b13 b14 b15 b16 b17 b18 b19 b20 b21 b22 b23 b24 b25 b26 b27 b28 b29 b30 b31 b32 b33 b34 b35 sz) gQ_X12_width rfl ⟨rfl, rfl⟩ 0 (by decide) ⟨Nat.le_of_ble_eq_true rfl, Nat.le_of_ble_eq_true rfl⟩ 0 rfl rfl [0] [] rfl rfl (by decide) (by decide) (by decide) rfl rfl (Nat.le_of_ble_eq_true rfl) ⟨Nat.le_of_ble_eq_true rfl, Nat.le_of_ble_eq_true rfl⟩ (fun r3 _ w4 => ?_)
  refine r_ws [] rfl ?_
  have w4 : r3 = 0 := w4
  subst w4
  refine r_lcmp 347 0 C dL_law_347 (by decide) ?_
  refine r_if_eq_t 348 545 C dL_law_348 (by decide) (by decide) ?_
  refine r_iinc 545 0 6 C dL_law_545 rfl (by decide) [(3, .int 6), (2, .ref pm), (1, .ref px), (0, .ref b)] (by decide) rfl ?_
  refine r_goto 548 18 C dL_law_548 (by decide) ?_
  refine r_iload_n 18 0 C dL_law_18 rfl ?_
  refine r_aload_n 19 3 C dL_law_19 rfl ?_
  refine r_slen 20 6 C hX hbl hbA dL_law_20 (by decide) ?_
  refine r_bipush 21 6 C dL_law_21 (by decide) ?_
  refine r_isub 23 0 C dL_law_23 (by decide) ?_
  refine r_icmp_gt_t 24 551 C dL_law_24 (by decide) (by decide) ?_
  refine r_iconst 551 1 C dL_law_551 (by decide) ?_
  exact r_lawret hx hb hr hlocks 552 dL_law_552 (Nat.le_of_ble_eq_true rfl) (Nat.le_of_ble_eq_true rfl)
set_option maxHeartbeats 4000000 in
set_option maxRecDepth 100000 in
theorem lc_part {p : Program} {e : Env} {s : State} {m : MethodId} {below : List Frame} {meth : Method} {c : Code} (l : Launch) {b : Nat} {xs : Nat → Int32} (C0 : lw_At p s m meth c b 6 xs) {g : GD} (C : Cx g p s m #[Value.ref b] meth c (fun q => s.heap.size ≤ q) RL cL_law 4 wsQ) (px : Nat) (pm : Nat) (a6 : Nat) (a0 : Nat) (a1 : Nat) (a2 : Nat) (a3 : Nat) (a4 : Nat) (a5 : Nat) (a7 : Nat) (a8 : Nat) (a49 : Nat) (a50 : Nat) (b0 : Nat) (b1 : Nat) (b2 : Nat) (b3 : Nat) (b4 : Nat) (b5 : Nat) (b6 : Nat) (b7 : Nat) (b8 : Nat) (b9 : Nat) (b10 : Nat) (b11 : Nat) (b12 : Nat) (b13 : Nat) (b14 : Nat) (b15 : Nat) (b16 : Nat) (b17 : Nat) (b18 : Nat) (b19 : Nat) (b20 : Nat) (b21 : Nat) (b22 : Nat) (b23 : Nat) (b24 : Nat) (b25 : Nat) (b26 : Nat) (b27 : Nat) (b28 : Nat) (b29 : Nat) (b30 : Nat) (b31 : Nat) (b32 : Nat) (b33 : Nat) (b34 : Nat) (b35 : Nat) : WW p l e room_1 s m #[Value.ref b] below meth c (fun q => s.heap.size ≤ q) (lw_Z below #[Value.ref b] s) g 4 90 50196 [(px, .inr (10, [.ref a0, .ref a1, .ref a2, .ref a3, .ref a4, .ref a5, .ref a6, .ref a7, .ref a8, .null])), (a6, .inr (5, [.ref a49, .ref a50, .int 0, .int 0, .long 0, .long 0, .int 0])), (pm, .inr (11, [.ref b0, .int 0, .ref b1, .int 0, .int 0, .int (-1), .ref b2, .ref b3, .ref b4, .ref b5, .int 0, .int 0, .int 0, .ref b6, .ref b7, .ref b8, .ref b9, .int 0, .int 0, .int 0, .long 0, .int 0, .int 0, .long 0, .long 0, .ref b10, .ref b11, .ref b12, .ref b13, .long 0, .int 0, .ref b14, .int 0, .int 0, .int 0, .int 0, .ref b15, .ref b16, .ref b17, .ref b18, .ref b19, .ref b20, .ref b21, .ref b22, .ref b23, .ref b24, .ref b25, .int 0, .int 0, .int 0, .int 0, .int 0, .int 0, .int 0, .long 0, .int 0, .ref b26, .ref b27, .long 0, .long 0, .int 0, .ref b28, .int 0, .ref b29, .ref b30, .ref b31, .ref b32, .int 0, .int 0, .int 0, .int 0, .ref b33, .ref b34, .int 0, .int 0, .ref b35]))] 353 [(3, .int 0), (2, .ref pm), (1, .ref px), (0, .ref b)] [] := by
  obtain ⟨hx, hb, hr, hml, hown, hts0, hX, hbl, hlocks, hgv⟩ := id C0
  have hbA : ¬ (fun q : Nat => s.heap.size ≤ q) b := Nat.not_le.mpr hbl
  refine r_aload_n 353 2 C dL_law_353 rfl ?_
  refine r_aload_n 354 3 C dL_law_354 rfl ?_
  refine r_iload_n 355 0 C dL_law_355 rfl ?_
  refine r_iconst 356 1 C dL_law_356 (by decide) ?_
  refine r_iadd 357 1 C dL_law_357 (by decide) ?_
  refine r_sld 358 (xs 1) C hX hbl hbA dL_law_358 (vin (by decide)) rfl ?_
  refine r_callVi 359 C dL_law_359 [] [(px, .inr (10, [.ref a0, .ref a1, .ref a2, .ref a3, .ref a4, .ref a5, .ref a6, .ref a7, .ref a8, .null])), (a6, .inr (5, [.ref a49, .ref a50, .int 0, .int 0, .long 0, .long 0, .int 0]))] [(pm, .inr (11, [.ref b0, .int 0, .ref b1, .int 0, .int 0, .int (-1), .ref b2, .ref b3, .ref b4, .ref b5, .int 0, .int 0, .int 0, .ref b6, .ref b7, .ref b8, .ref b9, .int 0, .int 0, .int 0, .long 0, .int 0, .int 0, .long 0, .long 0, .ref b10, .ref b11, .ref b12, .ref b13, .long 0, .int 0, .ref b14, .int 0, .int 0, .int 0, .int 0, .ref b15, .ref b16, .ref b17, .ref b18, .ref b19, .ref b20, .ref b21, .ref b22, .ref b23, .ref b24, .ref b25, .int 0, .int 0, .int 0, .int 0, .int 0, .int 0, .int 0, .long 0, .int 0, .ref b26, .ref b27, .long 0, .long 0, .int 0, .ref b28, .int 0, .ref b29, .ref b30, .ref b31, .ref b32, .int 0, .int 0, .int 0, .int 0, .ref b33, .ref b34, .int 0, .int 0, .ref b35]))] (fun sz => c129_X11_part l g px (xs 1) a6 a0 a1 a2 a3 a4 a5 a7 a8 a49 a50 sz) gQ_X11_part rfl ⟨rfl, rfl⟩ 1 (by decide) ⟨Nat.le_of_ble_eq_true rfl, Nat.le_of_ble_eq_true rfl⟩ 0 rfl rfl [0, 1] [2] rfl rfl (by decide) (by decide) (by decide) rfl rfl (Nat.le_of_ble_eq_true rfl) ⟨Nat.le_of_ble_eq_true rfl, Nat.le_of_ble_eq_true rfl⟩ (fun r1 _ w2 => ?_)
  refine r_ws [(pm, .inr (11, [.ref b0, .int 0, .ref b1, .int 0, .int 0, .int (-1), .ref b2, .ref b3, .ref b4, .ref b5, .int 0, .int 0, .int 0, .ref b6, .ref b7, .ref b8, .ref b9, .int 0, .int 0, .int 0, .long 0, .int 0, .int 0, .long 0, .long 0, .ref b10, .ref b11, .ref b12, .ref b13, .long 0, .int 0, .ref b14, .int 0, .int 0, .int 0, .int 0, .ref b15, .ref b16, .ref b17, .ref b18, .ref b19, .ref b20, .ref b21, .ref b22, .ref b23, .ref b24, .ref b25, .int 0, .int 0, .int 0, .int 0, .int 0, .int 0, .int 0, .long 0, .int 0, .ref b26, .ref b27, .long 0, .long 0, .int 0, .ref b28, .int 0, .ref b29, .ref b30, .ref b31, .ref b32, .int 0, .int 0, .int 0, .int 0, .ref b33, .ref b34, .int 0, .int 0, .ref b35]))] rfl ?_
  have w2 : r1 = (-1) := w2
  subst w2
  refine r_aload_n 362 1 C dL_law_362 rfl ?_
  refine r_aload_n 363 3 C dL_law_363 rfl ?_
  refine r_iload_n 364 0 C dL_law_364 rfl ?_
  refine r_iconst 365 1 C dL_law_365 (by decide) ?_
  refine r_iadd 366 1 C dL_law_366 (by decide) ?_
  refine r_sld 367 (xs 1) C hX hbl hbA dL_law_367 (vin (by decide)) rfl ?_
  refine r_callVi 368 C dL_law_368 [.int (-1)] [(pm, .inr (11, [.ref b0, .int 0, .ref b1, .int 0, .int 0, .int (-1), .ref b2, .ref b3, .ref b4, .ref b5, .int 0, .int 0, .int 0, .ref b6, .ref b7, .ref b8, .ref b9, .int 0, .int 0, .int 0, .long 0, .int 0, .int 0, .long 0, .long 0, .ref b10, .ref b11, .ref b12, .ref b13, .long 0, .int 0, .ref b14, .int 0, .int 0, .int 0, .int 0, .ref b15, .ref b16, .ref b17, .ref b18, .ref b19, .ref b20, .ref b21, .ref b22, .ref b23, .ref b24, .ref b25, .int 0, .int 0, .int 0, .int 0, .int 0, .int 0, .int 0, .long 0, .int 0, .ref b26, .ref b27, .long 0, .long 0, .int 0, .ref b28, .int 0, .ref b29, .ref b30, .ref b31, .ref b32, .int 0, .int 0, .int 0, .int 0, .ref b33, .ref b34, .int 0, .int 0, .ref b35]))] [] (fun sz => c130_X12_part l g pm (xs 1) b0 b1 b2 b3 b4 b5 b6 b7 b8 b9 b10 b11 b12 b13 b14 b15 b16 b17 b18 b19 b20 b21 b22 b23 b24 b25 b26 b27 b28 b29 b30 b31 b32 b33 b34 b35 sz) gQ_X12_part rfl ⟨rfl, rfl⟩ 1 (by decide) ⟨Nat.le_of_ble_eq_true rfl, Nat.le_of_ble_eq_true rfl⟩ 0 rfl rfl [0] [] rfl rfl (by decide) (by decide) (by decide) rfl rfl (Nat.le_of_ble_eq_true rfl) ⟨Nat.le_of_ble_eq_true rfl, Nat.le_of_ble_eq_true rfl⟩ (fun r3 _ w4 => ?_)
  refine r_ws [] rfl ?_
  have w4 : r3 = (-1) := w4
  subst w4
  refine r_icmp_eq_t 371 545 C dL_law_371 (by decide) (by decide) ?_
  refine r_iinc 545 0 6 C dL_law_545 rfl (by decide) [(3, .int 6), (2, .ref pm), (1, .ref px), (0, .ref b)] (by decide) rfl ?_
  refine r_goto 548 18 C dL_law_548 (by decide) ?_
  refine r_iload_n 18 0 C dL_law_18 rfl ?_
  refine r_aload_n 19 3 C dL_law_19 rfl ?_
  refine r_slen 20 6 C hX hbl hbA dL_law_20 (by decide) ?_
  refine r_bipush 21 6 C dL_law_21 (by decide) ?_
  refine r_isub 23 0 C dL_law_23 (by decide) ?_
  refine r_icmp_gt_t 24 551 C dL_law_24 (by decide) (by decide) ?_
  refine r_iconst 551 1 C dL_law_551 (by decide) ?_
  exact r_lawret hx hb hr hlocks 552 dL_law_552 (Nat.le_of_ble_eq_true rfl) (Nat.le_of_ble_eq_true rfl)
set_option maxHeartbeats 4000000 in
set_option maxRecDepth 100000 in
theorem lc_at {p : Program} {e : Env} {s : State} {m : MethodId} {below : List Frame} {meth : Method} {c : Code} (l : Launch) {b : Nat} {xs : Nat → Int32} (C0 : lw_At p s m meth c b 6 xs) {g : GD} (C : Cx g p s m #[Value.ref b] meth c (fun q => s.heap.size ≤ q) RL cL_law 4 wsQ) (px : Nat) (pm : Nat) (a6 : Nat) (a0 : Nat) (a1 : Nat) (a2 : Nat) (a3 : Nat) (a4 : Nat) (a5 : Nat) (a7 : Nat) (a8 : Nat) (a49 : Nat) (a50 : Nat) (b0 : Nat) (b1 : Nat) (b2 : Nat) (b3 : Nat) (b4 : Nat) (b5 : Nat) (b6 : Nat) (b7 : Nat) (b8 : Nat) (b9 : Nat) (b10 : Nat) (b11 : Nat) (b12 : Nat) (b13 : Nat) (b14 : Nat) (b15 : Nat) (b16 : Nat) (b17 : Nat) (b18 : Nat) (b19 : Nat) (b20 : Nat) (b21 : Nat) (b22 : Nat) (b23 : Nat) (b24 : Nat) (b25 : Nat) (b26 : Nat) (b27 : Nat) (b28 : Nat) (b29 : Nat) (b30 : Nat) (b31 : Nat) (b32 : Nat) (b33 : Nat) (b34 : Nat) (b35 : Nat) : WW p l e room_1 s m #[Value.ref b] below meth c (fun q => s.heap.size ≤ q) (lw_Z below #[Value.ref b] s) g 4 90 50196 [(px, .inr (10, [.ref a0, .ref a1, .ref a2, .ref a3, .ref a4, .ref a5, .ref a6, .ref a7, .ref a8, .null])), (a6, .inr (5, [.ref a49, .ref a50, .int 0, .int 0, .long 0, .long 0, .int 0])), (pm, .inr (11, [.ref b0, .int 0, .ref b1, .int 0, .int 0, .int (-1), .ref b2, .ref b3, .ref b4, .ref b5, .int 0, .int 0, .int 0, .ref b6, .ref b7, .ref b8, .ref b9, .int 0, .int 0, .int 0, .long 0, .int 0, .int 0, .long 0, .long 0, .ref b10, .ref b11, .ref b12, .ref b13, .long 0, .int 0, .ref b14, .int 0, .int 0, .int 0, .int 0, .ref b15, .ref b16, .ref b17, .ref b18, .ref b19, .ref b20, .ref b21, .ref b22, .ref b23, .ref b24, .ref b25, .int 0, .int 0, .int 0, .int 0, .int 0, .int 0, .int 0, .long 0, .int 0, .ref b26, .ref b27, .long 0, .long 0, .int 0, .ref b28, .int 0, .ref b29, .ref b30, .ref b31, .ref b32, .int 0, .int 0, .int 0, .int 0, .ref b33, .ref b34, .int 0, .int 0, .ref b35]))] 376 [(3, .int 0), (2, .ref pm), (1, .ref px), (0, .ref b)] [] := by
  obtain ⟨hx, hb, hr, hml, hown, hts0, hX, hbl, hlocks, hgv⟩ := id C0
  have hbA : ¬ (fun q : Nat => s.heap.size ≤ q) b := Nat.not_le.mpr hbl
  refine r_aload_n 376 2 C dL_law_376 rfl ?_
  refine r_aload_n 377 3 C dL_law_377 rfl ?_
  refine r_iload_n 378 0 C dL_law_378 rfl ?_
  refine r_iconst 379 1 C dL_law_379 (by decide) ?_
  refine r_iadd 380 1 C dL_law_380 (by decide) ?_
  refine r_sld 381 (xs 1) C hX hbl hbA dL_law_381 (vin (by decide)) rfl ?_
  refine r_aload_n 382 3 C dL_law_382 rfl ?_
  refine r_iload_n 383 0 C dL_law_383 rfl ?_
  refine r_iconst 384 2 C dL_law_384 (by decide) ?_
  refine r_iadd 385 2 C dL_law_385 (by decide) ?_
  refine r_sld 386 (xs 2) C hX hbl hbA dL_law_386 (vin (by decide)) rfl ?_
  refine r_aload_n 387 3 C dL_law_387 rfl ?_
  refine r_iload_n 388 0 C dL_law_388 rfl ?_
  refine r_iconst 389 3 C dL_law_389 (by decide) ?_
  refine r_iadd 390 3 C dL_law_390 (by decide) ?_
  refine r_sld 391 (xs 3) C hX hbl hbA dL_law_391 (vin (by decide)) rfl ?_
  refine r_callVl 392 C dL_law_392 [] [(px, .inr (10, [.ref a0, .ref a1, .ref a2, .ref a3, .ref a4, .ref a5, .ref a6, .ref a7, .ref a8, .null])), (a6, .inr (5, [.ref a49, .ref a50, .int 0, .int 0, .long 0, .long 0, .int 0]))] [(pm, .inr (11, [.ref b0, .int 0, .ref b1, .int 0, .int 0, .int (-1), .ref b2, .ref b3, .ref b4, .ref b5, .int 0, .int 0, .int 0, .ref b6, .ref b7, .ref b8, .ref b9, .int 0, .int 0, .int 0, .long 0, .int 0, .int 0, .long 0, .long 0, .ref b10, .ref b11, .ref b12, .ref b13, .long 0, .int 0, .ref b14, .int 0, .int 0, .int 0, .int 0, .ref b15, .ref b16, .ref b17, .ref b18, .ref b19, .ref b20, .ref b21, .ref b22, .ref b23, .ref b24, .ref b25, .int 0, .int 0, .int 0, .int 0, .int 0, .int 0, .int 0, .long 0, .int 0, .ref b26, .ref b27, .long 0, .long 0, .int 0, .ref b28, .int 0, .ref b29, .ref b30, .ref b31, .ref b32, .int 0, .int 0, .int 0, .int 0, .ref b33, .ref b34, .int 0, .int 0, .ref b35]))] (fun sz => c132_X11_at l g px (xs 1) (xs 2) (xs 3) a6 a0 a1 a2 a3 a4 a5 a7 a8 a49 a50 sz) gQ_X11_at rfl ⟨rfl, rfl⟩ 3 (by decide) ⟨Nat.le_of_ble_eq_true rfl, Nat.le_of_ble_eq_true rfl⟩ 0 rfl rfl [0, 1] [2] rfl rfl (by decide) (by decide) (by decide) rfl rfl (Nat.le_of_ble_eq_true rfl) ⟨Nat.le_of_ble_eq_true rfl, Nat.le_of_ble_eq_true rfl⟩ (fun r1 _ w2 => ?_)
  refine r_ws [(pm, .inr (11, [.ref b0, .int 0, .ref b1, .int 0, .int 0, .int (-1), .ref b2, .ref b3, .ref b4, .ref b5, .int 0, .int 0, .int 0, .ref b6, .ref b7, .ref b8, .ref b9, .int 0, .int 0, .int 0, .long 0, .int 0, .int 0, .long 0, .long 0, .ref b10, .ref b11, .ref b12, .ref b13, .long 0, .int 0, .ref b14, .int 0, .int 0, .int 0, .int 0, .ref b15, .ref b16, .ref b17, .ref b18, .ref b19, .ref b20, .ref b21, .ref b22, .ref b23, .ref b24, .ref b25, .int 0, .int 0, .int 0, .int 0, .int 0, .int 0, .int 0, .long 0, .int 0, .ref b26, .ref b27, .long 0, .long 0, .int 0, .ref b28, .int 0, .ref b29, .ref b30, .ref b31, .ref b32, .int 0, .int 0, .int 0, .int 0, .ref b33, .ref b34, .int 0, .int 0, .ref b35]))] rfl ?_
  have w2 : r1 = 0 := w2
  subst w2
  refine r_aload_n 395 1 C dL_law_395 rfl ?_
  refine r_aload_n 396 3 C dL_law_396 rfl ?_
  refine r_iload_n 397 0 C dL_law_397 rfl ?_
  refine r_iconst 398 1 C dL_law_398 (by decide) ?_
  refine r_iadd 399 1 C dL_law_399 (by decide) ?_
  refine r_sld 400 (xs 1) C hX hbl hbA dL_law_400 (vin (by decide)) rfl ?_
  refine r_aload_n 401 3 C dL_law_401 rfl ?_
  refine r_iload_n 402 0 C dL_law_402 rfl ?_
  refine r_iconst 403 2 C dL_law_403 (by decide) ?_
  refine r_iadd 404 2 C dL_law_404 (by decide) ?_
  refine r_sld 405 (xs 2) C hX hbl hbA dL_law_405 (vin (by decide)) rfl ?_
  refine r_aload_n 406 3 C dL_law_406 rfl ?_
  refine r_iload_n 407 0 C dL_law_407 rfl ?_
  refine r_iconst 408 3 C dL_law_408 (by decide) ?_
  refine r_iadd 409 3 C dL_law_409 (by decide) ?_
  refine r_sld 410 (xs 3) C hX hbl hbA dL_law_410 (vin (by decide)) rfl ?_
  refine r_callVl 411 C dL_law_411 [.long 0] [(pm, .inr (11, [.ref b0, .int 0, .ref b1, .int 0, .int 0, .int (-1), .ref b2, .ref b3, .ref b4, .ref b5, .int 0, .int 0, .int 0, .ref b6, .ref b7, .ref b8, .ref b9, .int 0, .int 0, .int 0, .long 0, .int 0, .int 0, .long 0, .long 0, .ref b10, .ref b11, .ref b12, .ref b13, .long 0, .int 0, .ref b14, .int 0, .int 0, .int 0, .int 0, .ref b15, .ref b16, .ref b17, .ref b18, .ref b19, .ref b20, .ref b21, .ref b22, .ref b23, .ref b24, .ref b25, .int 0, .int 0, .int 0, .int 0, .int 0, .int 0, .int 0, .long 0, .int 0, .ref b26, .ref b27, .long 0, .long 0, .int 0, .ref b28, .int 0, .ref b29, .ref b30, .ref b31, .ref b32, .int 0, .int 0, .int 0, .int 0, .ref b33, .ref b34, .int 0, .int 0, .ref b35]))] [] (fun sz => c133_X12_at l g pm (xs 1) (xs 2) (xs 3) b0 b1 b2 b3 b4 b5 b6 b7 b8 b9 b10 b11 b12 b13 b14 b15 b16 b17 b18 b19 b20 b21 b22 b23 b24 b25 b26 b27 b28 b29 b30 b31 b32 b33 b34 b35 sz) gQ_X12_at rfl ⟨rfl, rfl⟩ 3 (by decide) ⟨Nat.le_of_ble_eq_true rfl, Nat.le_of_ble_eq_true rfl⟩ 0 rfl rfl [0] [] rfl rfl (by decide) (by decide) (by decide) rfl rfl (Nat.le_of_ble_eq_true rfl) ⟨Nat.le_of_ble_eq_true rfl, Nat.le_of_ble_eq_true rfl⟩ (fun r3 _ w4 => ?_)
  refine r_ws [] rfl ?_
  have w4 : r3 = 0 := w4
  subst w4
  refine r_lcmp 414 0 C dL_law_414 (by decide) ?_
  refine r_if_eq_t 415 545 C dL_law_415 (by decide) (by decide) ?_
  refine r_iinc 545 0 6 C dL_law_545 rfl (by decide) [(3, .int 6), (2, .ref pm), (1, .ref px), (0, .ref b)] (by decide) rfl ?_
  refine r_goto 548 18 C dL_law_548 (by decide) ?_
  refine r_iload_n 18 0 C dL_law_18 rfl ?_
  refine r_aload_n 19 3 C dL_law_19 rfl ?_
  refine r_slen 20 6 C hX hbl hbA dL_law_20 (by decide) ?_
  refine r_bipush 21 6 C dL_law_21 (by decide) ?_
  refine r_isub 23 0 C dL_law_23 (by decide) ?_
  refine r_icmp_gt_t 24 551 C dL_law_24 (by decide) (by decide) ?_
  refine r_iconst 551 1 C dL_law_551 (by decide) ?_
  exact r_lawret hx hb hr hlocks 552 dL_law_552 (Nat.le_of_ble_eq_true rfl) (Nat.le_of_ble_eq_true rfl)
set_option maxHeartbeats 4000000 in
set_option maxRecDepth 100000 in
theorem lc_cipher {p : Program} {e : Env} {s : State} {m : MethodId} {below : List Frame} {meth : Method} {c : Code} (l : Launch) {b : Nat} {xs : Nat → Int32} (C0 : lw_At p s m meth c b 6 xs) {g : GD} (C : Cx g p s m #[Value.ref b] meth c (fun q => s.heap.size ≤ q) RL cL_law 4 wsQ) (px : Nat) (pm : Nat) (a0 : Nat) (a1 : Nat) (a11 : Nat) (b1 : Nat) (a2 : Nat) (a3 : Nat) (a4 : Nat) (a5 : Nat) (a6 : Nat) (a7 : Nat) (a8 : Nat) (a9 : Nat) (a12 : Nat → Int32) (b0 : Nat) (b2 : Nat) (b3 : Nat) (b4 : Nat) (b5 : Nat) (b6 : Nat) (b7 : Nat) (b8 : Nat) (b9 : Nat) (b10 : Nat) (b11 : Nat) (b12 : Nat) (b13 : Nat) (b14 : Nat) (b15 : Nat) (b16 : Nat) (b17 : Nat) (b18 : Nat) (b19 : Nat) (b20 : Nat) (b21 : Nat) (b22 : Nat) (b23 : Nat) (b24 : Nat) (b25 : Nat) (b26 : Nat) (b27 : Nat) (b28 : Nat) (b29 : Nat) (b30 : Nat) (b31 : Nat) (b32 : Nat) (b33 : Nat) (b34 : Nat) (b35 : Nat) (b36 : Nat → Int32) : WW p l e room_1 s m #[Value.ref b] below meth c (fun q => s.heap.size ≤ q) (lw_Z below #[Value.ref b] s) g 4 90 50196 [(px, .inr (10, [.ref a0, .ref a1, .ref a2, .ref a3, .ref a4, .ref a5, .ref a6, .ref a7, .ref a8, .null])), (a0, .inr (4, [.ref a9, .int 0])), (a1, .inr (4, [.ref a11, .int 0])), (a11, .inl (gB g, 1508, .inl a12)), (pm, .inr (11, [.ref b0, .int 0, .ref b1, .int 0, .int 0, .int (-1), .ref b2, .ref b3, .ref b4, .ref b5, .int 0, .int 0, .int 0, .ref b6, .ref b7, .ref b8, .ref b9, .int 0, .int 0, .int 0, .long 0, .int 0, .int 0, .long 0, .long 0, .ref b10, .ref b11, .ref b12, .ref b13, .long 0, .int 0, .ref b14, .int 0, .int 0, .int 0, .int 0, .ref b15, .ref b16, .ref b17, .ref b18, .ref b19, .ref b20, .ref b21, .ref b22, .ref b23, .ref b24, .ref b25, .int 0, .int 0, .int 0, .int 0, .int 0, .int 0, .int 0, .long 0, .int 0, .ref b26, .ref b27, .long 0, .long 0, .int 0, .ref b28, .int 0, .ref b29, .ref b30, .ref b31, .ref b32, .int 0, .int 0, .int 0, .int 0, .ref b33, .ref b34, .int 0, .int 0, .ref b35])), (b1, .inl (gB g, 1510, .inl b36))] 420 [(3, .int 0), (2, .ref pm), (1, .ref px), (0, .ref b)] [] := by
  obtain ⟨hx, hb, hr, hml, hown, hts0, hX, hbl, hlocks, hgv⟩ := id C0
  have hbA : ¬ (fun q : Nat => s.heap.size ≤ q) b := Nat.not_le.mpr hbl
  refine r_aload_n 420 2 C dL_law_420 rfl ?_
  refine r_aload_n 421 3 C dL_law_421 rfl ?_
  refine r_iload_n 422 0 C dL_law_422 rfl ?_
  refine r_iconst 423 1 C dL_law_423 (by decide) ?_
  refine r_iadd 424 1 C dL_law_424 (by decide) ?_
  refine r_sld 425 (xs 1) C hX hbl hbA dL_law_425 (vin (by decide)) rfl ?_
  refine r_aload_n 426 3 C dL_law_426 rfl ?_
  refine r_iload_n 427 0 C dL_law_427 rfl ?_
  refine r_iconst 428 2 C dL_law_428 (by decide) ?_
  refine r_iadd 429 2 C dL_law_429 (by decide) ?_
  refine r_sld 430 (xs 2) C hX hbl hbA dL_law_430 (vin (by decide)) rfl ?_
  refine r_callVi 431 C dL_law_431 [] [(px, .inr (10, [.ref a0, .ref a1, .ref a2, .ref a3, .ref a4, .ref a5, .ref a6, .ref a7, .ref a8, .null])), (a0, .inr (4, [.ref a9, .int 0])), (a1, .inr (4, [.ref a11, .int 0])), (a11, .inl (gB g, 1508, .inl a12))] [(pm, .inr (11, [.ref b0, .int 0, .ref b1, .int 0, .int 0, .int (-1), .ref b2, .ref b3, .ref b4, .ref b5, .int 0, .int 0, .int 0, .ref b6, .ref b7, .ref b8, .ref b9, .int 0, .int 0, .int 0, .long 0, .int 0, .int 0, .long 0, .long 0, .ref b10, .ref b11, .ref b12, .ref b13, .long 0, .int 0, .ref b14, .int 0, .int 0, .int 0, .int 0, .ref b15, .ref b16, .ref b17, .ref b18, .ref b19, .ref b20, .ref b21, .ref b22, .ref b23, .ref b24, .ref b25, .int 0, .int 0, .int 0, .int 0, .int 0, .int 0, .int 0, .long 0, .int 0, .ref b26, .ref b27, .long 0, .long 0, .int 0, .ref b28, .int 0, .ref b29, .ref b30, .ref b31, .ref b32, .int 0, .int 0, .int 0, .int 0, .ref b33, .ref b34, .int 0, .int 0, .ref b35])), (b1, .inl (gB g, 1510, .inl b36))] (fun sz => c161_X11_cipher l g px (xs 1) (xs 2) a0 a1 a11 a2 a3 a4 a5 a6 a7 a8 a9 a12 sz) gQ_X11_cipher rfl ⟨rfl, rfl⟩ 2 (by decide) ⟨Nat.le_of_ble_eq_true rfl, Nat.le_of_ble_eq_true rfl⟩ 0 rfl rfl [0, 1, 2, 3] [4, 5] rfl rfl (by decide) (by decide) (by decide) rfl rfl (Nat.le_of_ble_eq_true rfl) ⟨Nat.le_of_ble_eq_true rfl, Nat.le_of_ble_eq_true rfl⟩ (fun r1 _ w2 => ?_)
  refine r_ws [(pm, .inr (11, [.ref b0, .int 0, .ref b1, .int 0, .int 0, .int (-1), .ref b2, .ref b3, .ref b4, .ref b5, .int 0, .int 0, .int 0, .ref b6, .ref b7, .ref b8, .ref b9, .int 0, .int 0, .int 0, .long 0, .int 0, .int 0, .long 0, .long 0, .ref b10, .ref b11, .ref b12, .ref b13, .long 0, .int 0, .ref b14, .int 0, .int 0, .int 0, .int 0, .ref b15, .ref b16, .ref b17, .ref b18, .ref b19, .ref b20, .ref b21, .ref b22, .ref b23, .ref b24, .ref b25, .int 0, .int 0, .int 0, .int 0, .int 0, .int 0, .int 0, .long 0, .int 0, .ref b26, .ref b27, .long 0, .long 0, .int 0, .ref b28, .int 0, .ref b29, .ref b30, .ref b31, .ref b32, .int 0, .int 0, .int 0, .int 0, .ref b33, .ref b34, .int 0, .int 0, .ref b35])), (b1, .inl (gB g, 1510, .inl b36))] rfl ?_
  rcases w2 with ⟨k3, rfl⟩ | w2
  · skip
    refine r_aload_n 434 1 C dL_law_434 rfl ?_
    refine r_aload_n 435 3 C dL_law_435 rfl ?_
    refine r_iload_n 436 0 C dL_law_436 rfl ?_
    refine r_iconst 437 1 C dL_law_437 (by decide) ?_
    refine r_iadd 438 1 C dL_law_438 (by decide) ?_
    refine r_sld 439 (xs 1) C hX hbl hbA dL_law_439 (vin (by decide)) rfl ?_
    refine r_aload_n 440 3 C dL_law_440 rfl ?_
    refine r_iload_n 441 0 C dL_law_441 rfl ?_
    refine r_iconst 442 2 C dL_law_442 (by decide) ?_
    refine r_iadd 443 2 C dL_law_443 (by decide) ?_
    refine r_sld 444 (xs 2) C hX hbl hbA dL_law_444 (vin (by decide)) rfl ?_
    refine r_callVi 445 C dL_law_445 [.int (-1)] [(pm, .inr (11, [.ref b0, .int 0, .ref b1, .int 0, .int 0, .int (-1), .ref b2, .ref b3, .ref b4, .ref b5, .int 0, .int 0, .int 0, .ref b6, .ref b7, .ref b8, .ref b9, .int 0, .int 0, .int 0, .long 0, .int 0, .int 0, .long 0, .long 0, .ref b10, .ref b11, .ref b12, .ref b13, .long 0, .int 0, .ref b14, .int 0, .int 0, .int 0, .int 0, .ref b15, .ref b16, .ref b17, .ref b18, .ref b19, .ref b20, .ref b21, .ref b22, .ref b23, .ref b24, .ref b25, .int 0, .int 0, .int 0, .int 0, .int 0, .int 0, .int 0, .long 0, .int 0, .ref b26, .ref b27, .long 0, .long 0, .int 0, .ref b28, .int 0, .ref b29, .ref b30, .ref b31, .ref b32, .int 0, .int 0, .int 0, .int 0, .ref b33, .ref b34, .int 0, .int 0, .ref b35])), (b1, .inl (gB g, 1510, .inl b36))] [] (fun sz => c170_X12_cipher l g pm (xs 1) (xs 2) b1 b0 b2 b3 b4 b5 b6 b7 b8 b9 b10 b11 b12 b13 b14 b15 b16 b17 b18 b19 b20 b21 b22 b23 b24 b25 b26 b27 b28 b29 b30 b31 b32 b33 b34 b35 b36 sz) gQ_X12_cipher rfl ⟨rfl, rfl⟩ 2 (by decide) ⟨Nat.le_of_ble_eq_true rfl, Nat.le_of_ble_eq_true rfl⟩ 0 rfl rfl [0, 1] [] rfl rfl (by decide) (by decide) (by decide) rfl rfl (Nat.le_of_ble_eq_true rfl) ⟨Nat.le_of_ble_eq_true rfl, Nat.le_of_ble_eq_true rfl⟩ (fun r4 _ w5 => ?_)
    refine r_ws [] rfl ?_
    rcases w5 with ⟨k6, rfl⟩ | w5
    · skip
      refine r_icmp_eq_t 448 545 C dL_law_448 (by decide) (by decide) ?_
      refine r_iinc 545 0 6 C dL_law_545 rfl (by decide) [(3, .int 6), (2, .ref pm), (1, .ref px), (0, .ref b)] (by decide) rfl ?_
      refine r_goto 548 18 C dL_law_548 (by decide) ?_
      refine r_iload_n 18 0 C dL_law_18 rfl ?_
      refine r_aload_n 19 3 C dL_law_19 rfl ?_
      refine r_slen 20 6 C hX hbl hbA dL_law_20 (by decide) ?_
      refine r_bipush 21 6 C dL_law_21 (by decide) ?_
      refine r_isub 23 0 C dL_law_23 (by decide) ?_
      refine r_icmp_gt_t 24 551 C dL_law_24 (by decide) (by decide) ?_
      refine r_iconst 551 1 C dL_law_551 (by decide) ?_
      exact r_lawret hx hb hr hlocks 552 dL_law_552 (Nat.le_of_ble_eq_true rfl) (Nat.le_of_ble_eq_true rfl)
    rcases w5 with ⟨k7, k8, rfl⟩ | w5
    · skip
      exact absurd trivial (by omega)
    rcases w5 with ⟨k9, k10, k11, rfl⟩ | w5
    · skip
      exact absurd trivial (by omega)
    rcases w5 with ⟨k12, k13, k14, k15, k16, rfl⟩ | w5
    · skip
      exact absurd trivial (by omega)
    rcases w5 with ⟨k17, k18, k19, k20, k21, k22, rfl⟩ | w5
    · skip
      exact absurd trivial (by omega)
    rcases w5 with ⟨k23, k24, k25, k26, k27, k28, k29, rfl⟩ | w5
    · skip
      exact absurd trivial (by omega)
    rcases w5 with ⟨k30, k31, k32, k33, k34, k35, k36, k37, rfl⟩ | w5
    · skip
      exact absurd trivial (by omega)
    rcases w5 with ⟨k38, k39, k40, k41, k42, k43, k44, k45, k46, rfl⟩ | w5
    · skip
      exact absurd trivial (by omega)
    rcases w5 with ⟨k47, k48, k49, k50, k51, k52, k53, k54, k55, k56, rfl⟩ | w5
    · skip
      exact absurd trivial (by omega)
    rcases w5 with ⟨k57, k58, k59, k60, k61, k62, k63, k64, k65, k66, k67, rfl⟩ | w5
    · skip
      exact absurd trivial (by omega)
    rcases w5 with ⟨k68, k69, k70, k71, k72, k73, k74, k75, k76, k77, k78, k79, rfl⟩ | w5
    · skip
      exact absurd trivial (by omega)
    rcases w5 with ⟨k80, k81, k82, k83, k84, k85, k86, k87, k88, k89, k90, k91, rfl⟩ | w5
    · skip
      exact absurd trivial (by omega)
    obtain ⟨k92, k93, k94, k95, rfl⟩ := w5
    exact absurd trivial (by omega)
  rcases w2 with ⟨k96, k97, rfl⟩ | w2
  · skip
    refine r_aload_n 434 1 C dL_law_434 rfl ?_
    refine r_aload_n 435 3 C dL_law_435 rfl ?_
    refine r_iload_n 436 0 C dL_law_436 rfl ?_
    refine r_iconst 437 1 C dL_law_437 (by decide) ?_
    refine r_iadd 438 1 C dL_law_438 (by decide) ?_
    refine r_sld 439 (xs 1) C hX hbl hbA dL_law_439 (vin (by decide)) rfl ?_
    refine r_aload_n 440 3 C dL_law_440 rfl ?_
    refine r_iload_n 441 0 C dL_law_441 rfl ?_
    refine r_iconst 442 2 C dL_law_442 (by decide) ?_
    refine r_iadd 443 2 C dL_law_443 (by decide) ?_
    refine r_sld 444 (xs 2) C hX hbl hbA dL_law_444 (vin (by decide)) rfl ?_
    refine r_callVi 445 C dL_law_445 [.int (-1)] [(pm, .inr (11, [.ref b0, .int 0, .ref b1, .int 0, .int 0, .int (-1), .ref b2, .ref b3, .ref b4, .ref b5, .int 0, .int 0, .int 0, .ref b6, .ref b7, .ref b8, .ref b9, .int 0, .int 0, .int 0, .long 0, .int 0, .int 0, .long 0, .long 0, .ref b10, .ref b11, .ref b12, .ref b13, .long 0, .int 0, .ref b14, .int 0, .int 0, .int 0, .int 0, .ref b15, .ref b16, .ref b17, .ref b18, .ref b19, .ref b20, .ref b21, .ref b22, .ref b23, .ref b24, .ref b25, .int 0, .int 0, .int 0, .int 0, .int 0, .int 0, .int 0, .long 0, .int 0, .ref b26, .ref b27, .long 0, .long 0, .int 0, .ref b28, .int 0, .ref b29, .ref b30, .ref b31, .ref b32, .int 0, .int 0, .int 0, .int 0, .ref b33, .ref b34, .int 0, .int 0, .ref b35])), (b1, .inl (gB g, 1510, .inl b36))] [] (fun sz => c170_X12_cipher l g pm (xs 1) (xs 2) b1 b0 b2 b3 b4 b5 b6 b7 b8 b9 b10 b11 b12 b13 b14 b15 b16 b17 b18 b19 b20 b21 b22 b23 b24 b25 b26 b27 b28 b29 b30 b31 b32 b33 b34 b35 b36 sz) gQ_X12_cipher rfl ⟨rfl, rfl⟩ 2 (by decide) ⟨Nat.le_of_ble_eq_true rfl, Nat.le_of_ble_eq_true rfl⟩ 0 rfl rfl [0, 1] [] rfl rfl (by decide) (by decide) (by decide) rfl rfl (Nat.le_of_ble_eq_true rfl) ⟨Nat.le_of_ble_eq_true rfl, Nat.le_of_ble_eq_true rfl⟩ (fun r98 _ w99 => ?_)
    refine r_ws [] rfl ?_
    rcases w99 with ⟨k100, rfl⟩ | w99
    · skip
      exact absurd trivial (by omega)
    rcases w99 with ⟨k101, k102, rfl⟩ | w99
    · skip
      refine r_icmp_eq_t 448 545 C dL_law_448 (by decide) (by decide) ?_
      refine r_iinc 545 0 6 C dL_law_545 rfl (by decide) [(3, .int 6), (2, .ref pm), (1, .ref px), (0, .ref b)] (by decide) rfl ?_
      refine r_goto 548 18 C dL_law_548 (by decide) ?_
      refine r_iload_n 18 0 C dL_law_18 rfl ?_
      refine r_aload_n 19 3 C dL_law_19 rfl ?_
      refine r_slen 20 6 C hX hbl hbA dL_law_20 (by decide) ?_
      refine r_bipush 21 6 C dL_law_21 (by decide) ?_
      refine r_isub 23 0 C dL_law_23 (by decide) ?_
      refine r_icmp_gt_t 24 551 C dL_law_24 (by decide) (by decide) ?_
      refine r_iconst 551 1 C dL_law_551 (by decide) ?_
      exact r_lawret hx hb hr hlocks 552 dL_law_552 (Nat.le_of_ble_eq_true rfl) (Nat.le_of_ble_eq_true rfl)
    rcases w99 with ⟨k103, k104, k105, rfl⟩ | w99
    · skip
      exact absurd trivial (by omega)
    rcases w99 with ⟨k106, k107, k108, k109, k110, rfl⟩ | w99
    · skip
      exact absurd trivial (by omega)
    rcases w99 with ⟨k111, k112, k113, k114, k115, k116, rfl⟩ | w99
    · skip
      exact absurd trivial (by omega)
    rcases w99 with ⟨k117, k118, k119, k120, k121, k122, k123, rfl⟩ | w99
    · skip
      exact absurd trivial (by omega)
    rcases w99 with ⟨k124, k125, k126, k127, k128, k129, k130, k131, rfl⟩ | w99
    · skip
      exact absurd trivial (by omega)
    rcases w99 with ⟨k132, k133, k134, k135, k136, k137, k138, k139, k140, rfl⟩ | w99
    · skip
      exact absurd trivial (by omega)
    rcases w99 with ⟨k141, k142, k143, k144, k145, k146, k147, k148, k149, k150, rfl⟩ | w99
    · skip
      exact absurd trivial (by omega)
    rcases w99 with ⟨k151, k152, k153, k154, k155, k156, k157, k158, k159, k160, k161, rfl⟩ | w99
    · skip
      exact absurd trivial (by omega)
    rcases w99 with ⟨k162, k163, k164, k165, k166, k167, k168, k169, k170, k171, k172, k173, rfl⟩ | w99
    · skip
      exact absurd trivial (by omega)
    rcases w99 with ⟨k174, k175, k176, k177, k178, k179, k180, k181, k182, k183, k184, k185, rfl⟩ | w99
    · skip
      exact absurd trivial (by omega)
    obtain ⟨k186, k187, k188, k189, rfl⟩ := w99
    exact absurd trivial (by omega)
  rcases w2 with ⟨k190, k191, k192, rfl⟩ | w2
  · skip
    refine r_aload_n 434 1 C dL_law_434 rfl ?_
    refine r_aload_n 435 3 C dL_law_435 rfl ?_
    refine r_iload_n 436 0 C dL_law_436 rfl ?_
    refine r_iconst 437 1 C dL_law_437 (by decide) ?_
    refine r_iadd 438 1 C dL_law_438 (by decide) ?_
    refine r_sld 439 (xs 1) C hX hbl hbA dL_law_439 (vin (by decide)) rfl ?_
    refine r_aload_n 440 3 C dL_law_440 rfl ?_
    refine r_iload_n 441 0 C dL_law_441 rfl ?_
    refine r_iconst 442 2 C dL_law_442 (by decide) ?_
    refine r_iadd 443 2 C dL_law_443 (by decide) ?_
    refine r_sld 444 (xs 2) C hX hbl hbA dL_law_444 (vin (by decide)) rfl ?_
    refine r_callVi 445 C dL_law_445 [.int (-1)] [(pm, .inr (11, [.ref b0, .int 0, .ref b1, .int 0, .int 0, .int (-1), .ref b2, .ref b3, .ref b4, .ref b5, .int 0, .int 0, .int 0, .ref b6, .ref b7, .ref b8, .ref b9, .int 0, .int 0, .int 0, .long 0, .int 0, .int 0, .long 0, .long 0, .ref b10, .ref b11, .ref b12, .ref b13, .long 0, .int 0, .ref b14, .int 0, .int 0, .int 0, .int 0, .ref b15, .ref b16, .ref b17, .ref b18, .ref b19, .ref b20, .ref b21, .ref b22, .ref b23, .ref b24, .ref b25, .int 0, .int 0, .int 0, .int 0, .int 0, .int 0, .int 0, .long 0, .int 0, .ref b26, .ref b27, .long 0, .long 0, .int 0, .ref b28, .int 0, .ref b29, .ref b30, .ref b31, .ref b32, .int 0, .int 0, .int 0, .int 0, .ref b33, .ref b34, .int 0, .int 0, .ref b35])), (b1, .inl (gB g, 1510, .inl b36))] [] (fun sz => c170_X12_cipher l g pm (xs 1) (xs 2) b1 b0 b2 b3 b4 b5 b6 b7 b8 b9 b10 b11 b12 b13 b14 b15 b16 b17 b18 b19 b20 b21 b22 b23 b24 b25 b26 b27 b28 b29 b30 b31 b32 b33 b34 b35 b36 sz) gQ_X12_cipher rfl ⟨rfl, rfl⟩ 2 (by decide) ⟨Nat.le_of_ble_eq_true rfl, Nat.le_of_ble_eq_true rfl⟩ 0 rfl rfl [0, 1] [] rfl rfl (by decide) (by decide) (by decide) rfl rfl (Nat.le_of_ble_eq_true rfl) ⟨Nat.le_of_ble_eq_true rfl, Nat.le_of_ble_eq_true rfl⟩ (fun r193 _ w194 => ?_)
    refine r_ws [] rfl ?_
    rcases w194 with ⟨k195, rfl⟩ | w194
    · skip
      exact absurd trivial (by omega)
    rcases w194 with ⟨k196, k197, rfl⟩ | w194
    · skip
      exact absurd trivial (by omega)
    rcases w194 with ⟨k198, k199, k200, rfl⟩ | w194
    · skip
      refine r_icmp_eq_t 448 545 C dL_law_448 (by decide) (by decide) ?_
      refine r_iinc 545 0 6 C dL_law_545 rfl (by decide) [(3, .int 6), (2, .ref pm), (1, .ref px), (0, .ref b)] (by decide) rfl ?_
      refine r_goto 548 18 C dL_law_548 (by decide) ?_
      refine r_iload_n 18 0 C dL_law_18 rfl ?_
      refine r_aload_n 19 3 C dL_law_19 rfl ?_
      refine r_slen 20 6 C hX hbl hbA dL_law_20 (by decide) ?_
      refine r_bipush 21 6 C dL_law_21 (by decide) ?_
      refine r_isub 23 0 C dL_law_23 (by decide) ?_
      refine r_icmp_gt_t 24 551 C dL_law_24 (by decide) (by decide) ?_
      refine r_iconst 551 1 C dL_law_551 (by decide) ?_
      exact r_lawret hx hb hr hlocks 552 dL_law_552 (Nat.le_of_ble_eq_true rfl) (Nat.le_of_ble_eq_true rfl)
    rcases w194 with ⟨k201, k202, k203, k204, k205, rfl⟩ | w194
    · skip
      exact absurd trivial (by omega)
    rcases w194 with ⟨k206, k207, k208, k209, k210, k211, rfl⟩ | w194
    · skip
      exact absurd trivial (by omega)
    rcases w194 with ⟨k212, k213, k214, k215, k216, k217, k218, rfl⟩ | w194
    · skip
      exact absurd trivial (by omega)
    rcases w194 with ⟨k219, k220, k221, k222, k223, k224, k225, k226, rfl⟩ | w194
    · skip
      exact absurd trivial (by omega)
    rcases w194 with ⟨k227, k228, k229, k230, k231, k232, k233, k234, k235, rfl⟩ | w194
    · skip
      exact absurd trivial (by omega)
    rcases w194 with ⟨k236, k237, k238, k239, k240, k241, k242, k243, k244, k245, rfl⟩ | w194
    · skip
      exact absurd trivial (by omega)
    rcases w194 with ⟨k246, k247, k248, k249, k250, k251, k252, k253, k254, k255, k256, rfl⟩ | w194
    · skip
      exact absurd trivial (by omega)
    rcases w194 with ⟨k257, k258, k259, k260, k261, k262, k263, k264, k265, k266, k267, k268, rfl⟩ | w194
    · skip
      exact absurd trivial (by omega)
    rcases w194 with ⟨k269, k270, k271, k272, k273, k274, k275, k276, k277, k278, k279, k280, rfl⟩ | w194
    · skip
      exact absurd trivial (by omega)
    obtain ⟨k281, k282, k283, k284, rfl⟩ := w194
    exact absurd trivial (by omega)
  rcases w2 with ⟨k285, k286, k287, k288, rfl⟩ | w2
  · skip
    refine r_aload_n 434 1 C dL_law_434 rfl ?_
    refine r_aload_n 435 3 C dL_law_435 rfl ?_
    refine r_iload_n 436 0 C dL_law_436 rfl ?_
    refine r_iconst 437 1 C dL_law_437 (by decide) ?_
    refine r_iadd 438 1 C dL_law_438 (by decide) ?_
    refine r_sld 439 (xs 1) C hX hbl hbA dL_law_439 (vin (by decide)) rfl ?_
    refine r_aload_n 440 3 C dL_law_440 rfl ?_
    refine r_iload_n 441 0 C dL_law_441 rfl ?_
    refine r_iconst 442 2 C dL_law_442 (by decide) ?_
    refine r_iadd 443 2 C dL_law_443 (by decide) ?_
    refine r_sld 444 (xs 2) C hX hbl hbA dL_law_444 (vin (by decide)) rfl ?_
    refine r_callVi 445 C dL_law_445 [.int (-1)] [(pm, .inr (11, [.ref b0, .int 0, .ref b1, .int 0, .int 0, .int (-1), .ref b2, .ref b3, .ref b4, .ref b5, .int 0, .int 0, .int 0, .ref b6, .ref b7, .ref b8, .ref b9, .int 0, .int 0, .int 0, .long 0, .int 0, .int 0, .long 0, .long 0, .ref b10, .ref b11, .ref b12, .ref b13, .long 0, .int 0, .ref b14, .int 0, .int 0, .int 0, .int 0, .ref b15, .ref b16, .ref b17, .ref b18, .ref b19, .ref b20, .ref b21, .ref b22, .ref b23, .ref b24, .ref b25, .int 0, .int 0, .int 0, .int 0, .int 0, .int 0, .int 0, .long 0, .int 0, .ref b26, .ref b27, .long 0, .long 0, .int 0, .ref b28, .int 0, .ref b29, .ref b30, .ref b31, .ref b32, .int 0, .int 0, .int 0, .int 0, .ref b33, .ref b34, .int 0, .int 0, .ref b35])), (b1, .inl (gB g, 1510, .inl b36))] [] (fun sz => c170_X12_cipher l g pm (xs 1) (xs 2) b1 b0 b2 b3 b4 b5 b6 b7 b8 b9 b10 b11 b12 b13 b14 b15 b16 b17 b18 b19 b20 b21 b22 b23 b24 b25 b26 b27 b28 b29 b30 b31 b32 b33 b34 b35 b36 sz) gQ_X12_cipher rfl ⟨rfl, rfl⟩ 2 (by decide) ⟨Nat.le_of_ble_eq_true rfl, Nat.le_of_ble_eq_true rfl⟩ 0 rfl rfl [0, 1] [] rfl rfl (by decide) (by decide) (by decide) rfl rfl (Nat.le_of_ble_eq_true rfl) ⟨Nat.le_of_ble_eq_true rfl, Nat.le_of_ble_eq_true rfl⟩ (fun r289 _ w290 => ?_)
    refine r_ws [] rfl ?_
    rcases w290 with ⟨k291, rfl⟩ | w290
    · skip
      exact absurd trivial (by omega)
    rcases w290 with ⟨k292, k293, rfl⟩ | w290
    · skip
      exact absurd trivial (by omega)
    rcases w290 with ⟨k294, k295, k296, rfl⟩ | w290
    · skip
      exact absurd trivial (by omega)
    rcases w290 with ⟨k297, k298, k299, k300, k301, rfl⟩ | w290
    · skip
      exact absurd trivial (by omega)
    rcases w290 with ⟨k302, k303, k304, k305, k306, k307, rfl⟩ | w290
    · skip
      exact absurd trivial (by omega)
    rcases w290 with ⟨k308, k309, k310, k311, k312, k313, k314, rfl⟩ | w290
    · skip
      exact absurd trivial (by omega)
    rcases w290 with ⟨k315, k316, k317, k318, k319, k320, k321, k322, rfl⟩ | w290
    · skip
      exact absurd trivial (by omega)
    rcases w290 with ⟨k323, k324, k325, k326, k327, k328, k329, k330, k331, rfl⟩ | w290
    · skip
      exact absurd trivial (by omega)
    rcases w290 with ⟨k332, k333, k334, k335, k336, k337, k338, k339, k340, k341, rfl⟩ | w290
    · skip
      exact absurd trivial (by omega)
    rcases w290 with ⟨k342, k343, k344, k345, k346, k347, k348, k349, k350, k351, k352, rfl⟩ | w290
    · skip
      exact absurd trivial (by omega)
    rcases w290 with ⟨k353, k354, k355, k356, k357, k358, k359, k360, k361, k362, k363, k364, rfl⟩ | w290
    · skip
      exact absurd trivial (by omega)
    rcases w290 with ⟨k365, k366, k367, k368, k369, k370, k371, k372, k373, k374, k375, k376, rfl⟩ | w290
    · skip
      exact absurd trivial (by omega)
    obtain ⟨k377, k378, k379, k380, rfl⟩ := w290
    refine r_icmp_eq_t 448 545 C dL_law_448 (by decide) (by decide) ?_
    refine r_iinc 545 0 6 C dL_law_545 rfl (by decide) [(3, .int 6), (2, .ref pm), (1, .ref px), (0, .ref b)] (by decide) rfl ?_
    refine r_goto 548 18 C dL_law_548 (by decide) ?_
    refine r_iload_n 18 0 C dL_law_18 rfl ?_
    refine r_aload_n 19 3 C dL_law_19 rfl ?_
    refine r_slen 20 6 C hX hbl hbA dL_law_20 (by decide) ?_
    refine r_bipush 21 6 C dL_law_21 (by decide) ?_
    refine r_isub 23 0 C dL_law_23 (by decide) ?_
    refine r_icmp_gt_t 24 551 C dL_law_24 (by decide) (by decide) ?_
    refine r_iconst 551 1 C dL_law_551 (by decide) ?_
    exact r_lawret hx hb hr hlocks 552 dL_law_552 (Nat.le_of_ble_eq_true rfl) (Nat.le_of_ble_eq_true rfl)
  rcases w2 with ⟨k381, k382, k383, k384, k385, rfl⟩ | w2
  · skip
    refine r_aload_n 434 1 C dL_law_434 rfl ?_
    refine r_aload_n 435 3 C dL_law_435 rfl ?_
    refine r_iload_n 436 0 C dL_law_436 rfl ?_
    refine r_iconst 437 1 C dL_law_437 (by decide) ?_
    refine r_iadd 438 1 C dL_law_438 (by decide) ?_
    refine r_sld 439 (xs 1) C hX hbl hbA dL_law_439 (vin (by decide)) rfl ?_
    refine r_aload_n 440 3 C dL_law_440 rfl ?_
    refine r_iload_n 441 0 C dL_law_441 rfl ?_
    refine r_iconst 442 2 C dL_law_442 (by decide) ?_
    refine r_iadd 443 2 C dL_law_443 (by decide) ?_
    refine r_sld 444 (xs 2) C hX hbl hbA dL_law_444 (vin (by decide)) rfl ?_
    refine r_callVi 445 C dL_law_445 [.int 0] [(pm, .inr (11, [.ref b0, .int 0, .ref b1, .int 0, .int 0, .int (-1), .ref b2, .ref b3, .ref b4, .ref b5, .int 0, .int 0, .int 0, .ref b6, .ref b7, .ref b8, .ref b9, .int 0, .int 0, .int 0, .long 0, .int 0, .int 0, .long 0, .long 0, .ref b10, .ref b11, .ref b12, .ref b13, .long 0, .int 0, .ref b14, .int 0, .int 0, .int 0, .int 0, .ref b15, .ref b16, .ref b17, .ref b18, .ref b19, .ref b20, .ref b21, .ref b22, .ref b23, .ref b24, .ref b25, .int 0, .int 0, .int 0, .int 0, .int 0, .int 0, .int 0, .long 0, .int 0, .ref b26, .ref b27, .long 0, .long 0, .int 0, .ref b28, .int 0, .ref b29, .ref b30, .ref b31, .ref b32, .int 0, .int 0, .int 0, .int 0, .ref b33, .ref b34, .int 0, .int 0, .ref b35])), (b1, .inl (gB g, 1510, .inl b36))] [] (fun sz => c170_X12_cipher l g pm (xs 1) (xs 2) b1 b0 b2 b3 b4 b5 b6 b7 b8 b9 b10 b11 b12 b13 b14 b15 b16 b17 b18 b19 b20 b21 b22 b23 b24 b25 b26 b27 b28 b29 b30 b31 b32 b33 b34 b35 b36 sz) gQ_X12_cipher rfl ⟨rfl, rfl⟩ 2 (by decide) ⟨Nat.le_of_ble_eq_true rfl, Nat.le_of_ble_eq_true rfl⟩ 0 rfl rfl [0, 1] [] rfl rfl (by decide) (by decide) (by decide) rfl rfl (Nat.le_of_ble_eq_true rfl) ⟨Nat.le_of_ble_eq_true rfl, Nat.le_of_ble_eq_true rfl⟩ (fun r386 _ w387 => ?_)
    refine r_ws [] rfl ?_
    rcases w387 with ⟨k388, rfl⟩ | w387
    · skip
      exact absurd trivial (by omega)
    rcases w387 with ⟨k389, k390, rfl⟩ | w387
    · skip
      exact absurd trivial (by omega)
    rcases w387 with ⟨k391, k392, k393, rfl⟩ | w387
    · skip
      exact absurd trivial (by omega)
    rcases w387 with ⟨k394, k395, k396, k397, k398, rfl⟩ | w387
    · skip
      refine r_icmp_eq_t 448 545 C dL_law_448 (by decide) (by decide) ?_
      refine r_iinc 545 0 6 C dL_law_545 rfl (by decide) [(3, .int 6), (2, .ref pm), (1, .ref px), (0, .ref b)] (by decide) rfl ?_
      refine r_goto 548 18 C dL_law_548 (by decide) ?_
      refine r_iload_n 18 0 C dL_law_18 rfl ?_
      refine r_aload_n 19 3 C dL_law_19 rfl ?_
      refine r_slen 20 6 C hX hbl hbA dL_law_20 (by decide) ?_
      refine r_bipush 21 6 C dL_law_21 (by decide) ?_
      refine r_isub 23 0 C dL_law_23 (by decide) ?_
      refine r_icmp_gt_t 24 551 C dL_law_24 (by decide) (by decide) ?_
      refine r_iconst 551 1 C dL_law_551 (by decide) ?_
      exact r_lawret hx hb hr hlocks 552 dL_law_552 (Nat.le_of_ble_eq_true rfl) (Nat.le_of_ble_eq_true rfl)
    rcases w387 with ⟨k399, k400, k401, k402, k403, k404, rfl⟩ | w387
    · skip
      exact absurd trivial (by omega)
    rcases w387 with ⟨k405, k406, k407, k408, k409, k410, k411, rfl⟩ | w387
    · skip
      exact absurd trivial (by omega)
    rcases w387 with ⟨k412, k413, k414, k415, k416, k417, k418, k419, rfl⟩ | w387
    · skip
      exact absurd trivial (by omega)
    rcases w387 with ⟨k420, k421, k422, k423, k424, k425, k426, k427, k428, rfl⟩ | w387
    · skip
      exact absurd trivial (by omega)
    rcases w387 with ⟨k429, k430, k431, k432, k433, k434, k435, k436, k437, k438, rfl⟩ | w387
    · skip
      exact absurd trivial (by omega)
    rcases w387 with ⟨k439, k440, k441, k442, k443, k444, k445, k446, k447, k448, k449, rfl⟩ | w387
    · skip
      exact absurd trivial (by omega)
    rcases w387 with ⟨k450, k451, k452, k453, k454, k455, k456, k457, k458, k459, k460, k461, rfl⟩ | w387
    · skip
      exact absurd trivial (by omega)
    rcases w387 with ⟨k462, k463, k464, k465, k466, k467, k468, k469, k470, k471, k472, k473, rfl⟩ | w387
    · skip
      exact absurd trivial (by omega)
    obtain ⟨k474, k475, k476, k477, rfl⟩ := w387
    exact absurd trivial (by omega)
  rcases w2 with ⟨k478, k479, k480, k481, k482, k483, rfl⟩ | w2
  · skip
    refine r_aload_n 434 1 C dL_law_434 rfl ?_
    refine r_aload_n 435 3 C dL_law_435 rfl ?_
    refine r_iload_n 436 0 C dL_law_436 rfl ?_
    refine r_iconst 437 1 C dL_law_437 (by decide) ?_
    refine r_iadd 438 1 C dL_law_438 (by decide) ?_
    refine r_sld 439 (xs 1) C hX hbl hbA dL_law_439 (vin (by decide)) rfl ?_
    refine r_aload_n 440 3 C dL_law_440 rfl ?_
    refine r_iload_n 441 0 C dL_law_441 rfl ?_
    refine r_iconst 442 2 C dL_law_442 (by decide) ?_
    refine r_iadd 443 2 C dL_law_443 (by decide) ?_
    refine r_sld 444 (xs 2) C hX hbl hbA dL_law_444 (vin (by decide)) rfl ?_
    refine r_callVi 445 C dL_law_445 [.int 1] [(pm, .inr (11, [.ref b0, .int 0, .ref b1, .int 0, .int 0, .int (-1), .ref b2, .ref b3, .ref b4, .ref b5, .int 0, .int 0, .int 0, .ref b6, .ref b7, .ref b8, .ref b9, .int 0, .int 0, .int 0, .long 0, .int 0, .int 0, .long 0, .long 0, .ref b10, .ref b11, .ref b12, .ref b13, .long 0, .int 0, .ref b14, .int 0, .int 0, .int 0, .int 0, .ref b15, .ref b16, .ref b17, .ref b18, .ref b19, .ref b20, .ref b21, .ref b22, .ref b23, .ref b24, .ref b25, .int 0, .int 0, .int 0, .int 0, .int 0, .int 0, .int 0, .long 0, .int 0, .ref b26, .ref b27, .long 0, .long 0, .int 0, .ref b28, .int 0, .ref b29, .ref b30, .ref b31, .ref b32, .int 0, .int 0, .int 0, .int 0, .ref b33, .ref b34, .int 0, .int 0, .ref b35])), (b1, .inl (gB g, 1510, .inl b36))] [] (fun sz => c170_X12_cipher l g pm (xs 1) (xs 2) b1 b0 b2 b3 b4 b5 b6 b7 b8 b9 b10 b11 b12 b13 b14 b15 b16 b17 b18 b19 b20 b21 b22 b23 b24 b25 b26 b27 b28 b29 b30 b31 b32 b33 b34 b35 b36 sz) gQ_X12_cipher rfl ⟨rfl, rfl⟩ 2 (by decide) ⟨Nat.le_of_ble_eq_true rfl, Nat.le_of_ble_eq_true rfl⟩ 0 rfl rfl [0, 1] [] rfl rfl (by decide) (by decide) (by decide) rfl rfl (Nat.le_of_ble_eq_true rfl) ⟨Nat.le_of_ble_eq_true rfl, Nat.le_of_ble_eq_true rfl⟩ (fun r484 _ w485 => ?_)
    refine r_ws [] rfl ?_
    rcases w485 with ⟨k486, rfl⟩ | w485
    · skip
      exact absurd trivial (by omega)
    rcases w485 with ⟨k487, k488, rfl⟩ | w485
    · skip
      exact absurd trivial (by omega)
    rcases w485 with ⟨k489, k490, k491, rfl⟩ | w485
    · skip
      exact absurd trivial (by omega)
    rcases w485 with ⟨k492, k493, k494, k495, k496, rfl⟩ | w485
    · skip
      exact absurd trivial (by omega)
    rcases w485 with ⟨k497, k498, k499, k500, k501, k502, rfl⟩ | w485
    · skip
      refine r_icmp_eq_t 448 545 C dL_law_448 (by decide) (by decide) ?_
      refine r_iinc 545 0 6 C dL_law_545 rfl (by decide) [(3, .int 6), (2, .ref pm), (1, .ref px), (0, .ref b)] (by decide) rfl ?_
      refine r_goto 548 18 C dL_law_548 (by decide) ?_
      refine r_iload_n 18 0 C dL_law_18 rfl ?_
      refine r_aload_n 19 3 C dL_law_19 rfl ?_
      refine r_slen 20 6 C hX hbl hbA dL_law_20 (by decide) ?_
      refine r_bipush 21 6 C dL_law_21 (by decide) ?_
      refine r_isub 23 0 C dL_law_23 (by decide) ?_
      refine r_icmp_gt_t 24 551 C dL_law_24 (by decide) (by decide) ?_
      refine r_iconst 551 1 C dL_law_551 (by decide) ?_
      exact r_lawret hx hb hr hlocks 552 dL_law_552 (Nat.le_of_ble_eq_true rfl) (Nat.le_of_ble_eq_true rfl)
    rcases w485 with ⟨k503, k504, k505, k506, k507, k508, k509, rfl⟩ | w485
    · skip
      exact absurd trivial (by omega)
    rcases w485 with ⟨k510, k511, k512, k513, k514, k515, k516, k517, rfl⟩ | w485
    · skip
      exact absurd trivial (by omega)
    rcases w485 with ⟨k518, k519, k520, k521, k522, k523, k524, k525, k526, rfl⟩ | w485
    · skip
      exact absurd trivial (by omega)
    rcases w485 with ⟨k527, k528, k529, k530, k531, k532, k533, k534, k535, k536, rfl⟩ | w485
    · skip
      exact absurd trivial (by omega)
    rcases w485 with ⟨k537, k538, k539, k540, k541, k542, k543, k544, k545, k546, k547, rfl⟩ | w485
    · skip
      exact absurd trivial (by omega)
    rcases w485 with ⟨k548, k549, k550, k551, k552, k553, k554, k555, k556, k557, k558, k559, rfl⟩ | w485
    · skip
      exact absurd trivial (by omega)
    rcases w485 with ⟨k560, k561, k562, k563, k564, k565, k566, k567, k568, k569, k570, k571, rfl⟩ | w485
    · skip
      exact absurd trivial (by omega)
    obtain ⟨k572, k573, k574, k575, rfl⟩ := w485
    exact absurd trivial (by omega)
  rcases w2 with ⟨k576, k577, k578, k579, k580, k581, k582, rfl⟩ | w2
  · skip
    refine r_aload_n 434 1 C dL_law_434 rfl ?_
    refine r_aload_n 435 3 C dL_law_435 rfl ?_
    refine r_iload_n 436 0 C dL_law_436 rfl ?_
    refine r_iconst 437 1 C dL_law_437 (by decide) ?_
    refine r_iadd 438 1 C dL_law_438 (by decide) ?_
    refine r_sld 439 (xs 1) C hX hbl hbA dL_law_439 (vin (by decide)) rfl ?_
    refine r_aload_n 440 3 C dL_law_440 rfl ?_
    refine r_iload_n 441 0 C dL_law_441 rfl ?_
    refine r_iconst 442 2 C dL_law_442 (by decide) ?_
    refine r_iadd 443 2 C dL_law_443 (by decide) ?_
    refine r_sld 444 (xs 2) C hX hbl hbA dL_law_444 (vin (by decide)) rfl ?_
    refine r_callVi 445 C dL_law_445 [.int 2] [(pm, .inr (11, [.ref b0, .int 0, .ref b1, .int 0, .int 0, .int (-1), .ref b2, .ref b3, .ref b4, .ref b5, .int 0, .int 0, .int 0, .ref b6, .ref b7, .ref b8, .ref b9, .int 0, .int 0, .int 0, .long 0, .int 0, .int 0, .long 0, .long 0, .ref b10, .ref b11, .ref b12, .ref b13, .long 0, .int 0, .ref b14, .int 0, .int 0, .int 0, .int 0, .ref b15, .ref b16, .ref b17, .ref b18, .ref b19, .ref b20, .ref b21, .ref b22, .ref b23, .ref b24, .ref b25, .int 0, .int 0, .int 0, .int 0, .int 0, .int 0, .int 0, .long 0, .int 0, .ref b26, .ref b27, .long 0, .long 0, .int 0, .ref b28, .int 0, .ref b29, .ref b30, .ref b31, .ref b32, .int 0, .int 0, .int 0, .int 0, .ref b33, .ref b34, .int 0, .int 0, .ref b35])), (b1, .inl (gB g, 1510, .inl b36))] [] (fun sz => c170_X12_cipher l g pm (xs 1) (xs 2) b1 b0 b2 b3 b4 b5 b6 b7 b8 b9 b10 b11 b12 b13 b14 b15 b16 b17 b18 b19 b20 b21 b22 b23 b24 b25 b26 b27 b28 b29 b30 b31 b32 b33 b34 b35 b36 sz) gQ_X12_cipher rfl ⟨rfl, rfl⟩ 2 (by decide) ⟨Nat.le_of_ble_eq_true rfl, Nat.le_of_ble_eq_true rfl⟩ 0 rfl rfl [0, 1] [] rfl rfl (by decide) (by decide) (by decide) rfl rfl (Nat.le_of_ble_eq_true rfl) ⟨Nat.le_of_ble_eq_true rfl, Nat.le_of_ble_eq_true rfl⟩ (fun r583 _ w584 => ?_)
    refine r_ws [] rfl ?_
    rcases w584 with ⟨k585, rfl⟩ | w584
    · skip
      exact absurd trivial (by omega)
    rcases w584 with ⟨k586, k587, rfl⟩ | w584
    · skip
      exact absurd trivial (by omega)
    rcases w584 with ⟨k588, k589, k590, rfl⟩ | w584
    · skip
      exact absurd trivial (by omega)
    rcases w584 with ⟨k591, k592, k593, k594, k595, rfl⟩ | w584
    · skip
      exact absurd trivial (by omega)
    rcases w584 with ⟨k596, k597, k598, k599, k600, k601, rfl⟩ | w584
    · skip
      exact absurd trivial (by omega)
    rcases w584 with ⟨k602, k603, k604, k605, k606, k607, k608, rfl⟩ | w584
    · skip
      refine r_icmp_eq_t 448 545 C dL_law_448 (by decide) (by decide) ?_
      refine r_iinc 545 0 6 C dL_law_545 rfl (by decide) [(3, .int 6), (2, .ref pm), (1, .ref px), (0, .ref b)] (by decide) rfl ?_
      refine r_goto 548 18 C dL_law_548 (by decide) ?_
      refine r_iload_n 18 0 C dL_law_18 rfl ?_
      refine r_aload_n 19 3 C dL_law_19 rfl ?_
      refine r_slen 20 6 C hX hbl hbA dL_law_20 (by decide) ?_
      refine r_bipush 21 6 C dL_law_21 (by decide) ?_
      refine r_isub 23 0 C dL_law_23 (by decide) ?_
      refine r_icmp_gt_t 24 551 C dL_law_24 (by decide) (by decide) ?_
      refine r_iconst 551 1 C dL_law_551 (by decide) ?_
      exact r_lawret hx hb hr hlocks 552 dL_law_552 (Nat.le_of_ble_eq_true rfl) (Nat.le_of_ble_eq_true rfl)
    rcases w584 with ⟨k609, k610, k611, k612, k613, k614, k615, k616, rfl⟩ | w584
    · skip
      exact absurd trivial (by omega)
    rcases w584 with ⟨k617, k618, k619, k620, k621, k622, k623, k624, k625, rfl⟩ | w584
    · skip
      exact absurd trivial (by omega)
    rcases w584 with ⟨k626, k627, k628, k629, k630, k631, k632, k633, k634, k635, rfl⟩ | w584
    · skip
      exact absurd trivial (by omega)
    rcases w584 with ⟨k636, k637, k638, k639, k640, k641, k642, k643, k644, k645, k646, rfl⟩ | w584
    · skip
      exact absurd trivial (by omega)
    rcases w584 with ⟨k647, k648, k649, k650, k651, k652, k653, k654, k655, k656, k657, k658, rfl⟩ | w584
    · skip
      exact absurd trivial (by omega)
    rcases w584 with ⟨k659, k660, k661, k662, k663, k664, k665, k666, k667, k668, k669, k670, rfl⟩ | w584
    · skip
      exact absurd trivial (by omega)
    obtain ⟨k671, k672, k673, k674, rfl⟩ := w584
    exact absurd trivial (by omega)
  rcases w2 with ⟨k675, k676, k677, k678, k679, k680, k681, k682, rfl⟩ | w2
  · skip
    refine r_aload_n 434 1 C dL_law_434 rfl ?_
    refine r_aload_n 435 3 C dL_law_435 rfl ?_
    refine r_iload_n 436 0 C dL_law_436 rfl ?_
    refine r_iconst 437 1 C dL_law_437 (by decide) ?_
    refine r_iadd 438 1 C dL_law_438 (by decide) ?_
    refine r_sld 439 (xs 1) C hX hbl hbA dL_law_439 (vin (by decide)) rfl ?_
    refine r_aload_n 440 3 C dL_law_440 rfl ?_
    refine r_iload_n 441 0 C dL_law_441 rfl ?_
    refine r_iconst 442 2 C dL_law_442 (by decide) ?_
    refine r_iadd 443 2 C dL_law_443 (by decide) ?_
    refine r_sld 444 (xs 2) C hX hbl hbA dL_law_444 (vin (by decide)) rfl ?_
    refine r_callVi 445 C dL_law_445 [.int 3] [(pm, .inr (11, [.ref b0, .int 0, .ref b1, .int 0, .int 0, .int (-1), .ref b2, .ref b3, .ref b4, .ref b5, .int 0, .int 0, .int 0, .ref b6, .ref b7, .ref b8, .ref b9, .int 0, .int 0, .int 0, .long 0, .int 0, .int 0, .long 0, .long 0, .ref b10, .ref b11, .ref b12, .ref b13, .long 0, .int 0, .ref b14, .int 0, .int 0, .int 0, .int 0, .ref b15, .ref b16, .ref b17, .ref b18, .ref b19, .ref b20, .ref b21, .ref b22, .ref b23, .ref b24, .ref b25, .int 0, .int 0, .int 0, .int 0, .int 0, .int 0, .int 0, .long 0, .int 0, .ref b26, .ref b27, .long 0, .long 0, .int 0, .ref b28, .int 0, .ref b29, .ref b30, .ref b31, .ref b32, .int 0, .int 0, .int 0, .int 0, .ref b33, .ref b34, .int 0, .int 0, .ref b35])), (b1, .inl (gB g, 1510, .inl b36))] [] (fun sz => c170_X12_cipher l g pm (xs 1) (xs 2) b1 b0 b2 b3 b4 b5 b6 b7 b8 b9 b10 b11 b12 b13 b14 b15 b16 b17 b18 b19 b20 b21 b22 b23 b24 b25 b26 b27 b28 b29 b30 b31 b32 b33 b34 b35 b36 sz) gQ_X12_cipher rfl ⟨rfl, rfl⟩ 2 (by decide) ⟨Nat.le_of_ble_eq_true rfl, Nat.le_of_ble_eq_true rfl⟩ 0 rfl rfl [0, 1] [] rfl rfl (by decide) (by decide) (by decide) rfl rfl (Nat.le_of_ble_eq_true rfl) ⟨Nat.le_of_ble_eq_true rfl, Nat.le_of_ble_eq_true rfl⟩ (fun r683 _ w684 => ?_)
    refine r_ws [] rfl ?_
    rcases w684 with ⟨k685, rfl⟩ | w684
    · skip
      exact absurd trivial (by omega)
    rcases w684 with ⟨k686, k687, rfl⟩ | w684
    · skip
      exact absurd trivial (by omega)
    rcases w684 with ⟨k688, k689, k690, rfl⟩ | w684
    · skip
      exact absurd trivial (by omega)
    rcases w684 with ⟨k691, k692, k693, k694, k695, rfl⟩ | w684
    · skip
      exact absurd trivial (by omega)
    rcases w684 with ⟨k696, k697, k698, k699, k700, k701, rfl⟩ | w684
    · skip
      exact absurd trivial (by omega)
    rcases w684 with ⟨k702, k703, k704, k705, k706, k707, k708, rfl⟩ | w684
    · skip
      exact absurd trivial (by omega)
    rcases w684 with ⟨k709, k710, k711, k712, k713, k714, k715, k716, rfl⟩ | w684
    · skip
      refine r_icmp_eq_t 448 545 C dL_law_448 (by decide) (by decide) ?_
      refine r_iinc 545 0 6 C dL_law_545 rfl (by decide) [(3, .int 6), (2, .ref pm), (1, .ref px), (0, .ref b)] (by decide) rfl ?_
      refine r_goto 548 18 C dL_law_548 (by decide) ?_
      refine r_iload_n 18 0 C dL_law_18 rfl ?_
      refine r_aload_n 19 3 C dL_law_19 rfl ?_
      refine r_slen 20 6 C hX hbl hbA dL_law_20 (by decide) ?_
      refine r_bipush 21 6 C dL_law_21 (by decide) ?_
      refine r_isub 23 0 C dL_law_23 (by decide) ?_
      refine r_icmp_gt_t 24 551 C dL_law_24 (by decide) (by decide) ?_
      refine r_iconst 551 1 C dL_law_551 (by decide) ?_
      exact r_lawret hx hb hr hlocks 552 dL_law_552 (Nat.le_of_ble_eq_true rfl) (Nat.le_of_ble_eq_true rfl)
    rcases w684 with ⟨k717, k718, k719, k720, k721, k722, k723, k724, k725, rfl⟩ | w684
    · skip
      exact absurd trivial (by omega)
    rcases w684 with ⟨k726, k727, k728, k729, k730, k731, k732, k733, k734, k735, rfl⟩ | w684
    · skip
      exact absurd trivial (by omega)
    rcases w684 with ⟨k736, k737, k738, k739, k740, k741, k742, k743, k744, k745, k746, rfl⟩ | w684
    · skip
      exact absurd trivial (by omega)
    rcases w684 with ⟨k747, k748, k749, k750, k751, k752, k753, k754, k755, k756, k757, k758, rfl⟩ | w684
    · skip
      exact absurd trivial (by omega)
    rcases w684 with ⟨k759, k760, k761, k762, k763, k764, k765, k766, k767, k768, k769, k770, rfl⟩ | w684
    · skip
      exact absurd trivial (by omega)
    obtain ⟨k771, k772, k773, k774, rfl⟩ := w684
    exact absurd trivial (by omega)
  rcases w2 with ⟨k775, k776, k777, k778, k779, k780, k781, k782, k783, rfl⟩ | w2
  · skip
    refine r_aload_n 434 1 C dL_law_434 rfl ?_
    refine r_aload_n 435 3 C dL_law_435 rfl ?_
    refine r_iload_n 436 0 C dL_law_436 rfl ?_
    refine r_iconst 437 1 C dL_law_437 (by decide) ?_
    refine r_iadd 438 1 C dL_law_438 (by decide) ?_
    refine r_sld 439 (xs 1) C hX hbl hbA dL_law_439 (vin (by decide)) rfl ?_
    refine r_aload_n 440 3 C dL_law_440 rfl ?_
    refine r_iload_n 441 0 C dL_law_441 rfl ?_
    refine r_iconst 442 2 C dL_law_442 (by decide) ?_
    refine r_iadd 443 2 C dL_law_443 (by decide) ?_
    refine r_sld 444 (xs 2) C hX hbl hbA dL_law_444 (vin (by decide)) rfl ?_
    refine r_callVi 445 C dL_law_445 [.int 4] [(pm, .inr (11, [.ref b0, .int 0, .ref b1, .int 0, .int 0, .int (-1), .ref b2, .ref b3, .ref b4, .ref b5, .int 0, .int 0, .int 0, .ref b6, .ref b7, .ref b8, .ref b9, .int 0, .int 0, .int 0, .long 0, .int 0, .int 0, .long 0, .long 0, .ref b10, .ref b11, .ref b12, .ref b13, .long 0, .int 0, .ref b14, .int 0, .int 0, .int 0, .int 0, .ref b15, .ref b16, .ref b17, .ref b18, .ref b19, .ref b20, .ref b21, .ref b22, .ref b23, .ref b24, .ref b25, .int 0, .int 0, .int 0, .int 0, .int 0, .int 0, .int 0, .long 0, .int 0, .ref b26, .ref b27, .long 0, .long 0, .int 0, .ref b28, .int 0, .ref b29, .ref b30, .ref b31, .ref b32, .int 0, .int 0, .int 0, .int 0, .ref b33, .ref b34, .int 0, .int 0, .ref b35])), (b1, .inl (gB g, 1510, .inl b36))] [] (fun sz => c170_X12_cipher l g pm (xs 1) (xs 2) b1 b0 b2 b3 b4 b5 b6 b7 b8 b9 b10 b11 b12 b13 b14 b15 b16 b17 b18 b19 b20 b21 b22 b23 b24 b25 b26 b27 b28 b29 b30 b31 b32 b33 b34 b35 b36 sz) gQ_X12_cipher rfl ⟨rfl, rfl⟩ 2 (by decide) ⟨Nat.le_of_ble_eq_true rfl, Nat.le_of_ble_eq_true rfl⟩ 0 rfl rfl [0, 1] [] rfl rfl (by decide) (by decide) (by decide) rfl rfl (Nat.le_of_ble_eq_true rfl) ⟨Nat.le_of_ble_eq_true rfl, Nat.le_of_ble_eq_true rfl⟩ (fun r784 _ w785 => ?_)
    refine r_ws [] rfl ?_
    rcases w785 with ⟨k786, rfl⟩ | w785
    · skip
      exact absurd trivial (by omega)
    rcases w785 with ⟨k787, k788, rfl⟩ | w785
    · skip
      exact absurd trivial (by omega)
    rcases w785 with ⟨k789, k790, k791, rfl⟩ | w785
    · skip
      exact absurd trivial (by omega)
    rcases w785 with ⟨k792, k793, k794, k795, k796, rfl⟩ | w785
    · skip
      exact absurd trivial (by omega)
    rcases w785 with ⟨k797, k798, k799, k800, k801, k802, rfl⟩ | w785
    · skip
      exact absurd trivial (by omega)
    rcases w785 with ⟨k803, k804, k805, k806, k807, k808, k809, rfl⟩ | w785
    · skip
      exact absurd trivial (by omega)
    rcases w785 with ⟨k810, k811, k812, k813, k814, k815, k816, k817, rfl⟩ | w785
    · skip
      exact absurd trivial (by omega)
    rcases w785 with ⟨k818, k819, k820, k821, k822, k823, k824, k825, k826, rfl⟩ | w785
    · skip
      refine r_icmp_eq_t 448 545 C dL_law_448 (by decide) (by decide) ?_
      refine r_iinc 545 0 6 C dL_law_545 rfl (by decide) [(3, .int 6), (2, .ref pm), (1, .ref px), (0, .ref b)] (by decide) rfl ?_
      refine r_goto 548 18 C dL_law_548 (by decide) ?_
      refine r_iload_n 18 0 C dL_law_18 rfl ?_
      refine r_aload_n 19 3 C dL_law_19 rfl ?_
      refine r_slen 20 6 C hX hbl hbA dL_law_20 (by decide) ?_
      refine r_bipush 21 6 C dL_law_21 (by decide) ?_
      refine r_isub 23 0 C dL_law_23 (by decide) ?_
      refine r_icmp_gt_t 24 551 C dL_law_24 (by decide) (by decide) ?_
      refine r_iconst 551 1 C dL_law_551 (by decide) ?_
      exact r_lawret hx hb hr hlocks 552 dL_law_552 (Nat.le_of_ble_eq_true rfl) (Nat.le_of_ble_eq_true rfl)
    rcases w785 with ⟨k827, k828, k829, k830, k831, k832, k833, k834, k835, k836, rfl⟩ | w785
    · skip
      exact absurd trivial (by omega)
    rcases w785 with ⟨k837, k838, k839, k840, k841, k842, k843, k844, k845, k846, k847, rfl⟩ | w785
    · skip
      exact absurd trivial (by omega)
    rcases w785 with ⟨k848, k849, k850, k851, k852, k853, k854, k855, k856, k857, k858, k859, rfl⟩ | w785
    · skip
      exact absurd trivial (by omega)
    rcases w785 with ⟨k860, k861, k862, k863, k864, k865, k866, k867, k868, k869, k870, k871, rfl⟩ | w785
    · skip
      exact absurd trivial (by omega)
    obtain ⟨k872, k873, k874, k875, rfl⟩ := w785
    exact absurd trivial (by omega)
  rcases w2 with ⟨k876, k877, k878, k879, k880, k881, k882, k883, k884, k885, rfl⟩ | w2
  · skip
    refine r_aload_n 434 1 C dL_law_434 rfl ?_
    refine r_aload_n 435 3 C dL_law_435 rfl ?_
    refine r_iload_n 436 0 C dL_law_436 rfl ?_
    refine r_iconst 437 1 C dL_law_437 (by decide) ?_
    refine r_iadd 438 1 C dL_law_438 (by decide) ?_
    refine r_sld 439 (xs 1) C hX hbl hbA dL_law_439 (vin (by decide)) rfl ?_
    refine r_aload_n 440 3 C dL_law_440 rfl ?_
    refine r_iload_n 441 0 C dL_law_441 rfl ?_
    refine r_iconst 442 2 C dL_law_442 (by decide) ?_
    refine r_iadd 443 2 C dL_law_443 (by decide) ?_
    refine r_sld 444 (xs 2) C hX hbl hbA dL_law_444 (vin (by decide)) rfl ?_
    refine r_callVi 445 C dL_law_445 [.int 5] [(pm, .inr (11, [.ref b0, .int 0, .ref b1, .int 0, .int 0, .int (-1), .ref b2, .ref b3, .ref b4, .ref b5, .int 0, .int 0, .int 0, .ref b6, .ref b7, .ref b8, .ref b9, .int 0, .int 0, .int 0, .long 0, .int 0, .int 0, .long 0, .long 0, .ref b10, .ref b11, .ref b12, .ref b13, .long 0, .int 0, .ref b14, .int 0, .int 0, .int 0, .int 0, .ref b15, .ref b16, .ref b17, .ref b18, .ref b19, .ref b20, .ref b21, .ref b22, .ref b23, .ref b24, .ref b25, .int 0, .int 0, .int 0, .int 0, .int 0, .int 0, .int 0, .long 0, .int 0, .ref b26, .ref b27, .long 0, .long 0, .int 0, .ref b28, .int 0, .ref b29, .ref b30, .ref b31, .ref b32, .int 0, .int 0, .int 0, .int 0, .ref b33, .ref b34, .int 0, .int 0, .ref b35])), (b1, .inl (gB g, 1510, .inl b36))] [] (fun sz => c170_X12_cipher l g pm (xs 1) (xs 2) b1 b0 b2 b3 b4 b5 b6 b7 b8 b9 b10 b11 b12 b13 b14 b15 b16 b17 b18 b19 b20 b21 b22 b23 b24 b25 b26 b27 b28 b29 b30 b31 b32 b33 b34 b35 b36 sz) gQ_X12_cipher rfl ⟨rfl, rfl⟩ 2 (by decide) ⟨Nat.le_of_ble_eq_true rfl, Nat.le_of_ble_eq_true rfl⟩ 0 rfl rfl [0, 1] [] rfl rfl (by decide) (by decide) (by decide) rfl rfl (Nat.le_of_ble_eq_true rfl) ⟨Nat.le_of_ble_eq_true rfl, Nat.le_of_ble_eq_true rfl⟩ (fun r886 _ w887 => ?_)
    refine r_ws [] rfl ?_
    rcases w887 with ⟨k888, rfl⟩ | w887
    · skip
      exact absurd trivial (by omega)
    rcases w887 with ⟨k889, k890, rfl⟩ | w887
    · skip
      exact absurd trivial (by omega)
    rcases w887 with ⟨k891, k892, k893, rfl⟩ | w887
    · skip
      exact absurd trivial (by omega)
    rcases w887 with ⟨k894, k895, k896, k897, k898, rfl⟩ | w887
    · skip
      exact absurd trivial (by omega)
    rcases w887 with ⟨k899, k900, k901, k902, k903, k904, rfl⟩ | w887
    · skip
      exact absurd trivial (by omega)
    rcases w887 with ⟨k905, k906, k907, k908, k909, k910, k911, rfl⟩ | w887
    · skip
      exact absurd trivial (by omega)
    rcases w887 with ⟨k912, k913, k914, k915, k916, k917, k918, k919, rfl⟩ | w887
    · skip
      exact absurd trivial (by omega)
    rcases w887 with ⟨k920, k921, k922, k923, k924, k925, k926, k927, k928, rfl⟩ | w887
    · skip
      exact absurd trivial (by omega)
    rcases w887 with ⟨k929, k930, k931, k932, k933, k934, k935, k936, k937, k938, rfl⟩ | w887
    · skip
      refine r_icmp_eq_t 448 545 C dL_law_448 (by decide) (by decide) ?_
      refine r_iinc 545 0 6 C dL_law_545 rfl (by decide) [(3, .int 6), (2, .ref pm), (1, .ref px), (0, .ref b)] (by decide) rfl ?_
      refine r_goto 548 18 C dL_law_548 (by decide) ?_
      refine r_iload_n 18 0 C dL_law_18 rfl ?_
      refine r_aload_n 19 3 C dL_law_19 rfl ?_
      refine r_slen 20 6 C hX hbl hbA dL_law_20 (by decide) ?_
      refine r_bipush 21 6 C dL_law_21 (by decide) ?_
      refine r_isub 23 0 C dL_law_23 (by decide) ?_
      refine r_icmp_gt_t 24 551 C dL_law_24 (by decide) (by decide) ?_
      refine r_iconst 551 1 C dL_law_551 (by decide) ?_
      exact r_lawret hx hb hr hlocks 552 dL_law_552 (Nat.le_of_ble_eq_true rfl) (Nat.le_of_ble_eq_true rfl)
    rcases w887 with ⟨k939, k940, k941, k942, k943, k944, k945, k946, k947, k948, k949, rfl⟩ | w887
    · skip
      exact absurd trivial (by omega)
    rcases w887 with ⟨k950, k951, k952, k953, k954, k955, k956, k957, k958, k959, k960, k961, rfl⟩ | w887
    · skip
      exact absurd trivial (by omega)
    rcases w887 with ⟨k962, k963, k964, k965, k966, k967, k968, k969, k970, k971, k972, k973, rfl⟩ | w887
    · skip
      exact absurd trivial (by omega)
    obtain ⟨k974, k975, k976, k977, rfl⟩ := w887
    exact absurd trivial (by omega)
  rcases w2 with ⟨k978, k979, k980, k981, k982, k983, k984, k985, k986, k987, k988, rfl⟩ | w2
  · skip
    refine r_aload_n 434 1 C dL_law_434 rfl ?_
    refine r_aload_n 435 3 C dL_law_435 rfl ?_
    refine r_iload_n 436 0 C dL_law_436 rfl ?_
    refine r_iconst 437 1 C dL_law_437 (by decide) ?_
    refine r_iadd 438 1 C dL_law_438 (by decide) ?_
    refine r_sld 439 (xs 1) C hX hbl hbA dL_law_439 (vin (by decide)) rfl ?_
    refine r_aload_n 440 3 C dL_law_440 rfl ?_
    refine r_iload_n 441 0 C dL_law_441 rfl ?_
    refine r_iconst 442 2 C dL_law_442 (by decide) ?_
    refine r_iadd 443 2 C dL_law_443 (by decide) ?_
    refine r_sld 444 (xs 2) C hX hbl hbA dL_law_444 (vin (by decide)) rfl ?_
    refine r_callVi 445 C dL_law_445 [.int 6] [(pm, .inr (11, [.ref b0, .int 0, .ref b1, .int 0, .int 0, .int (-1), .ref b2, .ref b3, .ref b4, .ref b5, .int 0, .int 0, .int 0, .ref b6, .ref b7, .ref b8, .ref b9, .int 0, .int 0, .int 0, .long 0, .int 0, .int 0, .long 0, .long 0, .ref b10, .ref b11, .ref b12, .ref b13, .long 0, .int 0, .ref b14, .int 0, .int 0, .int 0, .int 0, .ref b15, .ref b16, .ref b17, .ref b18, .ref b19, .ref b20, .ref b21, .ref b22, .ref b23, .ref b24, .ref b25, .int 0, .int 0, .int 0, .int 0, .int 0, .int 0, .int 0, .long 0, .int 0, .ref b26, .ref b27, .long 0, .long 0, .int 0, .ref b28, .int 0, .ref b29, .ref b30, .ref b31, .ref b32, .int 0, .int 0, .int 0, .int 0, .ref b33, .ref b34, .int 0, .int 0, .ref b35])), (b1, .inl (gB g, 1510, .inl b36))] [] (fun sz => c170_X12_cipher l g pm (xs 1) (xs 2) b1 b0 b2 b3 b4 b5 b6 b7 b8 b9 b10 b11 b12 b13 b14 b15 b16 b17 b18 b19 b20 b21 b22 b23 b24 b25 b26 b27 b28 b29 b30 b31 b32 b33 b34 b35 b36 sz) gQ_X12_cipher rfl ⟨rfl, rfl⟩ 2 (by decide) ⟨Nat.le_of_ble_eq_true rfl, Nat.le_of_ble_eq_true rfl⟩ 0 rfl rfl [0, 1] [] rfl rfl (by decide) (by decide) (by decide) rfl rfl (Nat.le_of_ble_eq_true rfl) ⟨Nat.le_of_ble_eq_true rfl, Nat.le_of_ble_eq_true rfl⟩ (fun r989 _ w990 => ?_)
    refine r_ws [] rfl ?_
    rcases w990 with ⟨k991, rfl⟩ | w990
    · skip
      exact absurd trivial (by omega)
    rcases w990 with ⟨k992, k993, rfl⟩ | w990
    · skip
      exact absurd trivial (by omega)
    rcases w990 with ⟨k994, k995, k996, rfl⟩ | w990
    · skip
      exact absurd trivial (by omega)
    rcases w990 with ⟨k997, k998, k999, k1000, k1001, rfl⟩ | w990
    · skip
      exact absurd trivial (by omega)
    rcases w990 with ⟨k1002, k1003, k1004, k1005, k1006, k1007, rfl⟩ | w990
    · skip
      exact absurd trivial (by omega)
    rcases w990 with ⟨k1008, k1009, k1010, k1011, k1012, k1013, k1014, rfl⟩ | w990
    · skip
      exact absurd trivial (by omega)
    rcases w990 with ⟨k1015, k1016, k1017, k1018, k1019, k1020, k1021, k1022, rfl⟩ | w990
    · skip
      exact absurd trivial (by omega)
    rcases w990 with ⟨k1023, k1024, k1025, k1026, k1027, k1028, k1029, k1030, k1031, rfl⟩ | w990
    · skip
      exact absurd trivial (by omega)
    rcases w990 with ⟨k1032, k1033, k1034, k1035, k1036, k1037, k1038, k1039, k1040, k1041, rfl⟩ | w990
    · skip
      exact absurd trivial (by omega)
    rcases w990 with ⟨k1042, k1043, k1044, k1045, k1046, k1047, k1048, k1049, k1050, k1051, k1052, rfl⟩ | w990
    · skip
      refine r_icmp_eq_t 448 545 C dL_law_448 (by decide) (by decide) ?_
      refine r_iinc 545 0 6 C dL_law_545 rfl (by decide) [(3, .int 6), (2, .ref pm), (1, .ref px), (0, .ref b)] (by decide) rfl ?_
      refine r_goto 548 18 C dL_law_548 (by decide) ?_
      refine r_iload_n 18 0 C dL_law_18 rfl ?_
      refine r_aload_n 19 3 C dL_law_19 rfl ?_
      refine r_slen 20 6 C hX hbl hbA dL_law_20 (by decide) ?_
      refine r_bipush 21 6 C dL_law_21 (by decide) ?_
      refine r_isub 23 0 C dL_law_23 (by decide) ?_
      refine r_icmp_gt_t 24 551 C dL_law_24 (by decide) (by decide) ?_
      refine r_iconst 551 1 C dL_law_551 (by decide) ?_
      exact r_lawret hx hb hr hlocks 552 dL_law_552 (Nat.le_of_ble_eq_true rfl) (Nat.le_of_ble_eq_true rfl)
    rcases w990 with ⟨k1053, k1054, k1055, k1056, k1057, k1058, k1059, k1060, k1061, k1062, k1063, k1064, rfl⟩ | w990
    · skip
      exact absurd trivial (by omega)
    rcases w990 with ⟨k1065, k1066, k1067, k1068, k1069, k1070, k1071, k1072, k1073, k1074, k1075, k1076, rfl⟩ | w990
    · skip
      exact absurd trivial (by omega)
    obtain ⟨k1077, k1078, k1079, k1080, rfl⟩ := w990
    exact absurd trivial (by omega)
  rcases w2 with ⟨k1081, k1082, k1083, k1084, k1085, k1086, k1087, k1088, k1089, k1090, k1091, k1092, rfl⟩ | w2
  · skip
    refine r_aload_n 434 1 C dL_law_434 rfl ?_
    refine r_aload_n 435 3 C dL_law_435 rfl ?_
    refine r_iload_n 436 0 C dL_law_436 rfl ?_
    refine r_iconst 437 1 C dL_law_437 (by decide) ?_
    refine r_iadd 438 1 C dL_law_438 (by decide) ?_
    refine r_sld 439 (xs 1) C hX hbl hbA dL_law_439 (vin (by decide)) rfl ?_
    refine r_aload_n 440 3 C dL_law_440 rfl ?_
    refine r_iload_n 441 0 C dL_law_441 rfl ?_
    refine r_iconst 442 2 C dL_law_442 (by decide) ?_
    refine r_iadd 443 2 C dL_law_443 (by decide) ?_
    refine r_sld 444 (xs 2) C hX hbl hbA dL_law_444 (vin (by decide)) rfl ?_
    refine r_callVi 445 C dL_law_445 [.int 7] [(pm, .inr (11, [.ref b0, .int 0, .ref b1, .int 0, .int 0, .int (-1), .ref b2, .ref b3, .ref b4, .ref b5, .int 0, .int 0, .int 0, .ref b6, .ref b7, .ref b8, .ref b9, .int 0, .int 0, .int 0, .long 0, .int 0, .int 0, .long 0, .long 0, .ref b10, .ref b11, .ref b12, .ref b13, .long 0, .int 0, .ref b14, .int 0, .int 0, .int 0, .int 0, .ref b15, .ref b16, .ref b17, .ref b18, .ref b19, .ref b20, .ref b21, .ref b22, .ref b23, .ref b24, .ref b25, .int 0, .int 0, .int 0, .int 0, .int 0, .int 0, .int 0, .long 0, .int 0, .ref b26, .ref b27, .long 0, .long 0, .int 0, .ref b28, .int 0, .ref b29, .ref b30, .ref b31, .ref b32, .int 0, .int 0, .int 0, .int 0, .ref b33, .ref b34, .int 0, .int 0, .ref b35])), (b1, .inl (gB g, 1510, .inl b36))] [] (fun sz => c170_X12_cipher l g pm (xs 1) (xs 2) b1 b0 b2 b3 b4 b5 b6 b7 b8 b9 b10 b11 b12 b13 b14 b15 b16 b17 b18 b19 b20 b21 b22 b23 b24 b25 b26 b27 b28 b29 b30 b31 b32 b33 b34 b35 b36 sz) gQ_X12_cipher rfl ⟨rfl, rfl⟩ 2 (by decide) ⟨Nat.le_of_ble_eq_true rfl, Nat.le_of_ble_eq_true rfl⟩ 0 rfl rfl [0, 1] [] rfl rfl (by decide) (by decide) (by decide) rfl rfl (Nat.le_of_ble_eq_true rfl) ⟨Nat.le_of_ble_eq_true rfl, Nat.le_of_ble_eq_true rfl⟩ (fun r1093 _ w1094 => ?_)
    refine r_ws [] rfl ?_
    rcases w1094 with ⟨k1095, rfl⟩ | w1094
    · skip
      exact absurd trivial (by omega)
    rcases w1094 with ⟨k1096, k1097, rfl⟩ | w1094
    · skip
      exact absurd trivial (by omega)
    rcases w1094 with ⟨k1098, k1099, k1100, rfl⟩ | w1094
    · skip
      exact absurd trivial (by omega)
    rcases w1094 with ⟨k1101, k1102, k1103, k1104, k1105, rfl⟩ | w1094
    · skip
      exact absurd trivial (by omega)
    rcases w1094 with ⟨k1106, k1107, k1108, k1109, k1110, k1111, rfl⟩ | w1094
    · skip
      exact absurd trivial (by omega)
    rcases w1094 with ⟨k1112, k1113, k1114, k1115, k1116, k1117, k1118, rfl⟩ | w1094
    · skip
      exact absurd trivial (by omega)
    rcases w1094 with ⟨k1119, k1120, k1121, k1122, k1123, k1124, k1125, k1126, rfl⟩ | w1094
    · skip
      exact absurd trivial (by omega)
    rcases w1094 with ⟨k1127, k1128, k1129, k1130, k1131, k1132, k1133, k1134, k1135, rfl⟩ | w1094
    · skip
      exact absurd trivial (by omega)
    rcases w1094 with ⟨k1136, k1137, k1138, k1139, k1140, k1141, k1142, k1143, k1144, k1145, rfl⟩ | w1094
    · skip
      exact absurd trivial (by omega)
    rcases w1094 with ⟨k1146, k1147, k1148, k1149, k1150, k1151, k1152, k1153, k1154, k1155, k1156, rfl⟩ | w1094
    · skip
      exact absurd trivial (by omega)
    rcases w1094 with ⟨k1157, k1158, k1159, k1160, k1161, k1162, k1163, k1164, k1165, k1166, k1167, k1168, rfl⟩ | w1094
    · skip
      refine r_icmp_eq_t 448 545 C dL_law_448 (by decide) (by decide) ?_
      refine r_iinc 545 0 6 C dL_law_545 rfl (by decide) [(3, .int 6), (2, .ref pm), (1, .ref px), (0, .ref b)] (by decide) rfl ?_
      refine r_goto 548 18 C dL_law_548 (by decide) ?_
      refine r_iload_n 18 0 C dL_law_18 rfl ?_
      refine r_aload_n 19 3 C dL_law_19 rfl ?_
      refine r_slen 20 6 C hX hbl hbA dL_law_20 (by decide) ?_
      refine r_bipush 21 6 C dL_law_21 (by decide) ?_
      refine r_isub 23 0 C dL_law_23 (by decide) ?_
      refine r_icmp_gt_t 24 551 C dL_law_24 (by decide) (by decide) ?_
      refine r_iconst 551 1 C dL_law_551 (by decide) ?_
      exact r_lawret hx hb hr hlocks 552 dL_law_552 (Nat.le_of_ble_eq_true rfl) (Nat.le_of_ble_eq_true rfl)
    rcases w1094 with ⟨k1169, k1170, k1171, k1172, k1173, k1174, k1175, k1176, k1177, k1178, k1179, k1180, rfl⟩ | w1094
    · skip
      exact absurd trivial (by omega)
    obtain ⟨k1181, k1182, k1183, k1184, rfl⟩ := w1094
    exact absurd trivial (by omega)
  obtain ⟨k1185, k1186, k1187, k1188, k1189, k1190, k1191, k1192, k1193, k1194, k1195, k1196, rfl⟩ := w2
  refine r_aload_n 434 1 C dL_law_434 rfl ?_
  refine r_aload_n 435 3 C dL_law_435 rfl ?_
  refine r_iload_n 436 0 C dL_law_436 rfl ?_
  refine r_iconst 437 1 C dL_law_437 (by decide) ?_
  refine r_iadd 438 1 C dL_law_438 (by decide) ?_
  refine r_sld 439 (xs 1) C hX hbl hbA dL_law_439 (vin (by decide)) rfl ?_
  refine r_aload_n 440 3 C dL_law_440 rfl ?_
  refine r_iload_n 441 0 C dL_law_441 rfl ?_
  refine r_iconst 442 2 C dL_law_442 (by decide) ?_
  refine r_iadd 443 2 C dL_law_443 (by decide) ?_
  refine r_sld 444 (xs 2) C hX hbl hbA dL_law_444 (vin (by decide)) rfl ?_
  refine r_callVi 445 C dL_law_445 [.int 8] [(pm, .inr (11, [.ref b0, .int 0, .ref b1, .int 0, .int 0, .int (-1), .ref b2, .ref b3, .ref b4, .ref b5, .int 0, .int 0, .int 0, .ref b6, .ref b7, .ref b8, .ref b9, .int 0, .int 0, .int 0, .long 0, .int 0, .int 0, .long 0, .long 0, .ref b10, .ref b11, .ref b12, .ref b13, .long 0, .int 0, .ref b14, .int 0, .int 0, .int 0, .int 0, .ref b15, .ref b16, .ref b17, .ref b18, .ref b19, .ref b20, .ref b21, .ref b22, .ref b23, .ref b24, .ref b25, .int 0, .int 0, .int 0, .int 0, .int 0, .int 0, .int 0, .long 0, .int 0, .ref b26, .ref b27, .long 0, .long 0, .int 0, .ref b28, .int 0, .ref b29, .ref b30, .ref b31, .ref b32, .int 0, .int 0, .int 0, .int 0, .ref b33, .ref b34, .int 0, .int 0, .ref b35])), (b1, .inl (gB g, 1510, .inl b36))] [] (fun sz => c170_X12_cipher l g pm (xs 1) (xs 2) b1 b0 b2 b3 b4 b5 b6 b7 b8 b9 b10 b11 b12 b13 b14 b15 b16 b17 b18 b19 b20 b21 b22 b23 b24 b25 b26 b27 b28 b29 b30 b31 b32 b33 b34 b35 b36 sz) gQ_X12_cipher rfl ⟨rfl, rfl⟩ 2 (by decide) ⟨Nat.le_of_ble_eq_true rfl, Nat.le_of_ble_eq_true rfl⟩ 0 rfl rfl [0, 1] [] rfl rfl (by decide) (by decide) (by decide) rfl rfl (Nat.le_of_ble_eq_true rfl) ⟨Nat.le_of_ble_eq_true rfl, Nat.le_of_ble_eq_true rfl⟩ (fun r1197 _ w1198 => ?_)
  refine r_ws [] rfl ?_
  rcases w1198 with ⟨k1199, rfl⟩ | w1198
  · skip
    exact absurd trivial (by omega)
  rcases w1198 with ⟨k1200, k1201, rfl⟩ | w1198
  · skip
    exact absurd trivial (by omega)
  rcases w1198 with ⟨k1202, k1203, k1204, rfl⟩ | w1198
  · skip
    exact absurd trivial (by omega)
  rcases w1198 with ⟨k1205, k1206, k1207, k1208, k1209, rfl⟩ | w1198
  · skip
    exact absurd trivial (by omega)
  rcases w1198 with ⟨k1210, k1211, k1212, k1213, k1214, k1215, rfl⟩ | w1198
  · skip
    exact absurd trivial (by omega)
  rcases w1198 with ⟨k1216, k1217, k1218, k1219, k1220, k1221, k1222, rfl⟩ | w1198
  · skip
    exact absurd trivial (by omega)
  rcases w1198 with ⟨k1223, k1224, k1225, k1226, k1227, k1228, k1229, k1230, rfl⟩ | w1198
  · skip
    exact absurd trivial (by omega)
  rcases w1198 with ⟨k1231, k1232, k1233, k1234, k1235, k1236, k1237, k1238, k1239, rfl⟩ | w1198
  · skip
    exact absurd trivial (by omega)
  rcases w1198 with ⟨k1240, k1241, k1242, k1243, k1244, k1245, k1246, k1247, k1248, k1249, rfl⟩ | w1198
  · skip
    exact absurd trivial (by omega)
  rcases w1198 with ⟨k1250, k1251, k1252, k1253, k1254, k1255, k1256, k1257, k1258, k1259, k1260, rfl⟩ | w1198
  · skip
    exact absurd trivial (by omega)
  rcases w1198 with ⟨k1261, k1262, k1263, k1264, k1265, k1266, k1267, k1268, k1269, k1270, k1271, k1272, rfl⟩ | w1198
  · skip
    exact absurd trivial (by omega)
  rcases w1198 with ⟨k1273, k1274, k1275, k1276, k1277, k1278, k1279, k1280, k1281, k1282, k1283, k1284, rfl⟩ | w1198
  · skip
    refine r_icmp_eq_t 448 545 C dL_law_448 (by decide) (by decide) ?_
    refine r_iinc 545 0 6 C dL_law_545 rfl (by decide) [(3, .int 6), (2, .ref pm), (1, .ref px), (0, .ref b)] (by decide) rfl ?_
    refine r_goto 548 18 C dL_law_548 (by decide) ?_
    refine r_iload_n 18 0 C dL_law_18 rfl ?_
    refine r_aload_n 19 3 C dL_law_19 rfl ?_
    refine r_slen 20 6 C hX hbl hbA dL_law_20 (by decide) ?_
    refine r_bipush 21 6 C dL_law_21 (by decide) ?_
    refine r_isub 23 0 C dL_law_23 (by decide) ?_
    refine r_icmp_gt_t 24 551 C dL_law_24 (by decide) (by decide) ?_
    refine r_iconst 551 1 C dL_law_551 (by decide) ?_
    exact r_lawret hx hb hr hlocks 552 dL_law_552 (Nat.le_of_ble_eq_true rfl) (Nat.le_of_ble_eq_true rfl)
  obtain ⟨k1285, k1286, k1287, k1288, rfl⟩ := w1198
  exact absurd trivial (by omega)
set_option maxHeartbeats 4000000 in
set_option maxRecDepth 100000 in
theorem lc_plain {p : Program} {e : Env} {s : State} {m : MethodId} {below : List Frame} {meth : Method} {c : Code} (l : Launch) {b : Nat} {xs : Nat → Int32} (C0 : lw_At p s m meth c b 6 xs) {g : GD} (C : Cx g p s m #[Value.ref b] meth c (fun q => s.heap.size ≤ q) RL cL_law 4 wsQ) (px : Nat) (pm : Nat) (a0 : Nat) (a1 : Nat) (a2 : Nat) (a3 : Nat) (a4 : Nat) (a5 : Nat) (a6 : Nat) (a7 : Nat) (a8 : Nat) (a9 : Nat) (a11 : Nat) (b0 : Nat) (b1 : Nat) (b2 : Nat) (b3 : Nat) (b4 : Nat) (b5 : Nat) (b6 : Nat) (b7 : Nat) (b8 : Nat) (b9 : Nat) (b10 : Nat) (b11 : Nat) (b12 : Nat) (b13 : Nat) (b14 : Nat) (b15 : Nat) (b16 : Nat) (b17 : Nat) (b18 : Nat) (b19 : Nat) (b20 : Nat) (b21 : Nat) (b22 : Nat) (b23 : Nat) (b24 : Nat) (b25 : Nat) (b26 : Nat) (b27 : Nat) (b28 : Nat) (b29 : Nat) (b30 : Nat) (b31 : Nat) (b32 : Nat) (b33 : Nat) (b34 : Nat) (b35 : Nat) : WW p l e room_1 s m #[Value.ref b] below meth c (fun q => s.heap.size ≤ q) (lw_Z below #[Value.ref b] s) g 4 90 50196 [(px, .inr (10, [.ref a0, .ref a1, .ref a2, .ref a3, .ref a4, .ref a5, .ref a6, .ref a7, .ref a8, .null])), (a0, .inr (4, [.ref a9, .int 0])), (a1, .inr (4, [.ref a11, .int 0])), (pm, .inr (11, [.ref b0, .int 0, .ref b1, .int 0, .int 0, .int (-1), .ref b2, .ref b3, .ref b4, .ref b5, .int 0, .int 0, .int 0, .ref b6, .ref b7, .ref b8, .ref b9, .int 0, .int 0, .int 0, .long 0, .int 0, .int 0, .long 0, .long 0, .ref b10, .ref b11, .ref b12, .ref b13, .long 0, .int 0, .ref b14, .int 0, .int 0, .int 0, .int 0, .ref b15, .ref b16, .ref b17, .ref b18, .ref b19, .ref b20, .ref b21, .ref b22, .ref b23, .ref b24, .ref b25, .int 0, .int 0, .int 0, .int 0, .int 0, .int 0, .int 0, .long 0, .int 0, .ref b26, .ref b27, .long 0, .long 0, .int 0, .ref b28, .int 0, .ref b29, .ref b30, .ref b31, .ref b32, .int 0, .int 0, .int 0, .int 0, .ref b33, .ref b34, .int 0, .int 0, .ref b35]))] 453 [(3, .int 0), (2, .ref pm), (1, .ref px), (0, .ref b)] [] := by
  obtain ⟨hx, hb, hr, hml, hown, hts0, hX, hbl, hlocks, hgv⟩ := id C0
  have hbA : ¬ (fun q : Nat => s.heap.size ≤ q) b := Nat.not_le.mpr hbl
  refine r_aload_n 453 2 C dL_law_453 rfl ?_
  refine r_aload_n 454 3 C dL_law_454 rfl ?_
  refine r_iload_n 455 0 C dL_law_455 rfl ?_
  refine r_iconst 456 1 C dL_law_456 (by decide) ?_
  refine r_iadd 457 1 C dL_law_457 (by decide) ?_
  refine r_sld 458 (xs 1) C hX hbl hbA dL_law_458 (vin (by decide)) rfl ?_
  refine r_aload_n 459 3 C dL_law_459 rfl ?_
  refine r_iload_n 460 0 C dL_law_460 rfl ?_
  refine r_iconst 461 2 C dL_law_461 (by decide) ?_
  refine r_iadd 462 2 C dL_law_462 (by decide) ?_
  refine r_sld 463 (xs 2) C hX hbl hbA dL_law_463 (vin (by decide)) rfl ?_
  refine r_callVi 464 C dL_law_464 [] [(px, .inr (10, [.ref a0, .ref a1, .ref a2, .ref a3, .ref a4, .ref a5, .ref a6, .ref a7, .ref a8, .null])), (a0, .inr (4, [.ref a9, .int 0])), (a1, .inr (4, [.ref a11, .int 0]))] [(pm, .inr (11, [.ref b0, .int 0, .ref b1, .int 0, .int 0, .int (-1), .ref b2, .ref b3, .ref b4, .ref b5, .int 0, .int 0, .int 0, .ref b6, .ref b7, .ref b8, .ref b9, .int 0, .int 0, .int 0, .long 0, .int 0, .int 0, .long 0, .long 0, .ref b10, .ref b11, .ref b12, .ref b13, .long 0, .int 0, .ref b14, .int 0, .int 0, .int 0, .int 0, .ref b15, .ref b16, .ref b17, .ref b18, .ref b19, .ref b20, .ref b21, .ref b22, .ref b23, .ref b24, .ref b25, .int 0, .int 0, .int 0, .int 0, .int 0, .int 0, .int 0, .long 0, .int 0, .ref b26, .ref b27, .long 0, .long 0, .int 0, .ref b28, .int 0, .ref b29, .ref b30, .ref b31, .ref b32, .int 0, .int 0, .int 0, .int 0, .ref b33, .ref b34, .int 0, .int 0, .ref b35]))] (fun sz => c173_X11_plain l g px (xs 1) (xs 2) a0 a1 a2 a3 a4 a5 a6 a7 a8 a9 a11 sz) gQ_X11_plain rfl ⟨rfl, rfl⟩ 2 (by decide) ⟨Nat.le_of_ble_eq_true rfl, Nat.le_of_ble_eq_true rfl⟩ 0 rfl rfl [0, 1, 2] [3] rfl rfl (by decide) (by decide) (by decide) rfl rfl (Nat.le_of_ble_eq_true rfl) ⟨Nat.le_of_ble_eq_true rfl, Nat.le_of_ble_eq_true rfl⟩ (fun r1 _ w2 => ?_)
  refine r_ws [(pm, .inr (11, [.ref b0, .int 0, .ref b1, .int 0, .int 0, .int (-1), .ref b2, .ref b3, .ref b4, .ref b5, .int 0, .int 0, .int 0, .ref b6, .ref b7, .ref b8, .ref b9, .int 0, .int 0, .int 0, .long 0, .int 0, .int 0, .long 0, .long 0, .ref b10, .ref b11, .ref b12, .ref b13, .long 0, .int 0, .ref b14, .int 0, .int 0, .int 0, .int 0, .ref b15, .ref b16, .ref b17, .ref b18, .ref b19, .ref b20, .ref b21, .ref b22, .ref b23, .ref b24, .ref b25, .int 0, .int 0, .int 0, .int 0, .int 0, .int 0, .int 0, .long 0, .int 0, .ref b26, .ref b27, .long 0, .long 0, .int 0, .ref b28, .int 0, .ref b29, .ref b30, .ref b31, .ref b32, .int 0, .int 0, .int 0, .int 0, .ref b33, .ref b34, .int 0, .int 0, .ref b35]))] rfl ?_
  rcases w2 with ⟨k3, rfl⟩ | w2
  · skip
    refine r_aload_n 467 1 C dL_law_467 rfl ?_
    refine r_aload_n 468 3 C dL_law_468 rfl ?_
    refine r_iload_n 469 0 C dL_law_469 rfl ?_
    refine r_iconst 470 1 C dL_law_470 (by decide) ?_
    refine r_iadd 471 1 C dL_law_471 (by decide) ?_
    refine r_sld 472 (xs 1) C hX hbl hbA dL_law_472 (vin (by decide)) rfl ?_
    refine r_aload_n 473 3 C dL_law_473 rfl ?_
    refine r_iload_n 474 0 C dL_law_474 rfl ?_
    refine r_iconst 475 2 C dL_law_475 (by decide) ?_
    refine r_iadd 476 2 C dL_law_476 (by decide) ?_
    refine r_sld 477 (xs 2) C hX hbl hbA dL_law_477 (vin (by decide)) rfl ?_
    refine r_callVi 478 C dL_law_478 [.int (-1)] [(pm, .inr (11, [.ref b0, .int 0, .ref b1, .int 0, .int 0, .int (-1), .ref b2, .ref b3, .ref b4, .ref b5, .int 0, .int 0, .int 0, .ref b6, .ref b7, .ref b8, .ref b9, .int 0, .int 0, .int 0, .long 0, .int 0, .int 0, .long 0, .long 0, .ref b10, .ref b11, .ref b12, .ref b13, .long 0, .int 0, .ref b14, .int 0, .int 0, .int 0, .int 0, .ref b15, .ref b16, .ref b17, .ref b18, .ref b19, .ref b20, .ref b21, .ref b22, .ref b23, .ref b24, .ref b25, .int 0, .int 0, .int 0, .int 0, .int 0, .int 0, .int 0, .long 0, .int 0, .ref b26, .ref b27, .long 0, .long 0, .int 0, .ref b28, .int 0, .ref b29, .ref b30, .ref b31, .ref b32, .int 0, .int 0, .int 0, .int 0, .ref b33, .ref b34, .int 0, .int 0, .ref b35]))] [] (fun sz => c174_X12_plain l g pm (xs 1) (xs 2) b0 b1 b2 b3 b4 b5 b6 b7 b8 b9 b10 b11 b12 b13 b14 b15 b16 b17 b18 b19 b20 b21 b22 b23 b24 b25 b26 b27 b28 b29 b30 b31 b32 b33 b34 b35 sz) gQ_X12_plain rfl ⟨rfl, rfl⟩ 2 (by decide) ⟨Nat.le_of_ble_eq_true rfl, Nat.le_of_ble_eq_true rfl⟩ 0 rfl rfl [0] [] rfl rfl (by decide) (by decide) (by decide) rfl rfl (Nat.le_of_ble_eq_true rfl) ⟨Nat.le_of_ble_eq_true rfl, Nat.le_of_ble_eq_true rfl⟩ (fun r4 _ w5 => ?_)
    refine r_ws [] rfl ?_
    rcases w5 with ⟨k6, rfl⟩ | w5
    · skip
      refine r_icmp_eq_t 481 545 C dL_law_481 (by decide) (by decide) ?_
      refine r_iinc 545 0 6 C dL_law_545 rfl (by decide) [(3, .int 6), (2, .ref pm), (1, .ref px), (0, .ref b)] (by decide) rfl ?_
      refine r_goto 548 18 C dL_law_548 (by decide) ?_
      refine r_iload_n 18 0 C dL_law_18 rfl ?_
      refine r_aload_n 19 3 C dL_law_19 rfl ?_
      refine r_slen 20 6 C hX hbl hbA dL_law_20 (by decide) ?_
      refine r_bipush 21 6 C dL_law_21 (by decide) ?_
      refine r_isub 23 0 C dL_law_23 (by decide) ?_
      refine r_icmp_gt_t 24 551 C dL_law_24 (by decide) (by decide) ?_
      refine r_iconst 551 1 C dL_law_551 (by decide) ?_
      exact r_lawret hx hb hr hlocks 552 dL_law_552 (Nat.le_of_ble_eq_true rfl) (Nat.le_of_ble_eq_true rfl)
    rcases w5 with ⟨k7, k8, rfl⟩ | w5
    · skip
      exact absurd trivial (by omega)
    rcases w5 with ⟨k9, k10, k11, rfl⟩ | w5
    · skip
      exact absurd trivial (by omega)
    rcases w5 with ⟨k12, k13, k14, k15, rfl⟩ | w5
    · skip
      exact absurd trivial (by omega)
    obtain ⟨k16, k17, k18, k19, rfl⟩ := w5
    exact absurd trivial (by omega)
  rcases w2 with ⟨k20, k21, rfl⟩ | w2
  · skip
    refine r_aload_n 467 1 C dL_law_467 rfl ?_
    refine r_aload_n 468 3 C dL_law_468 rfl ?_
    refine r_iload_n 469 0 C dL_law_469 rfl ?_
    refine r_iconst 470 1 C dL_law_470 (by decide) ?_
    refine r_iadd 471 1 C dL_law_471 (by decide) ?_
    refine r_sld 472 (xs 1) C hX hbl hbA dL_law_472 (vin (by decide)) rfl ?_
    refine r_aload_n 473 3 C dL_law_473 rfl ?_
    refine r_iload_n 474 0 C dL_law_474 rfl ?_
    refine r_iconst 475 2 C dL_law_475 (by decide) ?_
    refine r_iadd 476 2 C dL_law_476 (by decide) ?_
    refine r_sld 477 (xs 2) C hX hbl hbA dL_law_477 (vin (by decide)) rfl ?_
    refine r_callVi 478 C dL_law_478 [.int (-1)] [(pm, .inr (11, [.ref b0, .int 0, .ref b1, .int 0, .int 0, .int (-1), .ref b2, .ref b3, .ref b4, .ref b5, .int 0, .int 0, .int 0, .ref b6, .ref b7, .ref b8, .ref b9, .int 0, .int 0, .int 0, .long 0, .int 0, .int 0, .long 0, .long 0, .ref b10, .ref b11, .ref b12, .ref b13, .long 0, .int 0, .ref b14, .int 0, .int 0, .int 0, .int 0, .ref b15, .ref b16, .ref b17, .ref b18, .ref b19, .ref b20, .ref b21, .ref b22, .ref b23, .ref b24, .ref b25, .int 0, .int 0, .int 0, .int 0, .int 0, .int 0, .int 0, .long 0, .int 0, .ref b26, .ref b27, .long 0, .long 0, .int 0, .ref b28, .int 0, .ref b29, .ref b30, .ref b31, .ref b32, .int 0, .int 0, .int 0, .int 0, .ref b33, .ref b34, .int 0, .int 0, .ref b35]))] [] (fun sz => c174_X12_plain l g pm (xs 1) (xs 2) b0 b1 b2 b3 b4 b5 b6 b7 b8 b9 b10 b11 b12 b13 b14 b15 b16 b17 b18 b19 b20 b21 b22 b23 b24 b25 b26 b27 b28 b29 b30 b31 b32 b33 b34 b35 sz) gQ_X12_plain rfl ⟨rfl, rfl⟩ 2 (by decide) ⟨Nat.le_of_ble_eq_true rfl, Nat.le_of_ble_eq_true rfl⟩ 0 rfl rfl [0] [] rfl rfl (by decide) (by decide) (by decide) rfl rfl (Nat.le_of_ble_eq_true rfl) ⟨Nat.le_of_ble_eq_true rfl, Nat.le_of_ble_eq_true rfl⟩ (fun r22 _ w23 => ?_)
    refine r_ws [] rfl ?_
    rcases w23 with ⟨k24, rfl⟩ | w23
    · skip
      exact absurd trivial (by omega)
    rcases w23 with ⟨k25, k26, rfl⟩ | w23
    · skip
      refine r_icmp_eq_t 481 545 C dL_law_481 (by decide) (by decide) ?_
      refine r_iinc 545 0 6 C dL_law_545 rfl (by decide) [(3, .int 6), (2, .ref pm), (1, .ref px), (0, .ref b)] (by decide) rfl ?_
      refine r_goto 548 18 C dL_law_548 (by decide) ?_
      refine r_iload_n 18 0 C dL_law_18 rfl ?_
      refine r_aload_n 19 3 C dL_law_19 rfl ?_
      refine r_slen 20 6 C hX hbl hbA dL_law_20 (by decide) ?_
      refine r_bipush 21 6 C dL_law_21 (by decide) ?_
      refine r_isub 23 0 C dL_law_23 (by decide) ?_
      refine r_icmp_gt_t 24 551 C dL_law_24 (by decide) (by decide) ?_
      refine r_iconst 551 1 C dL_law_551 (by decide) ?_
      exact r_lawret hx hb hr hlocks 552 dL_law_552 (Nat.le_of_ble_eq_true rfl) (Nat.le_of_ble_eq_true rfl)
    rcases w23 with ⟨k27, k28, k29, rfl⟩ | w23
    · skip
      exact absurd trivial (by omega)
    rcases w23 with ⟨k30, k31, k32, k33, rfl⟩ | w23
    · skip
      exact absurd trivial (by omega)
    obtain ⟨k34, k35, k36, k37, rfl⟩ := w23
    exact absurd trivial (by omega)
  rcases w2 with ⟨k38, k39, k40, rfl⟩ | w2
  · skip
    refine r_aload_n 467 1 C dL_law_467 rfl ?_
    refine r_aload_n 468 3 C dL_law_468 rfl ?_
    refine r_iload_n 469 0 C dL_law_469 rfl ?_
    refine r_iconst 470 1 C dL_law_470 (by decide) ?_
    refine r_iadd 471 1 C dL_law_471 (by decide) ?_
    refine r_sld 472 (xs 1) C hX hbl hbA dL_law_472 (vin (by decide)) rfl ?_
    refine r_aload_n 473 3 C dL_law_473 rfl ?_
    refine r_iload_n 474 0 C dL_law_474 rfl ?_
    refine r_iconst 475 2 C dL_law_475 (by decide) ?_
    refine r_iadd 476 2 C dL_law_476 (by decide) ?_
    refine r_sld 477 (xs 2) C hX hbl hbA dL_law_477 (vin (by decide)) rfl ?_
    refine r_callVi 478 C dL_law_478 [.int (-1)] [(pm, .inr (11, [.ref b0, .int 0, .ref b1, .int 0, .int 0, .int (-1), .ref b2, .ref b3, .ref b4, .ref b5, .int 0, .int 0, .int 0, .ref b6, .ref b7, .ref b8, .ref b9, .int 0, .int 0, .int 0, .long 0, .int 0, .int 0, .long 0, .long 0, .ref b10, .ref b11, .ref b12, .ref b13, .long 0, .int 0, .ref b14, .int 0, .int 0, .int 0, .int 0, .ref b15, .ref b16, .ref b17, .ref b18, .ref b19, .ref b20, .ref b21, .ref b22, .ref b23, .ref b24, .ref b25, .int 0, .int 0, .int 0, .int 0, .int 0, .int 0, .int 0, .long 0, .int 0, .ref b26, .ref b27, .long 0, .long 0, .int 0, .ref b28, .int 0, .ref b29, .ref b30, .ref b31, .ref b32, .int 0, .int 0, .int 0, .int 0, .ref b33, .ref b34, .int 0, .int 0, .ref b35]))] [] (fun sz => c174_X12_plain l g pm (xs 1) (xs 2) b0 b1 b2 b3 b4 b5 b6 b7 b8 b9 b10 b11 b12 b13 b14 b15 b16 b17 b18 b19 b20 b21 b22 b23 b24 b25 b26 b27 b28 b29 b30 b31 b32 b33 b34 b35 sz) gQ_X12_plain rfl ⟨rfl, rfl⟩ 2 (by decide) ⟨Nat.le_of_ble_eq_true rfl, Nat.le_of_ble_eq_true rfl⟩ 0 rfl rfl [0] [] rfl rfl (by decide) (by decide) (by decide) rfl rfl (Nat.le_of_ble_eq_true rfl) ⟨Nat.le_of_ble_eq_true rfl, Nat.le_of_ble_eq_true rfl⟩ (fun r41 _ w42 => ?_)
    refine r_ws [] rfl ?_
    rcases w42 with ⟨k43, rfl⟩ | w42
    · skip
      exact absurd trivial (by omega)
    rcases w42 with ⟨k44, k45, rfl⟩ | w42
    · skip
      exact absurd trivial (by omega)
    rcases w42 with ⟨k46, k47, k48, rfl⟩ | w42
    · skip
      refine r_icmp_eq_t 481 545 C dL_law_481 (by decide) (by decide) ?_
      refine r_iinc 545 0 6 C dL_law_545 rfl (by decide) [(3, .int 6), (2, .ref pm), (1, .ref px), (0, .ref b)] (by decide) rfl ?_
      refine r_goto 548 18 C dL_law_548 (by decide) ?_
      refine r_iload_n 18 0 C dL_law_18 rfl ?_
      refine r_aload_n 19 3 C dL_law_19 rfl ?_
      refine r_slen 20 6 C hX hbl hbA dL_law_20 (by decide) ?_
      refine r_bipush 21 6 C dL_law_21 (by decide) ?_
      refine r_isub 23 0 C dL_law_23 (by decide) ?_
      refine r_icmp_gt_t 24 551 C dL_law_24 (by decide) (by decide) ?_
      refine r_iconst 551 1 C dL_law_551 (by decide) ?_
      exact r_lawret hx hb hr hlocks 552 dL_law_552 (Nat.le_of_ble_eq_true rfl) (Nat.le_of_ble_eq_true rfl)
    rcases w42 with ⟨k49, k50, k51, k52, rfl⟩ | w42
    · skip
      exact absurd trivial (by omega)
    obtain ⟨k53, k54, k55, k56, rfl⟩ := w42
    exact absurd trivial (by omega)
  rcases w2 with ⟨k57, k58, k59, k60, rfl⟩ | w2
  · skip
    refine r_aload_n 467 1 C dL_law_467 rfl ?_
    refine r_aload_n 468 3 C dL_law_468 rfl ?_
    refine r_iload_n 469 0 C dL_law_469 rfl ?_
    refine r_iconst 470 1 C dL_law_470 (by decide) ?_
    refine r_iadd 471 1 C dL_law_471 (by decide) ?_
    refine r_sld 472 (xs 1) C hX hbl hbA dL_law_472 (vin (by decide)) rfl ?_
    refine r_aload_n 473 3 C dL_law_473 rfl ?_
    refine r_iload_n 474 0 C dL_law_474 rfl ?_
    refine r_iconst 475 2 C dL_law_475 (by decide) ?_
    refine r_iadd 476 2 C dL_law_476 (by decide) ?_
    refine r_sld 477 (xs 2) C hX hbl hbA dL_law_477 (vin (by decide)) rfl ?_
    refine r_callVi 478 C dL_law_478 [.int (-1)] [(pm, .inr (11, [.ref b0, .int 0, .ref b1, .int 0, .int 0, .int (-1), .ref b2, .ref b3, .ref b4, .ref b5, .int 0, .int 0, .int 0, .ref b6, .ref b7, .ref b8, .ref b9, .int 0, .int 0, .int 0, .long 0, .int 0, .int 0, .long 0, .long 0, .ref b10, .ref b11, .ref b12, .ref b13, .long 0, .int 0, .ref b14, .int 0, .int 0, .int 0, .int 0, .ref b15, .ref b16, .ref b17, .ref b18, .ref b19, .ref b20, .ref b21, .ref b22, .ref b23, .ref b24, .ref b25, .int 0, .int 0, .int 0, .int 0, .int 0, .int 0, .int 0, .long 0, .int 0, .ref b26, .ref b27, .long 0, .long 0, .int 0, .ref b28, .int 0, .ref b29, .ref b30, .ref b31, .ref b32, .int 0, .int 0, .int 0, .int 0, .ref b33, .ref b34, .int 0, .int 0, .ref b35]))] [] (fun sz => c174_X12_plain l g pm (xs 1) (xs 2) b0 b1 b2 b3 b4 b5 b6 b7 b8 b9 b10 b11 b12 b13 b14 b15 b16 b17 b18 b19 b20 b21 b22 b23 b24 b25 b26 b27 b28 b29 b30 b31 b32 b33 b34 b35 sz) gQ_X12_plain rfl ⟨rfl, rfl⟩ 2 (by decide) ⟨Nat.le_of_ble_eq_true rfl, Nat.le_of_ble_eq_true rfl⟩ 0 rfl rfl [0] [] rfl rfl (by decide) (by decide) (by decide) rfl rfl (Nat.le_of_ble_eq_true rfl) ⟨Nat.le_of_ble_eq_true rfl, Nat.le_of_ble_eq_true rfl⟩ (fun r61 _ w62 => ?_)
    refine r_ws [] rfl ?_
    rcases w62 with ⟨k63, rfl⟩ | w62
    · skip
      exact absurd trivial (by omega)
    rcases w62 with ⟨k64, k65, rfl⟩ | w62
    · skip
      exact absurd trivial (by omega)
    rcases w62 with ⟨k66, k67, k68, rfl⟩ | w62
    · skip
      exact absurd trivial (by omega)
    rcases w62 with ⟨k69, k70, k71, k72, rfl⟩ | w62
    · skip
      exact absurd trivial (by omega)
    obtain ⟨k73, k74, k75, k76, rfl⟩ := w62
    refine r_icmp_eq_t 481 545 C dL_law_481 (by decide) (by decide) ?_
    refine r_iinc 545 0 6 C dL_law_545 rfl (by decide) [(3, .int 6), (2, .ref pm), (1, .ref px), (0, .ref b)] (by decide) rfl ?_
    refine r_goto 548 18 C dL_law_548 (by decide) ?_
    refine r_iload_n 18 0 C dL_law_18 rfl ?_
    refine r_aload_n 19 3 C dL_law_19 rfl ?_
    refine r_slen 20 6 C hX hbl hbA dL_law_20 (by decide) ?_
    refine r_bipush 21 6 C dL_law_21 (by decide) ?_
    refine r_isub 23 0 C dL_law_23 (by decide) ?_
    refine r_icmp_gt_t 24 551 C dL_law_24 (by decide) (by decide) ?_
    refine r_iconst 551 1 C dL_law_551 (by decide) ?_
    exact r_lawret hx hb hr hlocks 552 dL_law_552 (Nat.le_of_ble_eq_true rfl) (Nat.le_of_ble_eq_true rfl)
  obtain ⟨k77, k78, k79, k80, rfl⟩ := w2
  refine r_aload_n 467 1 C dL_law_467 rfl ?_
  refine r_aload_n 468 3 C dL_law_468 rfl ?_
  refine r_iload_n 469 0 C dL_law_469 rfl ?_
  refine r_iconst 470 1 C dL_law_470 (by decide) ?_
  refine r_iadd 471 1 C dL_law_471 (by decide) ?_
  refine r_sld 472 (xs 1) C hX hbl hbA dL_law_472 (vin (by decide)) rfl ?_
  refine r_aload_n 473 3 C dL_law_473 rfl ?_
  refine r_iload_n 474 0 C dL_law_474 rfl ?_
  refine r_iconst 475 2 C dL_law_475 (by decide) ?_
  refine r_iadd 476 2 C dL_law_476 (by decide) ?_
  refine r_sld 477 (xs 2) C hX hbl hbA dL_law_477 (vin (by decide)) rfl ?_
  refine r_callVi 478 C dL_law_478 [.int 0] [(pm, .inr (11, [.ref b0, .int 0, .ref b1, .int 0, .int 0, .int (-1), .ref b2, .ref b3, .ref b4, .ref b5, .int 0, .int 0, .int 0, .ref b6, .ref b7, .ref b8, .ref b9, .int 0, .int 0, .int 0, .long 0, .int 0, .int 0, .long 0, .long 0, .ref b10, .ref b11, .ref b12, .ref b13, .long 0, .int 0, .ref b14, .int 0, .int 0, .int 0, .int 0, .ref b15, .ref b16, .ref b17, .ref b18, .ref b19, .ref b20, .ref b21, .ref b22, .ref b23, .ref b24, .ref b25, .int 0, .int 0, .int 0, .int 0, .int 0, .int 0, .int 0, .long 0, .int 0, .ref b26, .ref b27, .long 0, .long 0, .int 0, .ref b28, .int 0, .ref b29, .ref b30, .ref b31, .ref b32, .int 0, .int 0, .int 0, .int 0, .ref b33, .ref b34, .int 0, .int 0, .ref b35]))] [] (fun sz => c174_X12_plain l g pm (xs 1) (xs 2) b0 b1 b2 b3 b4 b5 b6 b7 b8 b9 b10 b11 b12 b13 b14 b15 b16 b17 b18 b19 b20 b21 b22 b23 b24 b25 b26 b27 b28 b29 b30 b31 b32 b33 b34 b35 sz) gQ_X12_plain rfl ⟨rfl, rfl⟩ 2 (by decide) ⟨Nat.le_of_ble_eq_true rfl, Nat.le_of_ble_eq_true rfl⟩ 0 rfl rfl [0] [] rfl rfl (by decide) (by decide) (by decide) rfl rfl (Nat.le_of_ble_eq_true rfl) ⟨Nat.le_of_ble_eq_true rfl, Nat.le_of_ble_eq_true rfl⟩ (fun r81 _ w82 => ?_)
  refine r_ws [] rfl ?_
  rcases w82 with ⟨k83, rfl⟩ | w82
  · skip
    exact absurd trivial (by omega)
  rcases w82 with ⟨k84, k85, rfl⟩ | w82
  · skip
    exact absurd trivial (by omega)
  rcases w82 with ⟨k86, k87, k88, rfl⟩ | w82
  · skip
    exact absurd trivial (by omega)
  rcases w82 with ⟨k89, k90, k91, k92, rfl⟩ | w82
  · skip
    refine r_icmp_eq_t 481 545 C dL_law_481 (by decide) (by decide) ?_
    refine r_iinc 545 0 6 C dL_law_545 rfl (by decide) [(3, .int 6), (2, .ref pm), (1, .ref px), (0, .ref b)] (by decide) rfl ?_
    refine r_goto 548 18 C dL_law_548 (by decide) ?_
    refine r_iload_n 18 0 C dL_law_18 rfl ?_
    refine r_aload_n 19 3 C dL_law_19 rfl ?_
    refine r_slen 20 6 C hX hbl hbA dL_law_20 (by decide) ?_
    refine r_bipush 21 6 C dL_law_21 (by decide) ?_
    refine r_isub 23 0 C dL_law_23 (by decide) ?_
    refine r_icmp_gt_t 24 551 C dL_law_24 (by decide) (by decide) ?_
    refine r_iconst 551 1 C dL_law_551 (by decide) ?_
    exact r_lawret hx hb hr hlocks 552 dL_law_552 (Nat.le_of_ble_eq_true rfl) (Nat.le_of_ble_eq_true rfl)
  obtain ⟨k93, k94, k95, k96, rfl⟩ := w82
  exact absurd trivial (by omega)
set_option maxHeartbeats 4000000 in
set_option maxRecDepth 100000 in
theorem lc_octet {p : Program} {e : Env} {s : State} {m : MethodId} {below : List Frame} {meth : Method} {c : Code} (l : Launch) {b : Nat} {xs : Nat → Int32} (C0 : lw_At p s m meth c b 6 xs) {g : GD} (C : Cx g p s m #[Value.ref b] meth c (fun q => s.heap.size ≤ q) RL cL_law 4 wsQ) (px : Nat) (pm : Nat) (a1 : Nat) (a0 : Nat) (a2 : Nat) (a3 : Nat) (a4 : Nat) (a5 : Nat) (a6 : Nat) (a7 : Nat) (a8 : Nat) (a11 : Nat) (b0 : Nat) (b1 : Nat) (b2 : Nat) (b3 : Nat) (b4 : Nat) (b5 : Nat) (b6 : Nat) (b7 : Nat) (b8 : Nat) (b9 : Nat) (b10 : Nat) (b11 : Nat) (b12 : Nat) (b13 : Nat) (b14 : Nat) (b15 : Nat) (b16 : Nat) (b17 : Nat) (b18 : Nat) (b19 : Nat) (b20 : Nat) (b21 : Nat) (b22 : Nat) (b23 : Nat) (b24 : Nat) (b25 : Nat) (b26 : Nat) (b27 : Nat) (b28 : Nat) (b29 : Nat) (b30 : Nat) (b31 : Nat) (b32 : Nat) (b33 : Nat) (b34 : Nat) (b35 : Nat) : WW p l e room_1 s m #[Value.ref b] below meth c (fun q => s.heap.size ≤ q) (lw_Z below #[Value.ref b] s) g 4 90 50196 [(px, .inr (10, [.ref a0, .ref a1, .ref a2, .ref a3, .ref a4, .ref a5, .ref a6, .ref a7, .ref a8, .null])), (a1, .inr (4, [.ref a11, .int 0])), (pm, .inr (11, [.ref b0, .int 0, .ref b1, .int 0, .int 0, .int (-1), .ref b2, .ref b3, .ref b4, .ref b5, .int 0, .int 0, .int 0, .ref b6, .ref b7, .ref b8, .ref b9, .int 0, .int 0, .int 0, .long 0, .int 0, .int 0, .long 0, .long 0, .ref b10, .ref b11, .ref b12, .ref b13, .long 0, .int 0, .ref b14, .int 0, .int 0, .int 0, .int 0, .ref b15, .ref b16, .ref b17, .ref b18, .ref b19, .ref b20, .ref b21, .ref b22, .ref b23, .ref b24, .ref b25, .int 0, .int 0, .int 0, .int 0, .int 0, .int 0, .int 0, .long 0, .int 0, .ref b26, .ref b27, .long 0, .long 0, .int 0, .ref b28, .int 0, .ref b29, .ref b30, .ref b31, .ref b32, .int 0, .int 0, .int 0, .int 0, .ref b33, .ref b34, .int 0, .int 0, .ref b35]))] 486 [(3, .int 0), (2, .ref pm), (1, .ref px), (0, .ref b)] [] := by
  obtain ⟨hx, hb, hr, hml, hown, hts0, hX, hbl, hlocks, hgv⟩ := id C0
  have hbA : ¬ (fun q : Nat => s.heap.size ≤ q) b := Nat.not_le.mpr hbl
  refine r_aload_n 486 2 C dL_law_486 rfl ?_
  refine r_aload_n 487 3 C dL_law_487 rfl ?_
  refine r_iload_n 488 0 C dL_law_488 rfl ?_
  refine r_iconst 489 1 C dL_law_489 (by decide) ?_
  refine r_iadd 490 1 C dL_law_490 (by decide) ?_
  refine r_sld 491 (xs 1) C hX hbl hbA dL_law_491 (vin (by decide)) rfl ?_
  refine r_callVi 492 C dL_law_492 [] [(px, .inr (10, [.ref a0, .ref a1, .ref a2, .ref a3, .ref a4, .ref a5, .ref a6, .ref a7, .ref a8, .null])), (a1, .inr (4, [.ref a11, .int 0]))] [(pm, .inr (11, [.ref b0, .int 0, .ref b1, .int 0, .int 0, .int (-1), .ref b2, .ref b3, .ref b4, .ref b5, .int 0, .int 0, .int 0, .ref b6, .ref b7, .ref b8, .ref b9, .int 0, .int 0, .int 0, .long 0, .int 0, .int 0, .long 0, .long 0, .ref b10, .ref b11, .ref b12, .ref b13, .long 0, .int 0, .ref b14, .int 0, .int 0, .int 0, .int 0, .ref b15, .ref b16, .ref b17, .ref b18, .ref b19, .ref b20, .ref b21, .ref b22, .ref b23, .ref b24, .ref b25, .int 0, .int 0, .int 0, .int 0, .int 0, .int 0, .int 0, .long 0, .int 0, .ref b26, .ref b27, .long 0, .long 0, .int 0, .ref b28, .int 0, .ref b29, .ref b30, .ref b31, .ref b32, .int 0, .int 0, .int 0, .int 0, .ref b33, .ref b34, .int 0, .int 0, .ref b35]))] (fun sz => c176_X11_octet l g px (xs 1) a1 a0 a2 a3 a4 a5 a6 a7 a8 a11 sz) gQ_X11_octet rfl ⟨rfl, rfl⟩ 1 (by decide) ⟨Nat.le_of_ble_eq_true rfl, Nat.le_of_ble_eq_true rfl⟩ 0 rfl rfl [0, 1] [2] rfl rfl (by decide) (by decide) (by decide) rfl rfl (Nat.le_of_ble_eq_true rfl) ⟨Nat.le_of_ble_eq_true rfl, Nat.le_of_ble_eq_true rfl⟩ (fun r1 _ w2 => ?_)
  refine r_ws [(pm, .inr (11, [.ref b0, .int 0, .ref b1, .int 0, .int 0, .int (-1), .ref b2, .ref b3, .ref b4, .ref b5, .int 0, .int 0, .int 0, .ref b6, .ref b7, .ref b8, .ref b9, .int 0, .int 0, .int 0, .long 0, .int 0, .int 0, .long 0, .long 0, .ref b10, .ref b11, .ref b12, .ref b13, .long 0, .int 0, .ref b14, .int 0, .int 0, .int 0, .int 0, .ref b15, .ref b16, .ref b17, .ref b18, .ref b19, .ref b20, .ref b21, .ref b22, .ref b23, .ref b24, .ref b25, .int 0, .int 0, .int 0, .int 0, .int 0, .int 0, .int 0, .long 0, .int 0, .ref b26, .ref b27, .long 0, .long 0, .int 0, .ref b28, .int 0, .ref b29, .ref b30, .ref b31, .ref b32, .int 0, .int 0, .int 0, .int 0, .ref b33, .ref b34, .int 0, .int 0, .ref b35]))] rfl ?_
  have w2 : r1 = (-1) := w2
  subst w2
  refine r_aload_n 495 1 C dL_law_495 rfl ?_
  refine r_aload_n 496 3 C dL_law_496 rfl ?_
  refine r_iload_n 497 0 C dL_law_497 rfl ?_
  refine r_iconst 498 1 C dL_law_498 (by decide) ?_
  refine r_iadd 499 1 C dL_law_499 (by decide) ?_
  refine r_sld 500 (xs 1) C hX hbl hbA dL_law_500 (vin (by decide)) rfl ?_
  refine r_callVi 501 C dL_law_501 [.int (-1)] [(pm, .inr (11, [.ref b0, .int 0, .ref b1, .int 0, .int 0, .int (-1), .ref b2, .ref b3, .ref b4, .ref b5, .int 0, .int 0, .int 0, .ref b6, .ref b7, .ref b8, .ref b9, .int 0, .int 0, .int 0, .long 0, .int 0, .int 0, .long 0, .long 0, .ref b10, .ref b11, .ref b12, .ref b13, .long 0, .int 0, .ref b14, .int 0, .int 0, .int 0, .int 0, .ref b15, .ref b16, .ref b17, .ref b18, .ref b19, .ref b20, .ref b21, .ref b22, .ref b23, .ref b24, .ref b25, .int 0, .int 0, .int 0, .int 0, .int 0, .int 0, .int 0, .long 0, .int 0, .ref b26, .ref b27, .long 0, .long 0, .int 0, .ref b28, .int 0, .ref b29, .ref b30, .ref b31, .ref b32, .int 0, .int 0, .int 0, .int 0, .ref b33, .ref b34, .int 0, .int 0, .ref b35]))] [] (fun sz => c177_X12_octet l g pm (xs 1) b0 b1 b2 b3 b4 b5 b6 b7 b8 b9 b10 b11 b12 b13 b14 b15 b16 b17 b18 b19 b20 b21 b22 b23 b24 b25 b26 b27 b28 b29 b30 b31 b32 b33 b34 b35 sz) gQ_X12_octet rfl ⟨rfl, rfl⟩ 1 (by decide) ⟨Nat.le_of_ble_eq_true rfl, Nat.le_of_ble_eq_true rfl⟩ 0 rfl rfl [0] [] rfl rfl (by decide) (by decide) (by decide) rfl rfl (Nat.le_of_ble_eq_true rfl) ⟨Nat.le_of_ble_eq_true rfl, Nat.le_of_ble_eq_true rfl⟩ (fun r3 _ w4 => ?_)
  refine r_ws [] rfl ?_
  have w4 : r3 = (-1) := w4
  subst w4
  refine r_icmp_eq_t 504 545 C dL_law_504 (by decide) (by decide) ?_
  refine r_iinc 545 0 6 C dL_law_545 rfl (by decide) [(3, .int 6), (2, .ref pm), (1, .ref px), (0, .ref b)] (by decide) rfl ?_
  refine r_goto 548 18 C dL_law_548 (by decide) ?_
  refine r_iload_n 18 0 C dL_law_18 rfl ?_
  refine r_aload_n 19 3 C dL_law_19 rfl ?_
  refine r_slen 20 6 C hX hbl hbA dL_law_20 (by decide) ?_
  refine r_bipush 21 6 C dL_law_21 (by decide) ?_
  refine r_isub 23 0 C dL_law_23 (by decide) ?_
  refine r_icmp_gt_t 24 551 C dL_law_24 (by decide) (by decide) ?_
  refine r_iconst 551 1 C dL_law_551 (by decide) ?_
  exact r_lawret hx hb hr hlocks 552 dL_law_552 (Nat.le_of_ble_eq_true rfl) (Nat.le_of_ble_eq_true rfl)
set_option maxHeartbeats 4000000 in
set_option maxRecDepth 100000 in
theorem lc_back {p : Program} {e : Env} {s : State} {m : MethodId} {below : List Frame} {meth : Method} {c : Code} (l : Launch) {b : Nat} {xs : Nat → Int32} (C0 : lw_At p s m meth c b 6 xs) {g : GD} (C : Cx g p s m #[Value.ref b] meth c (fun q => s.heap.size ≤ q) RL cL_law 4 wsQ) (px : Nat) (pm : Nat) (a0 : Nat) (a1 : Nat) (a2 : Nat) (a3 : Nat) (a4 : Nat) (a5 : Nat) (a6 : Nat) (a7 : Nat) (a8 : Nat) (a9 : Nat) (a11 : Nat) (b0 : Nat) (b1 : Nat) (b2 : Nat) (b3 : Nat) (b4 : Nat) (b5 : Nat) (b6 : Nat) (b7 : Nat) (b8 : Nat) (b9 : Nat) (b10 : Nat) (b11 : Nat) (b12 : Nat) (b13 : Nat) (b14 : Nat) (b15 : Nat) (b16 : Nat) (b17 : Nat) (b18 : Nat) (b19 : Nat) (b20 : Nat) (b21 : Nat) (b22 : Nat) (b23 : Nat) (b24 : Nat) (b25 : Nat) (b26 : Nat) (b27 : Nat) (b28 : Nat) (b29 : Nat) (b30 : Nat) (b31 : Nat) (b32 : Nat) (b33 : Nat) (b34 : Nat) (b35 : Nat) : WW p l e room_1 s m #[Value.ref b] below meth c (fun q => s.heap.size ≤ q) (lw_Z below #[Value.ref b] s) g 4 90 50196 [(px, .inr (10, [.ref a0, .ref a1, .ref a2, .ref a3, .ref a4, .ref a5, .ref a6, .ref a7, .ref a8, .null])), (a0, .inr (4, [.ref a9, .int 0])), (a1, .inr (4, [.ref a11, .int 0])), (pm, .inr (11, [.ref b0, .int 0, .ref b1, .int 0, .int 0, .int (-1), .ref b2, .ref b3, .ref b4, .ref b5, .int 0, .int 0, .int 0, .ref b6, .ref b7, .ref b8, .ref b9, .int 0, .int 0, .int 0, .long 0, .int 0, .int 0, .long 0, .long 0, .ref b10, .ref b11, .ref b12, .ref b13, .long 0, .int 0, .ref b14, .int 0, .int 0, .int 0, .int 0, .ref b15, .ref b16, .ref b17, .ref b18, .ref b19, .ref b20, .ref b21, .ref b22, .ref b23, .ref b24, .ref b25, .int 0, .int 0, .int 0, .int 0, .int 0, .int 0, .int 0, .long 0, .int 0, .ref b26, .ref b27, .long 0, .long 0, .int 0, .ref b28, .int 0, .ref b29, .ref b30, .ref b31, .ref b32, .int 0, .int 0, .int 0, .int 0, .ref b33, .ref b34, .int 0, .int 0, .ref b35]))] 509 [(3, .int 0), (2, .ref pm), (1, .ref px), (0, .ref b)] [] := by
  obtain ⟨hx, hb, hr, hml, hown, hts0, hX, hbl, hlocks, hgv⟩ := id C0
  have hbA : ¬ (fun q : Nat => s.heap.size ≤ q) b := Nat.not_le.mpr hbl
  refine r_aload_n 509 2 C dL_law_509 rfl ?_
  refine r_callVi 510 C dL_law_510 [] [(px, .inr (10, [.ref a0, .ref a1, .ref a2, .ref a3, .ref a4, .ref a5, .ref a6, .ref a7, .ref a8, .null])), (a0, .inr (4, [.ref a9, .int 0])), (a1, .inr (4, [.ref a11, .int 0]))] [(pm, .inr (11, [.ref b0, .int 0, .ref b1, .int 0, .int 0, .int (-1), .ref b2, .ref b3, .ref b4, .ref b5, .int 0, .int 0, .int 0, .ref b6, .ref b7, .ref b8, .ref b9, .int 0, .int 0, .int 0, .long 0, .int 0, .int 0, .long 0, .long 0, .ref b10, .ref b11, .ref b12, .ref b13, .long 0, .int 0, .ref b14, .int 0, .int 0, .int 0, .int 0, .ref b15, .ref b16, .ref b17, .ref b18, .ref b19, .ref b20, .ref b21, .ref b22, .ref b23, .ref b24, .ref b25, .int 0, .int 0, .int 0, .int 0, .int 0, .int 0, .int 0, .long 0, .int 0, .ref b26, .ref b27, .long 0, .long 0, .int 0, .ref b28, .int 0, .ref b29, .ref b30, .ref b31, .ref b32, .int 0, .int 0, .int 0, .int 0, .ref b33, .ref b34, .int 0, .int 0, .ref b35]))] (fun sz => c178_X11_back l g px a0 a1 a2 a3 a4 a5 a6 a7 a8 a9 a11 sz) gQ_X11_back rfl ⟨rfl, rfl⟩ 0 (by decide) ⟨Nat.le_of_ble_eq_true rfl, Nat.le_of_ble_eq_true rfl⟩ 0 rfl rfl [0, 1, 2] [3] rfl rfl (by decide) (by decide) (by decide) rfl rfl (Nat.le_of_ble_eq_true rfl) ⟨Nat.le_of_ble_eq_true rfl, Nat.le_of_ble_eq_true rfl⟩ (fun r1 _ w2 => ?_)
  refine r_ws [(pm, .inr (11, [.ref b0, .int 0, .ref b1, .int 0, .int 0, .int (-1), .ref b2, .ref b3, .ref b4, .ref b5, .int 0, .int 0, .int 0, .ref b6, .ref b7, .ref b8, .ref b9, .int 0, .int 0, .int 0, .long 0, .int 0, .int 0, .long 0, .long 0, .ref b10, .ref b11, .ref b12, .ref b13, .long 0, .int 0, .ref b14, .int 0, .int 0, .int 0, .int 0, .ref b15, .ref b16, .ref b17, .ref b18, .ref b19, .ref b20, .ref b21, .ref b22, .ref b23, .ref b24, .ref b25, .int 0, .int 0, .int 0, .int 0, .int 0, .int 0, .int 0, .long 0, .int 0, .ref b26, .ref b27, .long 0, .long 0, .int 0, .ref b28, .int 0, .ref b29, .ref b30, .ref b31, .ref b32, .int 0, .int 0, .int 0, .int 0, .ref b33, .ref b34, .int 0, .int 0, .ref b35]))] rfl ?_
  have w2 : r1 = 0 := w2
  subst w2
  refine r_aload_n 513 1 C dL_law_513 rfl ?_
  refine r_callVi 514 C dL_law_514 [.int 0] [(pm, .inr (11, [.ref b0, .int 0, .ref b1, .int 0, .int 0, .int (-1), .ref b2, .ref b3, .ref b4, .ref b5, .int 0, .int 0, .int 0, .ref b6, .ref b7, .ref b8, .ref b9, .int 0, .int 0, .int 0, .long 0, .int 0, .int 0, .long 0, .long 0, .ref b10, .ref b11, .ref b12, .ref b13, .long 0, .int 0, .ref b14, .int 0, .int 0, .int 0, .int 0, .ref b15, .ref b16, .ref b17, .ref b18, .ref b19, .ref b20, .ref b21, .ref b22, .ref b23, .ref b24, .ref b25, .int 0, .int 0, .int 0, .int 0, .int 0, .int 0, .int 0, .long 0, .int 0, .ref b26, .ref b27, .long 0, .long 0, .int 0, .ref b28, .int 0, .ref b29, .ref b30, .ref b31, .ref b32, .int 0, .int 0, .int 0, .int 0, .ref b33, .ref b34, .int 0, .int 0, .ref b35]))] [] (fun sz => c179_X12_back l g pm b0 b1 b2 b3 b4 b5 b6 b7 b8 b9 b10 b11 b12 b13 b14 b15 b16 b17 b18 b19 b20 b21 b22 b23 b24 b25 b26 b27 b28 b29 b30 b31 b32 b33 b34 b35 sz) gQ_X12_back rfl ⟨rfl, rfl⟩ 0 (by decide) ⟨Nat.le_of_ble_eq_true rfl, Nat.le_of_ble_eq_true rfl⟩ 0 rfl rfl [0] [] rfl rfl (by decide) (by decide) (by decide) rfl rfl (Nat.le_of_ble_eq_true rfl) ⟨Nat.le_of_ble_eq_true rfl, Nat.le_of_ble_eq_true rfl⟩ (fun r3 _ w4 => ?_)
  refine r_ws [] rfl ?_
  have w4 : r3 = 0 := w4
  subst w4
  refine r_icmp_eq_t 517 545 C dL_law_517 (by decide) (by decide) ?_
  refine r_iinc 545 0 6 C dL_law_545 rfl (by decide) [(3, .int 6), (2, .ref pm), (1, .ref px), (0, .ref b)] (by decide) rfl ?_
  refine r_goto 548 18 C dL_law_548 (by decide) ?_
  refine r_iload_n 18 0 C dL_law_18 rfl ?_
  refine r_aload_n 19 3 C dL_law_19 rfl ?_
  refine r_slen 20 6 C hX hbl hbA dL_law_20 (by decide) ?_
  refine r_bipush 21 6 C dL_law_21 (by decide) ?_
  refine r_isub 23 0 C dL_law_23 (by decide) ?_
  refine r_icmp_gt_t 24 551 C dL_law_24 (by decide) (by decide) ?_
  refine r_iconst 551 1 C dL_law_551 (by decide) ?_
  exact r_lawret hx hb hr hlocks 552 dL_law_552 (Nat.le_of_ble_eq_true rfl) (Nat.le_of_ble_eq_true rfl)
set_option maxHeartbeats 4000000 in
set_option maxRecDepth 100000 in
theorem lc_count {p : Program} {e : Env} {s : State} {m : MethodId} {below : List Frame} {meth : Method} {c : Code} (l : Launch) {b : Nat} {xs : Nat → Int32} (C0 : lw_At p s m meth c b 6 xs) {g : GD} (C : Cx g p s m #[Value.ref b] meth c (fun q => s.heap.size ≤ q) RL cL_law 4 wsQ) (px : Nat) (pm : Nat) (a0 : Nat) (a1 : Nat) (a2 : Nat) (a3 : Nat) (a4 : Nat) (a5 : Nat) (a6 : Nat) (a7 : Nat) (a8 : Nat) (a9 : Nat) (a11 : Nat) (b0 : Nat) (b1 : Nat) (b2 : Nat) (b3 : Nat) (b4 : Nat) (b5 : Nat) (b6 : Nat) (b7 : Nat) (b8 : Nat) (b9 : Nat) (b10 : Nat) (b11 : Nat) (b12 : Nat) (b13 : Nat) (b14 : Nat) (b15 : Nat) (b16 : Nat) (b17 : Nat) (b18 : Nat) (b19 : Nat) (b20 : Nat) (b21 : Nat) (b22 : Nat) (b23 : Nat) (b24 : Nat) (b25 : Nat) (b26 : Nat) (b27 : Nat) (b28 : Nat) (b29 : Nat) (b30 : Nat) (b31 : Nat) (b32 : Nat) (b33 : Nat) (b34 : Nat) (b35 : Nat) : WW p l e room_1 s m #[Value.ref b] below meth c (fun q => s.heap.size ≤ q) (lw_Z below #[Value.ref b] s) g 4 90 50196 [(px, .inr (10, [.ref a0, .ref a1, .ref a2, .ref a3, .ref a4, .ref a5, .ref a6, .ref a7, .ref a8, .null])), (a0, .inr (4, [.ref a9, .int 0])), (a1, .inr (4, [.ref a11, .int 0])), (pm, .inr (11, [.ref b0, .int 0, .ref b1, .int 0, .int 0, .int (-1), .ref b2, .ref b3, .ref b4, .ref b5, .int 0, .int 0, .int 0, .ref b6, .ref b7, .ref b8, .ref b9, .int 0, .int 0, .int 0, .long 0, .int 0, .int 0, .long 0, .long 0, .ref b10, .ref b11, .ref b12, .ref b13, .long 0, .int 0, .ref b14, .int 0, .int 0, .int 0, .int 0, .ref b15, .ref b16, .ref b17, .ref b18, .ref b19, .ref b20, .ref b21, .ref b22, .ref b23, .ref b24, .ref b25, .int 0, .int 0, .int 0, .int 0, .int 0, .int 0, .int 0, .long 0, .int 0, .ref b26, .ref b27, .long 0, .long 0, .int 0, .ref b28, .int 0, .ref b29, .ref b30, .ref b31, .ref b32, .int 0, .int 0, .int 0, .int 0, .ref b33, .ref b34, .int 0, .int 0, .ref b35]))] 522 [(3, .int 0), (2, .ref pm), (1, .ref px), (0, .ref b)] [] := by
  obtain ⟨hx, hb, hr, hml, hown, hts0, hX, hbl, hlocks, hgv⟩ := id C0
  have hbA : ¬ (fun q : Nat => s.heap.size ≤ q) b := Nat.not_le.mpr hbl
  refine r_aload_n 522 2 C dL_law_522 rfl ?_
  refine r_aload_n 523 3 C dL_law_523 rfl ?_
  refine r_iload_n 524 0 C dL_law_524 rfl ?_
  refine r_iconst 525 1 C dL_law_525 (by decide) ?_
  refine r_iadd 526 1 C dL_law_526 (by decide) ?_
  refine r_sld 527 (xs 1) C hX hbl hbA dL_law_527 (vin (by decide)) rfl ?_
  refine r_callVi 528 C dL_law_528 [] [(px, .inr (10, [.ref a0, .ref a1, .ref a2, .ref a3, .ref a4, .ref a5, .ref a6, .ref a7, .ref a8, .null])), (a0, .inr (4, [.ref a9, .int 0])), (a1, .inr (4, [.ref a11, .int 0]))] [(pm, .inr (11, [.ref b0, .int 0, .ref b1, .int 0, .int 0, .int (-1), .ref b2, .ref b3, .ref b4, .ref b5, .int 0, .int 0, .int 0, .ref b6, .ref b7, .ref b8, .ref b9, .int 0, .int 0, .int 0, .long 0, .int 0, .int 0, .long 0, .long 0, .ref b10, .ref b11, .ref b12, .ref b13, .long 0, .int 0, .ref b14, .int 0, .int 0, .int 0, .int 0, .ref b15, .ref b16, .ref b17, .ref b18, .ref b19, .ref b20, .ref b21, .ref b22, .ref b23, .ref b24, .ref b25, .int 0, .int 0, .int 0, .int 0, .int 0, .int 0, .int 0, .long 0, .int 0, .ref b26, .ref b27, .long 0, .long 0, .int 0, .ref b28, .int 0, .ref b29, .ref b30, .ref b31, .ref b32, .int 0, .int 0, .int 0, .int 0, .ref b33, .ref b34, .int 0, .int 0, .ref b35]))] (fun sz => c180_X11_count l g px (xs 1) a0 a1 a2 a3 a4 a5 a6 a7 a8 a9 a11 sz) gQ_X11_count rfl ⟨rfl, rfl⟩ 1 (by decide) ⟨Nat.le_of_ble_eq_true rfl, Nat.le_of_ble_eq_true rfl⟩ 0 rfl rfl [0, 1, 2] [3] rfl rfl (by decide) (by decide) (by decide) rfl rfl (Nat.le_of_ble_eq_true rfl) ⟨Nat.le_of_ble_eq_true rfl, Nat.le_of_ble_eq_true rfl⟩ (fun r1 _ w2 => ?_)
  refine r_ws [(pm, .inr (11, [.ref b0, .int 0, .ref b1, .int 0, .int 0, .int (-1), .ref b2, .ref b3, .ref b4, .ref b5, .int 0, .int 0, .int 0, .ref b6, .ref b7, .ref b8, .ref b9, .int 0, .int 0, .int 0, .long 0, .int 0, .int 0, .long 0, .long 0, .ref b10, .ref b11, .ref b12, .ref b13, .long 0, .int 0, .ref b14, .int 0, .int 0, .int 0, .int 0, .ref b15, .ref b16, .ref b17, .ref b18, .ref b19, .ref b20, .ref b21, .ref b22, .ref b23, .ref b24, .ref b25, .int 0, .int 0, .int 0, .int 0, .int 0, .int 0, .int 0, .long 0, .int 0, .ref b26, .ref b27, .long 0, .long 0, .int 0, .ref b28, .int 0, .ref b29, .ref b30, .ref b31, .ref b32, .int 0, .int 0, .int 0, .int 0, .ref b33, .ref b34, .int 0, .int 0, .ref b35]))] rfl ?_
  rcases w2 with ⟨k3, rfl⟩ | w2
  · skip
    refine r_aload_n 531 1 C dL_law_531 rfl ?_
    refine r_aload_n 532 3 C dL_law_532 rfl ?_
    refine r_iload_n 533 0 C dL_law_533 rfl ?_
    refine r_iconst 534 1 C dL_law_534 (by decide) ?_
    refine r_iadd 535 1 C dL_law_535 (by decide) ?_
    refine r_sld 536 (xs 1) C hX hbl hbA dL_law_536 (vin (by decide)) rfl ?_
    refine r_callVi 537 C dL_law_537 [.int 0] [(pm, .inr (11, [.ref b0, .int 0, .ref b1, .int 0, .int 0, .int (-1), .ref b2, .ref b3, .ref b4, .ref b5, .int 0, .int 0, .int 0, .ref b6, .ref b7, .ref b8, .ref b9, .int 0, .int 0, .int 0, .long 0, .int 0, .int 0, .long 0, .long 0, .ref b10, .ref b11, .ref b12, .ref b13, .long 0, .int 0, .ref b14, .int 0, .int 0, .int 0, .int 0, .ref b15, .ref b16, .ref b17, .ref b18, .ref b19, .ref b20, .ref b21, .ref b22, .ref b23, .ref b24, .ref b25, .int 0, .int 0, .int 0, .int 0, .int 0, .int 0, .int 0, .long 0, .int 0, .ref b26, .ref b27, .long 0, .long 0, .int 0, .ref b28, .int 0, .ref b29, .ref b30, .ref b31, .ref b32, .int 0, .int 0, .int 0, .int 0, .ref b33, .ref b34, .int 0, .int 0, .ref b35]))] [] (fun sz => c181_X12_count l g pm (xs 1) b0 b1 b2 b3 b4 b5 b6 b7 b8 b9 b10 b11 b12 b13 b14 b15 b16 b17 b18 b19 b20 b21 b22 b23 b24 b25 b26 b27 b28 b29 b30 b31 b32 b33 b34 b35 sz) gQ_X12_count rfl ⟨rfl, rfl⟩ 1 (by decide) ⟨Nat.le_of_ble_eq_true rfl, Nat.le_of_ble_eq_true rfl⟩ 0 rfl rfl [0] [] rfl rfl (by decide) (by decide) (by decide) rfl rfl (Nat.le_of_ble_eq_true rfl) ⟨Nat.le_of_ble_eq_true rfl, Nat.le_of_ble_eq_true rfl⟩ (fun r4 _ w5 => ?_)
    refine r_ws [] rfl ?_
    rcases w5 with ⟨k6, k7, rfl⟩ | w5
    · skip
      exact absurd trivial (by omega)
    rcases w5 with ⟨k8, k9, rfl⟩ | w5
    · skip
      exact absurd trivial (by omega)
    obtain ⟨k10, rfl⟩ := w5
    refine r_icmp_eq_t 540 545 C dL_law_540 (by decide) (by decide) ?_
    refine r_iinc 545 0 6 C dL_law_545 rfl (by decide) [(3, .int 6), (2, .ref pm), (1, .ref px), (0, .ref b)] (by decide) rfl ?_
    refine r_goto 548 18 C dL_law_548 (by decide) ?_
    refine r_iload_n 18 0 C dL_law_18 rfl ?_
    refine r_aload_n 19 3 C dL_law_19 rfl ?_
    refine r_slen 20 6 C hX hbl hbA dL_law_20 (by decide) ?_
    refine r_bipush 21 6 C dL_law_21 (by decide) ?_
    refine r_isub 23 0 C dL_law_23 (by decide) ?_
    refine r_icmp_gt_t 24 551 C dL_law_24 (by decide) (by decide) ?_
    refine r_iconst 551 1 C dL_law_551 (by decide) ?_
    exact r_lawret hx hb hr hlocks 552 dL_law_552 (Nat.le_of_ble_eq_true rfl) (Nat.le_of_ble_eq_true rfl)
  rcases w2 with ⟨k11, k12, rfl⟩ | w2
  · skip
    refine r_aload_n 531 1 C dL_law_531 rfl ?_
    refine r_aload_n 532 3 C dL_law_532 rfl ?_
    refine r_iload_n 533 0 C dL_law_533 rfl ?_
    refine r_iconst 534 1 C dL_law_534 (by decide) ?_
    refine r_iadd 535 1 C dL_law_535 (by decide) ?_
    refine r_sld 536 (xs 1) C hX hbl hbA dL_law_536 (vin (by decide)) rfl ?_
    refine r_callVi 537 C dL_law_537 [.int 0] [(pm, .inr (11, [.ref b0, .int 0, .ref b1, .int 0, .int 0, .int (-1), .ref b2, .ref b3, .ref b4, .ref b5, .int 0, .int 0, .int 0, .ref b6, .ref b7, .ref b8, .ref b9, .int 0, .int 0, .int 0, .long 0, .int 0, .int 0, .long 0, .long 0, .ref b10, .ref b11, .ref b12, .ref b13, .long 0, .int 0, .ref b14, .int 0, .int 0, .int 0, .int 0, .ref b15, .ref b16, .ref b17, .ref b18, .ref b19, .ref b20, .ref b21, .ref b22, .ref b23, .ref b24, .ref b25, .int 0, .int 0, .int 0, .int 0, .int 0, .int 0, .int 0, .long 0, .int 0, .ref b26, .ref b27, .long 0, .long 0, .int 0, .ref b28, .int 0, .ref b29, .ref b30, .ref b31, .ref b32, .int 0, .int 0, .int 0, .int 0, .ref b33, .ref b34, .int 0, .int 0, .ref b35]))] [] (fun sz => c181_X12_count l g pm (xs 1) b0 b1 b2 b3 b4 b5 b6 b7 b8 b9 b10 b11 b12 b13 b14 b15 b16 b17 b18 b19 b20 b21 b22 b23 b24 b25 b26 b27 b28 b29 b30 b31 b32 b33 b34 b35 sz) gQ_X12_count rfl ⟨rfl, rfl⟩ 1 (by decide) ⟨Nat.le_of_ble_eq_true rfl, Nat.le_of_ble_eq_true rfl⟩ 0 rfl rfl [0] [] rfl rfl (by decide) (by decide) (by decide) rfl rfl (Nat.le_of_ble_eq_true rfl) ⟨Nat.le_of_ble_eq_true rfl, Nat.le_of_ble_eq_true rfl⟩ (fun r13 _ w14 => ?_)
    refine r_ws [] rfl ?_
    rcases w14 with ⟨k15, k16, rfl⟩ | w14
    · skip
      exact absurd trivial (by omega)
    rcases w14 with ⟨k17, k18, rfl⟩ | w14
    · skip
      refine r_icmp_eq_t 540 545 C dL_law_540 (by decide) (by decide) ?_
      refine r_iinc 545 0 6 C dL_law_545 rfl (by decide) [(3, .int 6), (2, .ref pm), (1, .ref px), (0, .ref b)] (by decide) rfl ?_
      refine r_goto 548 18 C dL_law_548 (by decide) ?_
      refine r_iload_n 18 0 C dL_law_18 rfl ?_
      refine r_aload_n 19 3 C dL_law_19 rfl ?_
      refine r_slen 20 6 C hX hbl hbA dL_law_20 (by decide) ?_
      refine r_bipush 21 6 C dL_law_21 (by decide) ?_
      refine r_isub 23 0 C dL_law_23 (by decide) ?_
      refine r_icmp_gt_t 24 551 C dL_law_24 (by decide) (by decide) ?_
      refine r_iconst 551 1 C dL_law_551 (by decide) ?_
      exact r_lawret hx hb hr hlocks 552 dL_law_552 (Nat.le_of_ble_eq_true rfl) (Nat.le_of_ble_eq_true rfl)
    obtain ⟨k19, rfl⟩ := w14
    exact absurd trivial (by omega)
  obtain ⟨k20, k21, rfl⟩ := w2
  refine r_aload_n 531 1 C dL_law_531 rfl ?_
  refine r_aload_n 532 3 C dL_law_532 rfl ?_
  refine r_iload_n 533 0 C dL_law_533 rfl ?_
  refine r_iconst 534 1 C dL_law_534 (by decide) ?_
  refine r_iadd 535 1 C dL_law_535 (by decide) ?_
  refine r_sld 536 (xs 1) C hX hbl hbA dL_law_536 (vin (by decide)) rfl ?_
  refine r_callVi 537 C dL_law_537 [.int (-1)] [(pm, .inr (11, [.ref b0, .int 0, .ref b1, .int 0, .int 0, .int (-1), .ref b2, .ref b3, .ref b4, .ref b5, .int 0, .int 0, .int 0, .ref b6, .ref b7, .ref b8, .ref b9, .int 0, .int 0, .int 0, .long 0, .int 0, .int 0, .long 0, .long 0, .ref b10, .ref b11, .ref b12, .ref b13, .long 0, .int 0, .ref b14, .int 0, .int 0, .int 0, .int 0, .ref b15, .ref b16, .ref b17, .ref b18, .ref b19, .ref b20, .ref b21, .ref b22, .ref b23, .ref b24, .ref b25, .int 0, .int 0, .int 0, .int 0, .int 0, .int 0, .int 0, .long 0, .int 0, .ref b26, .ref b27, .long 0, .long 0, .int 0, .ref b28, .int 0, .ref b29, .ref b30, .ref b31, .ref b32, .int 0, .int 0, .int 0, .int 0, .ref b33, .ref b34, .int 0, .int 0, .ref b35]))] [] (fun sz => c181_X12_count l g pm (xs 1) b0 b1 b2 b3 b4 b5 b6 b7 b8 b9 b10 b11 b12 b13 b14 b15 b16 b17 b18 b19 b20 b21 b22 b23 b24 b25 b26 b27 b28 b29 b30 b31 b32 b33 b34 b35 sz) gQ_X12_count rfl ⟨rfl, rfl⟩ 1 (by decide) ⟨Nat.le_of_ble_eq_true rfl, Nat.le_of_ble_eq_true rfl⟩ 0 rfl rfl [0] [] rfl rfl (by decide) (by decide) (by decide) rfl rfl (Nat.le_of_ble_eq_true rfl) ⟨Nat.le_of_ble_eq_true rfl, Nat.le_of_ble_eq_true rfl⟩ (fun r22 _ w23 => ?_)
  refine r_ws [] rfl ?_
  rcases w23 with ⟨k24, k25, rfl⟩ | w23
  · skip
    refine r_icmp_eq_t 540 545 C dL_law_540 (by decide) (by decide) ?_
    refine r_iinc 545 0 6 C dL_law_545 rfl (by decide) [(3, .int 6), (2, .ref pm), (1, .ref px), (0, .ref b)] (by decide) rfl ?_
    refine r_goto 548 18 C dL_law_548 (by decide) ?_
    refine r_iload_n 18 0 C dL_law_18 rfl ?_
    refine r_aload_n 19 3 C dL_law_19 rfl ?_
    refine r_slen 20 6 C hX hbl hbA dL_law_20 (by decide) ?_
    refine r_bipush 21 6 C dL_law_21 (by decide) ?_
    refine r_isub 23 0 C dL_law_23 (by decide) ?_
    refine r_icmp_gt_t 24 551 C dL_law_24 (by decide) (by decide) ?_
    refine r_iconst 551 1 C dL_law_551 (by decide) ?_
    exact r_lawret hx hb hr hlocks 552 dL_law_552 (Nat.le_of_ble_eq_true rfl) (Nat.le_of_ble_eq_true rfl)
  rcases w23 with ⟨k26, k27, rfl⟩ | w23
  · skip
    refine r_icmp_eq_f 540 545 C dL_law_540 (by decide) (by decide) ?_
    refine r_iconst 543 0 C dL_law_543 (by decide) ?_
    exact absurd trivial (by omega)
  obtain ⟨k28, rfl⟩ := w23
  refine r_icmp_eq_f 540 545 C dL_law_540 (by decide) (by decide) ?_
  refine r_iconst 543 0 C dL_law_543 (by decide) ?_
  exact absurd trivial (by omega)
