section MORE
variable {p : Program} {l : Launch} {e : Env} {R : Room} {s : State} {m : MethodId} {args : Array Value} {below : List Frame} {meth : Method} {c : Code} {A : Nat → Prop} {Q : State → Prop} {g : GD} {nL cells slots : Nat} {ws : va_W} {lv : List (Nat × Value)} {st : List Value} {own : String} {cc : ByteArray} {Ts : List Cond}
def Rtq (p : Program) (l : Launch) (e : Env) (R : Room) (s : State) (m : MethodId) (args : Array Value) (below : List Frame) (meth : Method) (c : Code) (A : Nat → Prop) (Q : State → Prop) (g : GD) (cc : ByteArray) {S : Type} (post : Option Nat → S → Prop) (w1 : S → va_W) (mc ms : Nat) : Prop := ∀ (v : Option Nat) (u : S) (H : Heap) (locs : List Loc) (ls : Array Slot) (pc cells slots : Nat), decode cc pc = .ok (.areturn, 1) → post v u → va_P g.1 vwCl (w1 u) H → va_D A (w1 u) → va_S A s.heap H locs → cells ≤ mc → slots ≤ ms → W p l e R s m args below meth c H locs cells slots Q (F0 m pc ls [va_rf v])
theorem r_qret {S : Type} {post : Option Nat → S → Prop} {w1 : S → va_W} {mc ms : Nat} (pc : Nat) (v : Option Nat) (Rt : Rtq p l e R s m args below meth c A Q g cc post w1 mc ms) (hdg : decode cc pc = .ok (.areturn, 1)) (u : S) (hp : post v u) (is : List Nat) (hn : va_nd is = true) (hs : is.map (fun i => ws[i]?) = (w1 u).map some) (hc : cells ≤ mc) (hsl : slots ≤ ms) : WW p l e R s m args below meth c A Q g nL cells slots ws pc lv [va_rf v] := fun H locs ls hP hD hS hl => Rt v u H locs ls pc cells slots hdg hp (hP.sub is (fm_of_map hs)) (hD.sub is hn hs) hS hc hsl
theorem met_q {l : Launch} {g : GD} {y : MethodName} {wsm ws' : List Cond} {rm : Room} {cc : ByteArray} {nL : Nat} {S : Type} {post : Option Nat → S → Prop} {w1 : S → va_W} {mc ms : Nat} {WS : va_W} {sz : Nat} {av : List Value} {cn : String} (own : String) (hy : plainName y.cls = true) (ho : y.cls = own) (hw : wsm = Cond.code y cc nL (some (.object cn)) :: ws') (hle : (lg_sl av).length ≤ nL) (lv0 : List (Nat × Value)) (hlv : lv_args 0 av = lv0)
    (body : ∀ {p : Program} {e : Env} {s : State} {m : MethodId} {args : Array Value} {below : List Frame} {meth : Method} {c : Code} {A : Nat → Prop} {Q : State → Prop}, Cx g p s m args meth c A own cc nL wsm → meth.name = y.name → Rtq p l e rm s m args below meth c A Q g cc post w1 mc ms → WW p l e rm s m args below meth c A Q g nL 0 0 WS 0 lv0 []) :
    Met l y wsm rm (va_Pc av (PW g WS sz)) (va_Qq post (BW g (va_A WS sz) w1) (va_A WS sz)) mc ms (va_A WS sz) := by
  refine Met.ofW (cc := cc) (maxL := nL) (ret := some (.object cn)) hy hw ?_
  intro p e s m args below meth c s₁ B hml hv
  obtain ⟨rfl, hsz, hP, hD0, hK⟩ := hv
  subst hsz
  have hts := atoms_spec (ws := wsm) B.pre
  have hown : s.vm.findClass own = some m.cls := by rw [← ho]; exact findClass_of_methodNamed B.named
  have hlocks := B.notSynchronized
  have hl := lv_entry av (n := nL) hle
  rw [lg_entry_eq]
  exact body (A := va_A WS s.heap.size) ⟨B.exec, B.bytes, hml, hown, hts, hK, fun q h => Or.inr h, B.notSynchronized⟩ (name_of_methodNamed B.named B.method).1 (fun v u H locs ls pc cells slots hdg hp hP1 hD1 hS1 h1 h2 => W.widen h1 h2 (W.aret B.exec B.bytes B.returns (Or.inl ⟨_, rfl⟩) (va_rf_or v) (fun t ht hW => ⟨⟨v, u, rfl, hp, by rw [ht]; exact hP1, hD1⟩, hS1.F ht⟩) hS1.2.2 hdg)) s.heap [] _ hP hD0.self va_S.rf (hlv ▸ hl)
theorem r_callVq {S : Type} {post : Option Nat → S → Prop} {w1 : S → va_W} {y : MethodName} {wsy ws' : List Cond} {rm : Room} {mc ms maxL index : Nat} {bytes : ByteArray} {ret : Option FieldType} {Cn : String} {T : u_T} {N ci b : Nat} {fs : List Value} {As : List Value} {st0 : List Value} (pc : Nat) (C : Cx g p s m args meth c A own cc nL Ts) (hdg : decode cc pc = .ok (.invokevirtual index, 3)) (rest : List Value) (wc wr : va_W) (hM : ∀ sz : Nat, Met l y wsy rm (va_Pc (.ref b :: As) (PW g wc sz)) (va_Qq post (BW g (va_A wc sz) w1) (va_A wc sz)) mc ms (va_A wc sz)) (hG : GoodIn Ts (wsV own index Cn y wsy)) (hw : wsy = Cond.code y bytes maxL ret :: ws') (hrm : rm.cells = mc ∧ rm.slots = ms) (n : Nat) (hd : y.cls = Cn ∧ y.cls ≠ "java/lang/invoke/MethodHandle" ∧ y.cls ≠ "java/lang/invoke/VarHandle" ∧ (parseMethodDescriptor y.desc).map (fun d => d.parameters.length) = some n) (hR : rm.frames + 1 ≤ R.frames ∧ 8 + (maxL + 11) + rm.locals ≤ R.locals) (q0 : Nat) (he : ws[q0]? = some (b, .inr (ci, fs))) (hcl : vwCl[ci]? = some (Cn, T, N)) (isC isR : List Nat) (hC : isC.map (fun i => ws[i]?) = wc.map some) (hRr : isR.map (fun i => ws[i]?) = wr.map some) (hnC : va_nd isC = true) (hnR : va_nd isR = true) (hdis : ∀ i ∈ isR, i ∉ isC) (hst : st0 = As.reverse ++ .ref b :: rest) (hn : As.length = n) (hrest : (rest.map fun v => v.category).sum ≤ 8) (hf : cells + mc ≤ R.cells ∧ slots + ms ≤ R.slots)
    (kk : ∀ (r : Option Nat) (u : S), post r u → WW p l e R s m args below meth c A Q g nL (cells + mc) (slots + ms) (wr ++ w1 u) (pc + 3) lv (va_rf r :: rest)) : WW p l e R s m args below meth c A Q g nL cells slots ws pc lv st0 := fun H locs ls hP hD hS hl => by
  have hPc := hP.sub isC (fm_of_map hC)
  have hDc := hD.sub isC hnC hC
  have hFc := va_free (wc := wc) hD hS C.2.2.2.2.2.2.1 isC hC
  refine va_callq (va_runV (As := As) (rest := rest) ⟨C.1, C.2.1, C.2.2.1, C.2.2.2.1, C.2.2.2.2.1⟩ (hM H.size) (cwV n C.2.2.2.2.1 hG hw hrm.1 hrm.2 hd hR) ⟨PW.blind, va_recv C.2.2.2.2.2.1.1 hP hcl he, fun U hU hW => ⟨rfl, by rw [hU], by rw [hU]; exact hPc, hDc.weaken (fun _ _ _ _ => trivial), C.2.2.2.2.2.1.go hS hW hU hFc⟩⟩ rfl hn hl.1 hst (lv_room hrest) hdg hf) hS (fun q _ h => hFc q h) hFc (fun r u t H1 locs1 ht hvm hw hB hz1 hk1 hS1 => ?_)
  obtain ⟨hP1, hD1⟩ := hB
  rw [ht] at hP1
  obtain ⟨hP2, hD2⟩ := va_join hP hD isC isR hC hRr hnR hdis hk1 hFc hP1 hD1
  exact kk r u hw H1 locs1 ls hP2 hD2 hS1 hl
theorem r_scallVi {S : Type} {post : Int32 → S → Prop} {w1 : S → va_W} {y : MethodName} {wsy ws' : List Cond} {rm : Room} {mc ms maxL index : Nat} {bytes : ByteArray} {ret : Option FieldType} {As : List Value} {st0 : List Value} (pc : Nat) (C : Cx g p s m args meth c A own cc nL Ts) (hdg : decode cc pc = .ok (.invokevirtual index, 3)) (rest : List Value) (i : Nat) (hi : i < 11) (wc wr : va_W) (hM : ∀ sz : Nat, Met l y wsy rm (va_Pc (.ref (g.2.2.1 i) :: As) (PW g wc sz)) (va_Qi post (BW g (va_A wc sz) w1) (va_A wc sz)) mc ms (va_A wc sz)) (hG : GoodIn Ts (wsV own index "java/lang/String" y wsy)) (hw : wsy = Cond.code y bytes maxL ret :: ws') (hrm : rm.cells = mc ∧ rm.slots = ms) (n : Nat) (hd : y.cls = "java/lang/String" ∧ y.cls ≠ "java/lang/invoke/MethodHandle" ∧ y.cls ≠ "java/lang/invoke/VarHandle" ∧ (parseMethodDescriptor y.desc).map (fun d => d.parameters.length) = some n) (hR : rm.frames + 1 ≤ R.frames ∧ 8 + (maxL + 11) + rm.locals ≤ R.locals) (isC isR : List Nat) (hC : isC.map (fun j => ws[j]?) = wc.map some) (hRr : isR.map (fun j => ws[j]?) = wr.map some) (hnC : va_nd isC = true) (hnR : va_nd isR = true) (hdis : ∀ j ∈ isR, j ∉ isC) (hst : st0 = As.reverse ++ .ref (g.2.2.1 i) :: rest) (hn : As.length = n) (hrest : (rest.map fun v => v.category).sum ≤ 8) (hf : cells + mc ≤ R.cells ∧ slots + ms ≤ R.slots)
    (kk : ∀ (r : Int32) (u : S), post r u → WW p l e R s m args below meth c A Q g nL (cells + mc) (slots + ms) (wr ++ w1 u) (pc + 3) lv (.int r :: rest)) : WW p l e R s m args below meth c A Q g nL cells slots ws pc lv st0 := fun H locs ls hP hD hS hl => by
  have hPc := hP.sub isC (fm_of_map hC)
  have hDc := hD.sub isC hnC hC
  have hFc := va_free (wc := wc) hD hS C.2.2.2.2.2.2.1 isC hC
  refine va_calli (va_runV (As := As) (rest := rest) ⟨C.1, C.2.1, C.2.2.1, C.2.2.2.1, C.2.2.2.2.1⟩ (hM H.size) (cwV n C.2.2.2.2.1 hG hw hrm.1 hrm.2 hd hR) ⟨PW.blind, vk_recv C.2.2.2.2.2.1.2.2.1 hi hS, fun U hU hW => ⟨rfl, by rw [hU], by rw [hU]; exact hPc, hDc.weaken (fun _ _ _ _ => trivial), C.2.2.2.2.2.1.go hS hW hU hFc⟩⟩ rfl hn hl.1 hst (lv_room hrest) hdg hf) hS (fun q _ h => hFc q h) hFc (fun r u t H1 locs1 ht hvm hw hB hz1 hk1 hS1 => ?_)
  obtain ⟨hP1, hD1⟩ := hB
  rw [ht] at hP1
  obtain ⟨hP2, hD2⟩ := va_join hP hD isC isR hC hRr hnR hdis hk1 hFc hP1 hD1
  exact kk r u hw H1 locs1 ls hP2 hD2 hS1 hl
theorem r_sget (pc : Nat) {index : Nat} {nm ds : String} {v : Value} (i : Nat) (C : Cx g p s m args meth c A own cc nL Ts) (hdg : decode cc pc = .ok (.getfield index, 3)) (hE : va_OF "java/lang/String" nm ds v (g.2.2.1 i) A s s.heap) (hlink : Cond.fieldLink own index "java/lang/String" nm ds ∈ Ts) (kk : WW p l e R s m args below meth c A Q g nL cells slots ws (pc + 3) lv (v :: st)) : WW p l e R s m args below meth c A Q g nL cells slots ws pc lv (.ref (g.2.2.1 i) :: st) := fun H locs ls hP hD hS hl => vk_getf C.1 C.2.1 hE hS C.2.2.2.1 (C.2.2.2.2.1 _ hlink) (fun _ h => h) hdg (kk H locs ls hP hD hS hl)
theorem r_stlen (pc : Nat) {ty : FieldType} {t N : Nat} {f : Nat → Value} (v : Int32) (C : Cx g p s m args meth c A own cc nL Ts) (hdg : decode cc pc = .ok (.arraylength, 1)) (hT : va_T ty t N f A s s.heap) (hv : Int32.ofNat N = v) (kk : WW p l e R s m args below meth c A Q g nL cells slots ws (pc + 1) lv (.int v :: st)) : WW p l e R s m args below meth c A Q g nL cells slots ws pc lv (.ref t :: st) := fun H locs ls hP hD hS hl => va_tlen C.1 C.2.1 hT hS hv hdg (kk H locs ls hP hD hS hl)
theorem r_gets (pc : Nat) {index : Nat} {Cn n d : String} {v : Value} (C : Cx g p s m args meth c A own cc nL Ts) (hdg : decode cc pc = .ok (.getstatic index, 3)) (hZ : va_Z Cn n d v A s s.heap) (hlink : Cond.fieldLink own index Cn n d ∈ Ts) (kk : WW p l e R s m args below meth c A Q g nL cells slots ws (pc + 3) lv (v :: st)) : WW p l e R s m args below meth c A Q g nL cells slots ws pc lv st := fun H locs ls hP hD hS hl => va_gets C.1 C.2.1 hZ hS C.2.2.2.1 (C.2.2.2.2.1 _ hlink) (fun _ h => h) hdg (kk H locs ls hP hD hS hl)
theorem r_sld (pc : Nat) {b L : Nat} {xs : Nat → Int32} {i : Int32} (v : Int32) (C : Cx g p s m args meth c A own cc nL Ts) (hX : va_X b L xs s s.heap) (hbl : b < s.heap.size) (hbA : ¬ A b) (hdg : decode cc pc = .ok (.iaload, 1)) (hin : vp_in i L) (hv : xs i.toNatClampNeg = v) (kk : WW p l e R s m args below meth c A Q g nL cells slots ws (pc + 1) lv (.int v :: st)) : WW p l e R s m args below meth c A Q g nL cells slots ws pc lv (.int i :: .ref b :: st) := fun H locs ls hP hD hS hl => va_sld C.1 C.2.1 hX hbl hbA hS hin hdg (hv ▸ kk H locs ls hP hD hS hl)
theorem r_slen (pc : Nat) {b L : Nat} {xs : Nat → Int32} (v : Int32) (C : Cx g p s m args meth c A own cc nL Ts) (hX : va_X b L xs s s.heap) (hbl : b < s.heap.size) (hbA : ¬ A b) (hdg : decode cc pc = .ok (.arraylength, 1)) (hv : Int32.ofNat L = v) (kk : WW p l e R s m args below meth c A Q g nL cells slots ws (pc + 1) lv (.int v :: st)) : WW p l e R s m args below meth c A Q g nL cells slots ws pc lv (.ref b :: st) := fun H locs ls hP hD hS hl => va_slen C.1 C.2.1 hX hbl hbA hS hdg (hv ▸ kk H locs ls hP hD hS hl)
end MORE
theorem dJ0_length_8abf5_0 : decode cJ0_length_8abf5 0 = .ok (.aload_n 0, 1) := by decide +kernel
theorem dJ0_length_8abf5_1 : decode cJ0_length_8abf5 1 = .ok (.getfield 9, 3) := by decide +kernel
theorem dJ0_length_8abf5_4 : decode cJ0_length_8abf5 4 = .ok (.arraylength, 1) := by decide +kernel
theorem dJ0_length_8abf5_5 : decode cJ0_length_8abf5 5 = .ok (.aload_n 0, 1) := by decide +kernel
theorem dJ0_length_8abf5_6 : decode cJ0_length_8abf5 6 = .ok (.invokevirtual 335, 3) := by decide +kernel
theorem dJ0_length_8abf5_9 : decode cJ0_length_8abf5 9 = .ok (.ishr, 1) := by decide +kernel
theorem dJ0_length_8abf5_10 : decode cJ0_length_8abf5 10 = .ok (.ireturn, 1) := by decide +kernel
theorem dJ0_coder_7d493_0 : decode cJ0_coder_7d493 0 = .ok (.getstatic 38, 3) := by decide +kernel
theorem dJ0_coder_7d493_3 : decode cJ0_coder_7d493 3 = .ok (.ifCond .eq 10, 3) := by decide +kernel
theorem dJ0_coder_7d493_6 : decode cJ0_coder_7d493 6 = .ok (.aload_n 0, 1) := by decide +kernel
theorem dJ0_coder_7d493_7 : decode cJ0_coder_7d493 7 = .ok (.getfield 15, 3) := by decide +kernel
theorem dJ0_coder_7d493_10 : decode cJ0_coder_7d493 10 = .ok (.goto 4, 3) := by decide +kernel
theorem dJ0_coder_7d493_13 : decode cJ0_coder_7d493 13 = .ok (.iconst 1, 1) := by decide +kernel
theorem dJ0_coder_7d493_14 : decode cJ0_coder_7d493 14 = .ok (.ireturn, 1) := by decide +kernel
set_option maxRecDepth 20000 in
theorem ggJ0_length_8abf5_J0_coder_7d493 : GoodIn wsJ0_length_8abf5 wsJ0_coder_7d493 := goodIn_r _ [6, 7, 8] (by decide +kernel) (by decide +kernel)
set_option maxRecDepth 20000 in
theorem gJ0_length_8abf5_J0_coder_7d493 : GoodIn wsJ0_length_8abf5 (wsV RJ0 335 RJ0 yJ0_coder_7d493 wsJ0_coder_7d493) := goodIn_app (goodIn_of _ (by decide +kernel)) ggJ0_length_8abf5_J0_coder_7d493
set_option maxHeartbeats 4000000 in
set_option maxRecDepth 100000 in
/-- String.coder() of a constant: 0 -/
theorem cs_coder (l : Launch) (g : GD) (i : Nat) (hi : i < 11) (sz : Nat) : Met l yJ0_coder_7d493 wsJ0_coder_7d493 ({ frames := 0, cells := 0, slots := 0, locals := 0 }) (va_Pc [.ref (g.2.2.1 i)] (PW g [] sz)) (va_Qi (fun (r : Int32) (_ : Unit) => r = 0) (BW g (va_A [] sz) (fun _ : Unit => [])) (va_A [] sz)) 0 0 (va_A [] sz) := by
  refine met_b RJ0 (by decide) rfl rfl (Nat.le_of_ble_eq_true rfl) [(0, .ref (g.2.2.1 i))] rfl ?_
  intro p e s m args below meth c A Q C hnm Rt
  refine r_gets 0 C dJ0_coder_7d493_0 C.2.2.2.2.2.1.2.2.2.2 (mg 1 rfl) ?_
  refine r_if_eq_f 3 13 C dJ0_coder_7d493_3 (by decide) (by decide) ?_
  refine r_aload_n 6 0 C dJ0_coder_7d493_6 rfl ?_
  refine r_sget 7 i C dJ0_coder_7d493_7 ((C.2.2.2.2.2.1.2.2.1.1 i hi).2.1) (mg 2 rfl) ?_
  refine r_goto 10 14 C dJ0_coder_7d493_10 (by decide) ?_
  exact r_bret 14 Rt dJ0_coder_7d493_14 (by decide) () rfl [] (by decide) rfl (Nat.le_of_ble_eq_true rfl) (Nat.le_of_ble_eq_true rfl)
set_option maxHeartbeats 4000000 in
set_option maxRecDepth 100000 in
/-- String.length() of a constant -/
theorem cs_length (l : Launch) (g : GD) (i : Nat) (hi : i < 11) (sz : Nat) : Met l yJ0_length_8abf5 wsJ0_length_8abf5 ({ frames := 1, cells := 0, slots := 0, locals := 20 }) (va_Pc [.ref (g.2.2.1 i)] (PW g [] sz)) (va_Qi (fun (r : Int32) (_ : Unit) => r = Int32.ofNat (stN.getD i 0)) (BW g (va_A [] sz) (fun _ : Unit => [])) (va_A [] sz)) 0 0 (va_A [] sz) := by
  refine met_i RJ0 (by decide) rfl rfl (Nat.le_of_ble_eq_true rfl) [(0, .ref (g.2.2.1 i))] rfl ?_
  intro p e s m args below meth c A Q C hnm Rt
  refine r_aload_n 0 0 C dJ0_length_8abf5_0 rfl ?_
  refine r_sget 1 i C dJ0_length_8abf5_1 ((C.2.2.2.2.2.1.2.2.1.1 i hi).2.2.1) (mg 1 rfl) ?_
  refine r_stlen 4 (Int32.ofNat (stN.getD i 0)) C dJ0_length_8abf5_4 ((C.2.2.2.2.2.1.2.2.1.1 i hi).2.2.2) rfl ?_
  refine r_aload_n 5 0 C dJ0_length_8abf5_5 rfl ?_
  refine r_scallVi 6 C dJ0_length_8abf5_6 [.int (Int32.ofNat (stN.getD i 0))] i hi [] [] (fun sz => cs_coder l g i hi sz) gJ0_length_8abf5_J0_coder_7d493 rfl ⟨rfl, rfl⟩ 0 (by decide) ⟨Nat.le_of_ble_eq_true rfl, Nat.le_of_ble_eq_true rfl⟩ [] [] rfl rfl (by decide) (by decide) (by decide) rfl rfl (Nat.le_of_ble_eq_true rfl) ⟨Nat.le_of_ble_eq_true rfl, Nat.le_of_ble_eq_true rfl⟩ (fun r1 _ w1 => ?_)
  refine r_ws [] rfl ?_
  have w1 : r1 = 0 := w1
  subst w1
  refine r_ishr 9 (Int32.ofNat (stN.getD i 0)) C dJ0_length_8abf5_9 (sb_shr0 _) ?_
  exact r_iret 10 Rt dJ0_length_8abf5_10 () rfl [] (by decide) rfl (Nat.le_of_ble_eq_true rfl) (Nat.le_of_ble_eq_true rfl)
