section MORE
variable {p : Program} {l : Launch} {e : Env} {R : Room} {s : State} {m : MethodId} {args : Array Value} {below : List Frame} {meth : Method} {c : Code} {A : Nat → Prop} {Q : State → Prop} {g : GD} {nL cells slots : Nat} {ws : va_W} {lv : List (Nat × Value)} {st : List Value} {own : String} {cc : ByteArray} {Ts : List Cond}
def Rtq (p : Program) (l : Launch) (e : Env) (R : Room) (s : State) (m : MethodId) (args : Array Value) (below : List Frame) (meth : Method) (c : Code) (A : Nat → Prop) (Q : State → Prop) (g : GD) (cc : ByteArray) {S : Type} (post : Option Nat → S → Prop) (w1 : S → va_W) (mc ms : Nat) : Prop := ∀ (v : Option Nat) (u : S) (H : Heap) (locs : List Loc) (ls : Array Slot) (pc cells slots : Nat), decode cc pc = .ok (.areturn, 1) → post v u → va_P g.1 vwCl (w1 u) H → va_D A (w1 u) → va_S A s.heap H locs → cells ≤ mc → slots ≤ ms → W p l e R s m args below meth c H locs cells slots Q (F0 m pc ls [va_rf v])
theorem r_qret {S : Type} {post : Option Nat → S → Prop} {w1 : S → va_W} {mc ms : Nat} (pc : Nat) (v : Option Nat) (Rt : Rtq p l e R s m args below meth c A Q g cc post w1 mc ms) (hdg : decode cc pc = .ok (.areturn, 1)) (u : S) (hp : post v u) (is : List Nat) (hn : va_nd is = true) (hs : is.map (fun i => ws[i]?) = (w1 u).map some) (hc : cells ≤ mc) (hsl : slots ≤ ms) : WW p l e R s m args below meth c A Q g nL cells slots ws pc lv [va_rf v] := fun H locs ls hP hD hS hl => Rt v u H locs ls pc cells slots hdg hp (hP.sub is (fm_of_map hs)) (hD.sub is hn hs) hS hc hsl
theorem met_q {l : Launch} {g : GD} {y : MethodName} {wsm ws' : List Cond} {rm : Room} {cc : ByteArray} {nL : Nat} {S : Type} {post : Option Nat → S → Prop} {w1 : S → va_W} {mc ms : Nat} {WS : va_W} {sz : Nat} {av : List Value} {cn : String} (own : String) (hy : plainName y.cls = true) (ho : y.cls = own) (hw : wsm = Cond.code y cc nL (some (.object cn)) :: ws') (hle : (lg_sl av).length ≤ nL) (lv0 : List (Nat × Value)) (hlv : lv_args 0 av = lv0)
    (body : ∀ {p : Program} {e : Env} {s : State} {m : MethodId} {args : Array Value} {below : List Frame} {meth : Method} {c : Code} {A : Nat → Prop} {Q : State → Prop}, Cx g p s m args meth c A own cc nL wsm → meth.name = y.name → Rtq p l e rm s m args below meth c A Q g cc post w1 mc ms → WW p l e rm s m args below meth c A Q g nL 0 0 WS 0 lv0 []) :
    Met l y wsm rm (va_Pc av (PW g WS sz)) (va_Qq post (BW g (va_A WS sz) w1) (va_A WS sz)) mc ms (va_A WS sz) := by
  refine Met.ofW (cc := cc) (maxL := nL) (ret := some (.object cn)) hy hw ?_
  intro p e s m args below meth c s₁ B hml hv
  obtain ⟨rfl, hsz, hP, hD0, hK⟩ := hv
  subst hsz
  have hts := atoms_spec (ws := wsm) B.pre
  have hown : s.vm.findClass own = some m.cls := by rw [← ho]; exact findClass_of_methodNamed B.named
  have hlocks := B.notSynchronized
  have hl := lv_entry av (n := nL) hle
  rw [lg_entry_eq]
  exact body (A := va_A WS s.heap.size) ⟨B.exec, B.bytes, hml, hown, hts, hK, fun q h => Or.inr h, B.notSynchronized⟩ (name_of_methodNamed B.named B.method).1 (fun v u H locs ls pc cells slots hdg hp hP1 hD1 hS1 h1 h2 => W.widen h1 h2 (W.aret B.exec B.bytes B.returns (Or.inl ⟨_, rfl⟩) (va_rf_or v) (fun t ht hW => ⟨⟨v, u, rfl, hp, by rw [ht]; exact hP1, hD1⟩, hS1.F ht⟩) hS1.2.2 hdg)) s.heap [] _ hP hD0.self va_S.rf (hlv ▸ hl)
theorem r_callVq {S : Type} {post : Option Nat → S → Prop} {w1 : S → va_W} {y : MethodName} {wsy ws' : List Cond} {rm : Room} {mc ms maxL index : Nat} {bytes : ByteArray} {ret : Option FieldType} {Cn : String} {T : u_T} {N ci b : Nat} {fs : List Value} {As : List Value} {st0 : List Value} (pc : Nat) (C : Cx g p s m args meth c A own cc nL Ts) (hdg : decode cc pc = .ok (.invokevirtual index, 3)) (rest : List Value) (wc wr : va_W) (hM : ∀ sz : Nat, Met l y wsy rm (va_Pc (.ref b :: As) (PW g wc sz)) (va_Qq post (BW g (va_A wc sz) w1) (va_A wc sz)) mc ms (va_A wc sz)) (hG : GoodIn Ts (wsV own index Cn y wsy)) (hw : wsy = Cond.code y bytes maxL ret :: ws') (hrm : rm.cells = mc ∧ rm.slots = ms) (n : Nat) (hd : y.cls = Cn ∧ y.cls ≠ "java/lang/invoke/MethodHandle" ∧ y.cls ≠ "java/lang/invoke/VarHandle" ∧ (parseMethodDescriptor y.desc).map (fun d => d.parameters.length) = some n) (hR : rm.frames + 1 ≤ R.frames ∧ 8 + (maxL + 11) + rm.locals ≤ R.locals) (q0 : Nat) (he : ws[q0]? = some (b, .inr (ci, fs))) (hcl : vwCl[ci]? = some (Cn, T, N)) (isC isR : List Nat) (hC : isC.map (fun i => ws[i]?) = wc.map some) (hRr : isR.map (fun i => ws[i]?) = wr.map some) (hnC : va_nd isC = true) (hnR : va_nd isR = true) (hdis : ∀ i ∈ isR, i ∉ isC) (hst : st0 = As.reverse ++ .ref b :: rest) (hn : As.length = n) (hrest : (rest.map fun v => v.category).sum ≤ 8) (hf : cells + mc ≤ R.cells ∧ slots + ms ≤ R.slots)
    (kk : ∀ (r : Option Nat) (u : S), post r u → WW p l e R s m args below meth c A Q g nL (cells + mc) (slots + ms) (wr ++ w1 u) (pc + 3) lv (va_rf r :: rest)) : WW p l e R s m args below meth c A Q g nL cells slots ws pc lv st0 := fun H locs ls hP hD hS hl => by
  have hPc := hP.sub isC (fm_of_map hC)
  have hDc := hD.sub isC hnC hC
  have hFc := va_free (wc := wc) hD hS C.2.2.2.2.2.2.1 isC hC
  refine va_callq (va_runV (As := As) (rest := rest) ⟨C.1, C.2.1, C.2.2.1, C.2.2.2.1, C.2.2.2.2.1⟩ (hM H.size) (cwV n C.2.2.2.2.1 hG hw hrm.1 hrm.2 hd hR) ⟨PW.blind, va_recv C.2.2.2.2.2.1.1 hP hcl he, fun U hU hW => ⟨rfl, by rw [hU], by rw [hU]; exact hPc, hDc.weaken (fun _ _ _ _ => trivial), C.2.2.2.2.2.1.go hS hW hU hFc⟩⟩ rfl hn hl.1 hst (lv_room hrest) hdg hf) hS (fun q _ h => hFc q h) hFc (fun r u t H1 locs1 ht hvm hw hB hz1 hk1 hS1 => ?_)
  obtain ⟨hP1, hD1⟩ := hB
  rw [ht] at hP1
  obtain ⟨hP2, hD2⟩ := va_join hP hD isC isR hC hRr hnR hdis hk1 hFc hP1 hD1
  exact kk r u hw H1 locs1 ls hP2 hD2 hS1 hl
theorem r_scallVi {S : Type} {post : Int32 → S → Prop} {w1 : S → va_W} {y : MethodName} {wsy ws' : List Cond} {rm : Room} {mc ms maxL index : Nat} {bytes : ByteArray} {ret : Option FieldType} {As : List Value} {st0 : List Value} (pc : Nat) (C : Cx g p s m args meth c A own cc nL Ts) (hdg : decode cc pc = .ok (.invokevirtual index, 3)) (rest : List Value) (i : Nat) (hi : i < 11) (wc wr : va_W) (hM : ∀ sz : Nat, Met l y wsy rm (va_Pc (.ref (g.2.2.1 i) :: As) (PW g wc sz)) (va_Qi post (BW g (va_A wc sz) w1) (va_A wc sz)) mc ms (va_A wc sz)) (hG : GoodIn Ts (wsV own index "java/lang/String" y wsy)) (hw : wsy = Cond.code y bytes maxL ret :: ws') (hrm : rm.cells = mc ∧ rm.slots = ms) (n : Nat) (hd : y.cls = "java/lang/String" ∧ y.cls ≠ "java/lang/invoke/MethodHandle" ∧ y.cls ≠ "java/lang/invoke/VarHandle" ∧ (parseMethodDescriptor y.desc).map (fun d => d.parameters.length) = some n) (hR : rm.frames + 1 ≤ R.frames ∧ 8 + (maxL + 11) + rm.locals ≤ R.locals) (isC isR : List Nat) (hC : isC.map (fun j => ws[j]?) = wc.map some) (hRr : isR.map (fun j => ws[j]?) = wr.map some) (hnC : va_nd isC = true) (hnR : va_nd isR = true) (hdis : ∀ j ∈ isR, j ∉ isC) (hst : st0 = As.reverse ++ .ref (g.2.2.1 i) :: rest) (hn : As.length = n) (hrest : (rest.map fun v => v.category).sum ≤ 8) (hf : cells + mc ≤ R.cells ∧ slots + ms ≤ R.slots)
    (kk : ∀ (r : Int32) (u : S), post r u → WW p l e R s m args below meth c A Q g nL (cells + mc) (slots + ms) (wr ++ w1 u) (pc + 3) lv (.int r :: rest)) : WW p l e R s m args below meth c A Q g nL cells slots ws pc lv st0 := fun H locs ls hP hD hS hl => by
  have hPc := hP.sub isC (fm_of_map hC)
  have hDc := hD.sub isC hnC hC
  have hFc := va_free (wc := wc) hD hS C.2.2.2.2.2.2.1 isC hC
  refine va_calli (va_runV (As := As) (rest := rest) ⟨C.1, C.2.1, C.2.2.1, C.2.2.2.1, C.2.2.2.2.1⟩ (hM H.size) (cwV n C.2.2.2.2.1 hG hw hrm.1 hrm.2 hd hR) ⟨PW.blind, vk_recv C.2.2.2.2.2.1.2.2.1 hi hS, fun U hU hW => ⟨rfl, by rw [hU], by rw [hU]; exact hPc, hDc.weaken (fun _ _ _ _ => trivial), C.2.2.2.2.2.1.go hS hW hU hFc⟩⟩ rfl hn hl.1 hst (lv_room hrest) hdg hf) hS (fun q _ h => hFc q h) hFc (fun r u t H1 locs1 ht hvm hw hB hz1 hk1 hS1 => ?_)
  obtain ⟨hP1, hD1⟩ := hB
  rw [ht] at hP1
  obtain ⟨hP2, hD2⟩ := va_join hP hD isC isR hC hRr hnR hdis hk1 hFc hP1 hD1
  exact kk r u hw H1 locs1 ls hP2 hD2 hS1 hl
theorem r_sget (pc : Nat) {index : Nat} {nm ds : String} {v : Value} (i : Nat) (C : Cx g p s m args meth c A own cc nL Ts) (hdg : decode cc pc = .ok (.getfield index, 3)) (hE : va_OF "java/lang/String" nm ds v (g.2.2.1 i) A s s.heap) (hlink : Cond.fieldLink own index "java/lang/String" nm ds ∈ Ts) (kk : WW p l e R s m args below meth c A Q g nL cells slots ws (pc + 3) lv (v :: st)) : WW p l e R s m args below meth c A Q g nL cells slots ws pc lv (.ref (g.2.2.1 i) :: st) := fun H locs ls hP hD hS hl => vk_getf C.1 C.2.1 hE hS C.2.2.2.1 (C.2.2.2.2.1 _ hlink) (fun _ h => h) hdg (kk H locs ls hP hD hS hl)
theorem r_stlen (pc : Nat) {ty : FieldType} {t N : Nat} {f : Nat → Value} (v : Int32) (C : Cx g p s m args meth c A own cc nL Ts) (hdg : decode cc pc = .ok (.arraylength, 1)) (hT : va_T ty t N f A s s.heap) (hv : Int32.ofNat N = v) (kk : WW p l e R s m args below meth c A Q g nL cells slots ws (pc + 1) lv (.int v :: st)) : WW p l e R s m args below meth c A Q g nL cells slots ws pc lv (.ref t :: st) := fun H locs ls hP hD hS hl => va_tlen C.1 C.2.1 hT hS hv hdg (kk H locs ls hP hD hS hl)
theorem r_gets (pc : Nat) {index : Nat} {Cn n d : String} {v : Value} (C : Cx g p s m args meth c A own cc nL Ts) (hdg : decode cc pc = .ok (.getstatic index, 3)) (hZ : va_Z Cn n d v A s s.heap) (hlink : Cond.fieldLink own index Cn n d ∈ Ts) (kk : WW p l e R s m args below meth c A Q g nL cells slots ws (pc + 3) lv (v :: st)) : WW p l e R s m args below meth c A Q g nL cells slots ws pc lv st := fun H locs ls hP hD hS hl => va_gets C.1 C.2.1 hZ hS C.2.2.2.1 (C.2.2.2.2.1 _ hlink) (fun _ h => h) hdg (kk H locs ls hP hD hS hl)
theorem r_sld (pc : Nat) {b L : Nat} {xs : Nat → Int32} {i : Int32} (v : Int32) (C : Cx g p s m args meth c A own cc nL Ts) (hX : va_X b L xs s s.heap) (hbl : b < s.heap.size) (hbA : ¬ A b) (hdg : decode cc pc = .ok (.iaload, 1)) (hin : vp_in i L) (hv : xs i.toNatClampNeg = v) (kk : WW p l e R s m args below meth c A Q g nL cells slots ws (pc + 1) lv (.int v :: st)) : WW p l e R s m args below meth c A Q g nL cells slots ws pc lv (.int i :: .ref b :: st) := fun H locs ls hP hD hS hl => va_sld C.1 C.2.1 hX hbl hbA hS hin hdg (hv ▸ kk H locs ls hP hD hS hl)
theorem r_slen (pc : Nat) {b L : Nat} {xs : Nat → Int32} (v : Int32) (C : Cx g p s m args meth c A own cc nL Ts) (hX : va_X b L xs s s.heap) (hbl : b < s.heap.size) (hbA : ¬ A b) (hdg : decode cc pc = .ok (.arraylength, 1)) (hv : Int32.ofNat L = v) (kk : WW p l e R s m args below meth c A Q g nL cells slots ws (pc + 1) lv (.int v :: st)) : WW p l e R s m args below meth c A Q g nL cells slots ws pc lv (.ref b :: st) := fun H locs ls hP hD hS hl => va_slen C.1 C.2.1 hX hbl hbA hS hdg (hv ▸ kk H locs ls hP hD hS hl)
theorem r_i2c (pc : Nat) {a : Int32} (v : Int32) (C : Cx g p s m args meth c A own cc nL Ts) (hdg : decode cc pc = .ok (.i2c, 1)) (hv : (a.toUInt32 % 65536).toInt32 = v) (kk : WW p l e R s m args below meth c A Q g nL cells slots ws (pc + 1) lv (.int v :: st)) : WW p l e R s m args below meth c A Q g nL cells slots ws pc lv (.int a :: st) := fun H locs ls hP hD hS hl => lv_i2c C.1 C.2.1 hdg hv (kk H locs ls hP hD hS hl)
theorem r_stb (pc : Nat) {t N : Nat} {f : Nat → Value} {i : Int32} (v : Value) (C : Cx g p s m args meth c A own cc nL Ts) (hdg : decode cc pc = .ok (.baload, 1)) (hT : va_T .byte t N f A s s.heap) (hin : vp_in i N) (hv : f i.toNatClampNeg = v) (kk : WW p l e R s m args below meth c A Q g nL cells slots ws (pc + 1) lv (v :: st)) : WW p l e R s m args below meth c A Q g nL cells slots ws pc lv (.int i :: .ref t :: st) := fun H locs ls hP hD hS hl => va_tb C.1 C.2.1 hT hS hin hv hdg (kk H locs ls hP hD hS hl)
theorem r_getsq (pc : Nat) {index : Nat} {Cn n d : String} (C : Cx g p s m args meth c A own cc nL Ts) (hdg : decode cc pc = .ok (.getstatic index, 3)) (hZ : va_Zq Cn n d A s s.heap) (hlink : Cond.fieldLink own index Cn n d ∈ Ts) (kk : ∀ q : Value, WW p l e R s m args below meth c A Q g nL cells slots ws (pc + 3) lv (q :: st)) : WW p l e R s m args below meth c A Q g nL cells slots ws pc lv st := fun H locs ls hP hD hS hl => hZ.elim (fun h => va_gets C.1 C.2.1 h hS C.2.2.2.1 (C.2.2.2.2.1 _ hlink) (fun _ h => h) hdg (kk _ H locs ls hP hD hS hl)) (fun ⟨t, h⟩ => va_gets C.1 C.2.1 h hS C.2.2.2.1 (C.2.2.2.2.1 _ hlink) (fun _ h => h) hdg (kk _ H locs ls hP hD hS hl))
theorem r_callUi {S : Type} {post : Int32 → S → Prop} {w1 : S → va_W} {y x : MethodName} {owner : String} {wsy ws' : List Cond} {rm : Room} {mc ms maxL index : Nat} {bytes : ByteArray} {ret : Option FieldType} {Cn : String} {T : u_T} {N ci b : Nat} {fs : List Value} {As : List Value} {st0 : List Value} (pc : Nat) (C : Cx g p s m args meth c A own cc nL Ts) (hdg : decode cc pc = .ok (.invokevirtual index, 3)) (rest : List Value) (wc wr : va_W) (hM : ∀ sz : Nat, Met l y wsy rm (va_Pc (.ref b :: As) (PW g wc sz)) (va_Qi post (BW g (va_A wc sz) w1) (va_A wc sz)) mc ms (va_A wc sz)) (hG : GoodIn Ts (va_wsU own index Cn owner x y wsy)) (hw : wsy = Cond.code y bytes maxL ret :: ws') (hrm : rm.cells = mc ∧ rm.slots = ms) (n : Nat) (hyx : y = ⟨owner, x.name, x.desc⟩) (hd : owner ≠ "java/lang/invoke/MethodHandle" ∧ owner ≠ "java/lang/invoke/VarHandle" ∧ (parseMethodDescriptor x.desc).map (fun d => d.parameters.length) = some n) (hR : rm.frames + 1 ≤ R.frames ∧ 8 + (maxL + 11) + rm.locals ≤ R.locals) (q0 : Nat) (he : ws[q0]? = some (b, .inr (ci, fs))) (hcl : vwCl[ci]? = some (Cn, T, N)) (isC isR : List Nat) (hC : isC.map (fun i => ws[i]?) = wc.map some) (hRr : isR.map (fun i => ws[i]?) = wr.map some) (hnC : va_nd isC = true) (hnR : va_nd isR = true) (hdis : ∀ i ∈ isR, i ∉ isC) (hst : st0 = As.reverse ++ .ref b :: rest) (hn : As.length = n) (hrest : (rest.map fun v => v.category).sum ≤ 8) (hf : cells + mc ≤ R.cells ∧ slots + ms ≤ R.slots)
    (kk : ∀ (r : Int32) (u : S), post r u → WW p l e R s m args below meth c A Q g nL (cells + mc) (slots + ms) (wr ++ w1 u) (pc + 3) lv (.int r :: rest)) : WW p l e R s m args below meth c A Q g nL cells slots ws pc lv st0 := fun H locs ls hP hD hS hl => by
  have hPc := hP.sub isC (fm_of_map hC)
  have hDc := hD.sub isC hnC hC
  have hFc := va_free (wc := wc) hD hS C.2.2.2.2.2.2.1 isC hC
  refine va_calli (va_runU (As := As) (rest := rest) ⟨C.1, C.2.1, C.2.2.1, C.2.2.2.1, C.2.2.2.2.1⟩ (hM H.size) (va_cwU n C.2.2.2.2.1 hG hw hrm.1 hrm.2 hyx hd hR) ⟨PW.blind, va_recv C.2.2.2.2.2.1.1 hP hcl he, fun U hU hW => ⟨rfl, by rw [hU], by rw [hU]; exact hPc, hDc.weaken (fun _ _ _ _ => trivial), C.2.2.2.2.2.1.go hS hW hU hFc⟩⟩ rfl hn hl.1 hst (lv_room hrest) hdg hf) hS (fun q _ h => hFc q h) hFc (fun r u t H1 locs1 ht hvm hw hB hz1 hk1 hS1 => ?_)
  obtain ⟨hP1, hD1⟩ := hB
  rw [ht] at hP1
  obtain ⟨hP2, hD2⟩ := va_join hP hD isC isR hC hRr hnR hdis hk1 hFc hP1 hD1
  exact kk r u hw H1 locs1 ls hP2 hD2 hS1 hl
theorem r_callAi {S : Type} {post : Int32 → S → Prop} {w1 : S → va_W} {y x : MethodName} {owner : String} {wsy ws' : List Cond} {rm : Room} {mc ms maxL index : Nat} {bytes : ByteArray} {ret : Option FieldType} {Cn : String} {T : u_T} {N ci b : Nat} {fs : List Value} {As : List Value} {st0 : List Value} (pc : Nat) (C : Cx g p s m args meth c A own cc nL Ts) (hdg : decode cc pc = .ok (.invokevirtual index, 3)) (rest : List Value) (wc wr : va_W) (hM : ∀ sz : Nat, Met l y wsy rm (va_Pc (.ref b :: As) (PW g wc sz)) (va_Qi post (BW g (va_A wc sz) w1) (va_A wc sz)) mc ms (va_A wc sz)) (hG : GoodIn Ts (va_wsU own index Cn owner x y wsy)) (hw : wsy = Cond.code y bytes maxL ret :: ws') (hrm : rm.cells = mc ∧ rm.slots = ms) (n : Nat) (hz : Cond.declares ⟨owner, x.name, x.desc⟩ ∈ nwL) (hd : owner ≠ "java/lang/invoke/MethodHandle" ∧ owner ≠ "java/lang/invoke/VarHandle" ∧ (parseMethodDescriptor x.desc).map (fun d => d.parameters.length) = some n) (hR : rm.frames + 1 ≤ R.frames ∧ 8 + (maxL + 11) + rm.locals ≤ R.locals) (q0 : Nat) (he : ws[q0]? = some (b, .inr (ci, fs))) (hcl : vwCl[ci]? = some (Cn, T, N)) (isC isR : List Nat) (hC : isC.map (fun i => ws[i]?) = wc.map some) (hRr : isR.map (fun i => ws[i]?) = wr.map some) (hnC : va_nd isC = true) (hnR : va_nd isR = true) (hdis : ∀ i ∈ isR, i ∉ isC) (hst : st0 = As.reverse ++ .ref b :: rest) (hn : As.length = n) (hrest : (rest.map fun v => v.category).sum ≤ 8) (hf : cells + mc ≤ R.cells ∧ slots + ms ≤ R.slots)
    (kk : ∀ (r : Int32) (u : S), post r u → WW p l e R s m args below meth c A Q g nL (cells + mc) (slots + ms) (wr ++ w1 u) (pc + 3) lv (.int r :: rest)) : WW p l e R s m args below meth c A Q g nL cells slots ws pc lv st0 := fun H locs ls hP hD hS hl => by
  have hPc := hP.sub isC (fm_of_map hC)
  have hDc := hD.sub isC hnC hC
  have hFc := va_free (wc := wc) hD hS C.2.2.2.2.2.2.1 isC hC
  refine va_calli (va_runU (As := As) (rest := rest) ⟨C.1, C.2.1, C.2.2.1, C.2.2.2.1, C.2.2.2.2.1⟩ (hM H.size) (va_cwA n C.2.2.2.2.1 hG hw hrm.1 hrm.2 (C.2.2.2.2.2.1.2.1 _ hz) hd hR) ⟨PW.blind, va_recv C.2.2.2.2.2.1.1 hP hcl he, fun U hU hW => ⟨rfl, by rw [hU], by rw [hU]; exact hPc, hDc.weaken (fun _ _ _ _ => trivial), C.2.2.2.2.2.1.go hS hW hU hFc⟩⟩ rfl hn hl.1 hst (lv_room hrest) hdg hf) hS (fun q _ h => hFc q h) hFc (fun r u t H1 locs1 ht hvm hw hB hz1 hk1 hS1 => ?_)
  obtain ⟨hP1, hD1⟩ := hB
  rw [ht] at hP1
  obtain ⟨hP2, hD2⟩ := va_join hP hD isC isR hC hRr hnR hdis hk1 hFc hP1 hD1
  exact kk r u hw H1 locs1 ls hP2 hD2 hS1 hl
theorem r_callSNi {S : Type} {post : Int32 → S → Prop} {w1 : S → va_W} {y : MethodName} {wsy ws' : List Cond} {rm : Room} {mc ms maxL index : Nat} {bytes : ByteArray} {ret : Option FieldType} {As : List Value} {st0 : List Value} (pc : Nat) (C : Cx g p s m args meth c A own cc nL Ts) (hdg : decode cc pc = .ok (.invokestatic index, 3)) (rest : List Value) (wc wr : va_W) (hM : ∀ sz : Nat, Met l y wsy rm (va_Pc As (PW g wc sz)) (va_Qi post (BW g (va_A wc sz) w1) (va_A wc sz)) mc ms (va_A wc sz)) (hG : GoodIn Ts wsy) (hw : wsy = Cond.code y bytes maxL ret :: ws') (hrm : rm.cells = mc ∧ rm.slots = ms) (n : Nat) (hd : y.cls ≠ "java/lang/invoke/MethodHandle" ∧ y.cls ≠ "java/lang/invoke/VarHandle" ∧ (parseMethodDescriptor y.desc).map (fun d => d.parameters.length) = some n) (hR : rm.frames + 1 ≤ R.frames ∧ 8 + (maxL + 11) + rm.locals ≤ R.locals) {host : String} (hln : Cond.methodLinkNest own index y host ∈ nwL) (hi1 : Cond.initialized y.cls ∈ Ts) (hi2 : Cond.static y ∈ Ts) (isC isR : List Nat) (hC : isC.map (fun i => ws[i]?) = wc.map some) (hRr : isR.map (fun i => ws[i]?) = wr.map some) (hnC : va_nd isC = true) (hnR : va_nd isR = true) (hdis : ∀ i ∈ isR, i ∉ isC) (hst : st0 = As.reverse ++ rest) (hn : As.length = n) (hrest : (rest.map fun v => v.category).sum ≤ 8) (hf : cells + mc ≤ R.cells ∧ slots + ms ≤ R.slots)
    (kk : ∀ (r : Int32) (u : S), post r u → WW p l e R s m args below meth c A Q g nL (cells + mc) (slots + ms) (wr ++ w1 u) (pc + 3) lv (.int r :: rest)) : WW p l e R s m args below meth c A Q g nL cells slots ws pc lv st0 := fun H locs ls hP hD hS hl => by
  have hPc := hP.sub isC (fm_of_map hC)
  have hDc := hD.sub isC hnC hC
  have hFc := va_free (wc := wc) hD hS C.2.2.2.2.2.2.1 isC hC
  refine va_calli (va_runSN (As := As) (rest := rest) ⟨C.1, C.2.1, C.2.2.1, C.2.2.2.1, C.2.2.2.2.1⟩ (hM H.size) ⟨va_cnB n C.2.2.2.2.1 hG hw hrm.1 hrm.2 (C.2.2.2.2.2.1.2.1 _ hln) (C.2.2.2.2.1 _ hi1) hd hR, C.2.2.2.2.1 _ hi2, trivial⟩ ⟨PW.blind, fun U hU hW => ⟨rfl, by rw [hU], by rw [hU]; exact hPc, hDc.weaken (fun _ _ _ _ => trivial), C.2.2.2.2.2.1.go hS hW hU hFc⟩⟩ rfl hn hl.1 hst (lv_room hrest) hdg hf) hS (fun q _ h => hFc q h) hFc (fun r u t H1 locs1 ht hvm hw hB hz1 hk1 hS1 => ?_)
  obtain ⟨hP1, hD1⟩ := hB
  rw [ht] at hP1
  obtain ⟨hP2, hD2⟩ := va_join hP hD isC isR hC hRr hnR hdis hk1 hFc hP1 hD1
  exact kk r u hw H1 locs1 ls hP2 hD2 hS1 hl
theorem r_callUl {S : Type} {post : Int64 → S → Prop} {w1 : S → va_W} {y x : MethodName} {owner : String} {wsy ws' : List Cond} {rm : Room} {mc ms maxL index : Nat} {bytes : ByteArray} {ret : Option FieldType} {Cn : String} {T : u_T} {N ci b : Nat} {fs : List Value} {As : List Value} {st0 : List Value} (pc : Nat) (C : Cx g p s m args meth c A own cc nL Ts) (hdg : decode cc pc = .ok (.invokevirtual index, 3)) (rest : List Value) (wc wr : va_W) (hM : ∀ sz : Nat, Met l y wsy rm (va_Pc (.ref b :: As) (PW g wc sz)) (va_Ql post (BW g (va_A wc sz) w1) (va_A wc sz)) mc ms (va_A wc sz)) (hG : GoodIn Ts (va_wsU own index Cn owner x y wsy)) (hw : wsy = Cond.code y bytes maxL ret :: ws') (hrm : rm.cells = mc ∧ rm.slots = ms) (n : Nat) (hyx : y = ⟨owner, x.name, x.desc⟩) (hd : owner ≠ "java/lang/invoke/MethodHandle" ∧ owner ≠ "java/lang/invoke/VarHandle" ∧ (parseMethodDescriptor x.desc).map (fun d => d.parameters.length) = some n) (hR : rm.frames + 1 ≤ R.frames ∧ 8 + (maxL + 11) + rm.locals ≤ R.locals) (q0 : Nat) (he : ws[q0]? = some (b, .inr (ci, fs))) (hcl : vwCl[ci]? = some (Cn, T, N)) (isC isR : List Nat) (hC : isC.map (fun i => ws[i]?) = wc.map some) (hRr : isR.map (fun i => ws[i]?) = wr.map some) (hnC : va_nd isC = true) (hnR : va_nd isR = true) (hdis : ∀ i ∈ isR, i ∉ isC) (hst : st0 = As.reverse ++ .ref b :: rest) (hn : As.length = n) (hrest : (rest.map fun v => v.category).sum ≤ 8) (hf : cells + mc ≤ R.cells ∧ slots + ms ≤ R.slots)
    (kk : ∀ (r : Int64) (u : S), post r u → WW p l e R s m args below meth c A Q g nL (cells + mc) (slots + ms) (wr ++ w1 u) (pc + 3) lv (.long r :: rest)) : WW p l e R s m args below meth c A Q g nL cells slots ws pc lv st0 := fun H locs ls hP hD hS hl => by
  have hPc := hP.sub isC (fm_of_map hC)
  have hDc := hD.sub isC hnC hC
  have hFc := va_free (wc := wc) hD hS C.2.2.2.2.2.2.1 isC hC
  refine va_calll (va_runU (As := As) (rest := rest) ⟨C.1, C.2.1, C.2.2.1, C.2.2.2.1, C.2.2.2.2.1⟩ (hM H.size) (va_cwU n C.2.2.2.2.1 hG hw hrm.1 hrm.2 hyx hd hR) ⟨PW.blind, va_recv C.2.2.2.2.2.1.1 hP hcl he, fun U hU hW => ⟨rfl, by rw [hU], by rw [hU]; exact hPc, hDc.weaken (fun _ _ _ _ => trivial), C.2.2.2.2.2.1.go hS hW hU hFc⟩⟩ rfl hn hl.1 hst (lv_room hrest) hdg hf) hS (fun q _ h => hFc q h) hFc (fun r u t H1 locs1 ht hvm hw hB hz1 hk1 hS1 => ?_)
  obtain ⟨hP1, hD1⟩ := hB
  rw [ht] at hP1
  obtain ⟨hP2, hD2⟩ := va_join hP hD isC isR hC hRr hnR hdis hk1 hFc hP1 hD1
  exact kk r u hw H1 locs1 ls hP2 hD2 hS1 hl
theorem r_callAl {S : Type} {post : Int64 → S → Prop} {w1 : S → va_W} {y x : MethodName} {owner : String} {wsy ws' : List Cond} {rm : Room} {mc ms maxL index : Nat} {bytes : ByteArray} {ret : Option FieldType} {Cn : String} {T : u_T} {N ci b : Nat} {fs : List Value} {As : List Value} {st0 : List Value} (pc : Nat) (C : Cx g p s m args meth c A own cc nL Ts) (hdg : decode cc pc = .ok (.invokevirtual index, 3)) (rest : List Value) (wc wr : va_W) (hM : ∀ sz : Nat, Met l y wsy rm (va_Pc (.ref b :: As) (PW g wc sz)) (va_Ql post (BW g (va_A wc sz) w1) (va_A wc sz)) mc ms (va_A wc sz)) (hG : GoodIn Ts (va_wsU own index Cn owner x y wsy)) (hw : wsy = Cond.code y bytes maxL ret :: ws') (hrm : rm.cells = mc ∧ rm.slots = ms) (n : Nat) (hz : Cond.declares ⟨owner, x.name, x.desc⟩ ∈ nwL) (hd : owner ≠ "java/lang/invoke/MethodHandle" ∧ owner ≠ "java/lang/invoke/VarHandle" ∧ (parseMethodDescriptor x.desc).map (fun d => d.parameters.length) = some n) (hR : rm.frames + 1 ≤ R.frames ∧ 8 + (maxL + 11) + rm.locals ≤ R.locals) (q0 : Nat) (he : ws[q0]? = some (b, .inr (ci, fs))) (hcl : vwCl[ci]? = some (Cn, T, N)) (isC isR : List Nat) (hC : isC.map (fun i => ws[i]?) = wc.map some) (hRr : isR.map (fun i => ws[i]?) = wr.map some) (hnC : va_nd isC = true) (hnR : va_nd isR = true) (hdis : ∀ i ∈ isR, i ∉ isC) (hst : st0 = As.reverse ++ .ref b :: rest) (hn : As.length = n) (hrest : (rest.map fun v => v.category).sum ≤ 8) (hf : cells + mc ≤ R.cells ∧ slots + ms ≤ R.slots)
    (kk : ∀ (r : Int64) (u : S), post r u → WW p l e R s m args below meth c A Q g nL (cells + mc) (slots + ms) (wr ++ w1 u) (pc + 3) lv (.long r :: rest)) : WW p l e R s m args below meth c A Q g nL cells slots ws pc lv st0 := fun H locs ls hP hD hS hl => by
  have hPc := hP.sub isC (fm_of_map hC)
  have hDc := hD.sub isC hnC hC
  have hFc := va_free (wc := wc) hD hS C.2.2.2.2.2.2.1 isC hC
  refine va_calll (va_runU (As := As) (rest := rest) ⟨C.1, C.2.1, C.2.2.1, C.2.2.2.1, C.2.2.2.2.1⟩ (hM H.size) (va_cwA n C.2.2.2.2.1 hG hw hrm.1 hrm.2 (C.2.2.2.2.2.1.2.1 _ hz) hd hR) ⟨PW.blind, va_recv C.2.2.2.2.2.1.1 hP hcl he, fun U hU hW => ⟨rfl, by rw [hU], by rw [hU]; exact hPc, hDc.weaken (fun _ _ _ _ => trivial), C.2.2.2.2.2.1.go hS hW hU hFc⟩⟩ rfl hn hl.1 hst (lv_room hrest) hdg hf) hS (fun q _ h => hFc q h) hFc (fun r u t H1 locs1 ht hvm hw hB hz1 hk1 hS1 => ?_)
  obtain ⟨hP1, hD1⟩ := hB
  rw [ht] at hP1
  obtain ⟨hP2, hD2⟩ := va_join hP hD isC isR hC hRr hnR hdis hk1 hFc hP1 hD1
  exact kk r u hw H1 locs1 ls hP2 hD2 hS1 hl
theorem r_callUv {S : Type} {post : S → Prop} {w1 : S → va_W} {y x : MethodName} {owner : String} {wsy ws' : List Cond} {rm : Room} {mc ms maxL index : Nat} {bytes : ByteArray} {ret : Option FieldType} {Cn : String} {T : u_T} {N ci b : Nat} {fs : List Value} {As : List Value} {st0 : List Value} (pc : Nat) (C : Cx g p s m args meth c A own cc nL Ts) (hdg : decode cc pc = .ok (.invokevirtual index, 3)) (rest : List Value) (wc wr : va_W) (hM : ∀ sz : Nat, Met l y wsy rm (va_Pc (.ref b :: As) (PW g wc sz)) (va_Qv post (BW g (va_A wc sz) w1) (va_A wc sz)) mc ms (va_A wc sz)) (hG : GoodIn Ts (va_wsU own index Cn owner x y wsy)) (hw : wsy = Cond.code y bytes maxL ret :: ws') (hrm : rm.cells = mc ∧ rm.slots = ms) (n : Nat) (hyx : y = ⟨owner, x.name, x.desc⟩) (hd : owner ≠ "java/lang/invoke/MethodHandle" ∧ owner ≠ "java/lang/invoke/VarHandle" ∧ (parseMethodDescriptor x.desc).map (fun d => d.parameters.length) = some n) (hR : rm.frames + 1 ≤ R.frames ∧ 8 + (maxL + 11) + rm.locals ≤ R.locals) (q0 : Nat) (he : ws[q0]? = some (b, .inr (ci, fs))) (hcl : vwCl[ci]? = some (Cn, T, N)) (isC isR : List Nat) (hC : isC.map (fun i => ws[i]?) = wc.map some) (hRr : isR.map (fun i => ws[i]?) = wr.map some) (hnC : va_nd isC = true) (hnR : va_nd isR = true) (hdis : ∀ i ∈ isR, i ∉ isC) (hst : st0 = As.reverse ++ .ref b :: rest) (hn : As.length = n) (hrest : (rest.map fun v => v.category).sum ≤ 8) (hf : cells + mc ≤ R.cells ∧ slots + ms ≤ R.slots)
    (kk : ∀ (u : S), post u → WW p l e R s m args below meth c A Q g nL (cells + mc) (slots + ms) (wr ++ w1 u) (pc + 3) lv (rest)) : WW p l e R s m args below meth c A Q g nL cells slots ws pc lv st0 := fun H locs ls hP hD hS hl => by
  have hPc := hP.sub isC (fm_of_map hC)
  have hDc := hD.sub isC hnC hC
  have hFc := va_free (wc := wc) hD hS C.2.2.2.2.2.2.1 isC hC
  refine va_callv (va_runU (As := As) (rest := rest) ⟨C.1, C.2.1, C.2.2.1, C.2.2.2.1, C.2.2.2.2.1⟩ (hM H.size) (va_cwU n C.2.2.2.2.1 hG hw hrm.1 hrm.2 hyx hd hR) ⟨PW.blind, va_recv C.2.2.2.2.2.1.1 hP hcl he, fun U hU hW => ⟨rfl, by rw [hU], by rw [hU]; exact hPc, hDc.weaken (fun _ _ _ _ => trivial), C.2.2.2.2.2.1.go hS hW hU hFc⟩⟩ rfl hn hl.1 hst (lv_room hrest) hdg hf) hS (fun q _ h => hFc q h) hFc (fun u t H1 locs1 ht hvm hw hB hz1 hk1 hS1 => ?_)
  obtain ⟨hP1, hD1⟩ := hB
  rw [ht] at hP1
  obtain ⟨hP2, hD2⟩ := va_join hP hD isC isR hC hRr hnR hdis hk1 hFc hP1 hD1
  exact kk u hw H1 locs1 ls hP2 hD2 hS1 hl
theorem r_callAv {S : Type} {post : S → Prop} {w1 : S → va_W} {y x : MethodName} {owner : String} {wsy ws' : List Cond} {rm : Room} {mc ms maxL index : Nat} {bytes : ByteArray} {ret : Option FieldType} {Cn : String} {T : u_T} {N ci b : Nat} {fs : List Value} {As : List Value} {st0 : List Value} (pc : Nat) (C : Cx g p s m args meth c A own cc nL Ts) (hdg : decode cc pc = .ok (.invokevirtual index, 3)) (rest : List Value) (wc wr : va_W) (hM : ∀ sz : Nat, Met l y wsy rm (va_Pc (.ref b :: As) (PW g wc sz)) (va_Qv post (BW g (va_A wc sz) w1) (va_A wc sz)) mc ms (va_A wc sz)) (hG : GoodIn Ts (va_wsU own index Cn owner x y wsy)) (hw : wsy = Cond.code y bytes maxL ret :: ws') (hrm : rm.cells = mc ∧ rm.slots = ms) (n : Nat) (hz : Cond.declares ⟨owner, x.name, x.desc⟩ ∈ nwL) (hd : owner ≠ "java/lang/invoke/MethodHandle" ∧ owner ≠ "java/lang/invoke/VarHandle" ∧ (parseMethodDescriptor x.desc).map (fun d => d.parameters.length) = some n) (hR : rm.frames + 1 ≤ R.frames ∧ 8 + (maxL + 11) + rm.locals ≤ R.locals) (q0 : Nat) (he : ws[q0]? = some (b, .inr (ci, fs))) (hcl : vwCl[ci]? = some (Cn, T, N)) (isC isR : List Nat) (hC : isC.map (fun i => ws[i]?) = wc.map some) (hRr : isR.map (fun i => ws[i]?) = wr.map some) (hnC : va_nd isC = true) (hnR : va_nd isR = true) (hdis : ∀ i ∈ isR, i ∉ isC) (hst : st0 = As.reverse ++ .ref b :: rest) (hn : As.length = n) (hrest : (rest.map fun v => v.category).sum ≤ 8) (hf : cells + mc ≤ R.cells ∧ slots + ms ≤ R.slots)
    (kk : ∀ (u : S), post u → WW p l e R s m args below meth c A Q g nL (cells + mc) (slots + ms) (wr ++ w1 u) (pc + 3) lv (rest)) : WW p l e R s m args below meth c A Q g nL cells slots ws pc lv st0 := fun H locs ls hP hD hS hl => by
  have hPc := hP.sub isC (fm_of_map hC)
  have hDc := hD.sub isC hnC hC
  have hFc := va_free (wc := wc) hD hS C.2.2.2.2.2.2.1 isC hC
  refine va_callv (va_runU (As := As) (rest := rest) ⟨C.1, C.2.1, C.2.2.1, C.2.2.2.1, C.2.2.2.2.1⟩ (hM H.size) (va_cwA n C.2.2.2.2.1 hG hw hrm.1 hrm.2 (C.2.2.2.2.2.1.2.1 _ hz) hd hR) ⟨PW.blind, va_recv C.2.2.2.2.2.1.1 hP hcl he, fun U hU hW => ⟨rfl, by rw [hU], by rw [hU]; exact hPc, hDc.weaken (fun _ _ _ _ => trivial), C.2.2.2.2.2.1.go hS hW hU hFc⟩⟩ rfl hn hl.1 hst (lv_room hrest) hdg hf) hS (fun q _ h => hFc q h) hFc (fun u t H1 locs1 ht hvm hw hB hz1 hk1 hS1 => ?_)
  obtain ⟨hP1, hD1⟩ := hB
  rw [ht] at hP1
  obtain ⟨hP2, hD2⟩ := va_join hP hD isC isR hC hRr hnR hdis hk1 hFc hP1 hD1
  exact kk u hw H1 locs1 ls hP2 hD2 hS1 hl
theorem r_callSNv {S : Type} {post : S → Prop} {w1 : S → va_W} {y : MethodName} {wsy ws' : List Cond} {rm : Room} {mc ms maxL index : Nat} {bytes : ByteArray} {ret : Option FieldType} {As : List Value} {st0 : List Value} (pc : Nat) (C : Cx g p s m args meth c A own cc nL Ts) (hdg : decode cc pc = .ok (.invokestatic index, 3)) (rest : List Value) (wc wr : va_W) (hM : ∀ sz : Nat, Met l y wsy rm (va_Pc As (PW g wc sz)) (va_Qv post (BW g (va_A wc sz) w1) (va_A wc sz)) mc ms (va_A wc sz)) (hG : GoodIn Ts wsy) (hw : wsy = Cond.code y bytes maxL ret :: ws') (hrm : rm.cells = mc ∧ rm.slots = ms) (n : Nat) (hd : y.cls ≠ "java/lang/invoke/MethodHandle" ∧ y.cls ≠ "java/lang/invoke/VarHandle" ∧ (parseMethodDescriptor y.desc).map (fun d => d.parameters.length) = some n) (hR : rm.frames + 1 ≤ R.frames ∧ 8 + (maxL + 11) + rm.locals ≤ R.locals) {host : String} (hln : Cond.methodLinkNest own index y host ∈ nwL) (hi1 : Cond.initialized y.cls ∈ Ts) (hi2 : Cond.static y ∈ Ts) (isC isR : List Nat) (hC : isC.map (fun i => ws[i]?) = wc.map some) (hRr : isR.map (fun i => ws[i]?) = wr.map some) (hnC : va_nd isC = true) (hnR : va_nd isR = true) (hdis : ∀ i ∈ isR, i ∉ isC) (hst : st0 = As.reverse ++ rest) (hn : As.length = n) (hrest : (rest.map fun v => v.category).sum ≤ 8) (hf : cells + mc ≤ R.cells ∧ slots + ms ≤ R.slots)
    (kk : ∀ (u : S), post u → WW p l e R s m args below meth c A Q g nL (cells + mc) (slots + ms) (wr ++ w1 u) (pc + 3) lv (rest)) : WW p l e R s m args below meth c A Q g nL cells slots ws pc lv st0 := fun H locs ls hP hD hS hl => by
  have hPc := hP.sub isC (fm_of_map hC)
  have hDc := hD.sub isC hnC hC
  have hFc := va_free (wc := wc) hD hS C.2.2.2.2.2.2.1 isC hC
  refine va_callv (va_runSN (As := As) (rest := rest) ⟨C.1, C.2.1, C.2.2.1, C.2.2.2.1, C.2.2.2.2.1⟩ (hM H.size) ⟨va_cnB n C.2.2.2.2.1 hG hw hrm.1 hrm.2 (C.2.2.2.2.2.1.2.1 _ hln) (C.2.2.2.2.1 _ hi1) hd hR, C.2.2.2.2.1 _ hi2, trivial⟩ ⟨PW.blind, fun U hU hW => ⟨rfl, by rw [hU], by rw [hU]; exact hPc, hDc.weaken (fun _ _ _ _ => trivial), C.2.2.2.2.2.1.go hS hW hU hFc⟩⟩ rfl hn hl.1 hst (lv_room hrest) hdg hf) hS (fun q _ h => hFc q h) hFc (fun u t H1 locs1 ht hvm hw hB hz1 hk1 hS1 => ?_)
  obtain ⟨hP1, hD1⟩ := hB
  rw [ht] at hP1
  obtain ⟨hP2, hD2⟩ := va_join hP hD isC isR hC hRr hnR hdis hk1 hFc hP1 hD1
  exact kk u hw H1 locs1 ls hP2 hD2 hS1 hl
theorem r_lmax (pc : Nat) {index : Nat} {x y : Int64} (v : Int64) (C : Cx g p s m args meth c A own cc nL Ts) (hdg : decode cc pc = .ok (.invokestatic index, 3)) (h1 : Cond.methodLink own index Lib.MathLoose.max_long.x ∈ Ts) (h2 : Cond.static Lib.MathLoose.max_long.x ∈ Ts) (h3 : Cond.initialized "java/lang/Math" ∈ Ts) (h4 : Cond.code Lib.MathLoose.max_long.x Lib.MathLoose.max_long.code 4 (some .long) ∈ Ts) (hf : 1 ≤ R.frames) (hlo : (st.map fun v => v.category).sum + 15 ≤ R.locals) (hc : cells ≤ R.cells) (hs : slots ≤ R.slots) (hv : (if y < x then x else y) = v) (kk : WW p l e R s m args below meth c A Q g nL cells slots ws (pc + 3) lv (.long v :: st)) : WW p l e R s m args below meth c A Q g nL cells slots ws pc lv (.long y :: .long x :: st) := fun H locs ls hP hD hS hl => va_mmax_long C.1 C.2.1 (by rw [C.2.2.1]; exact hl.1.symm) C.2.2.2.1 (C.2.2.2.2.1 _ h1) (C.2.2.2.2.1 _ h2) (C.2.2.2.2.1 _ h3) (C.2.2.2.2.1 _ h4) hf hlo hc hs hdg (hv ▸ kk H locs ls hP hD hS hl)
theorem r_lmin (pc : Nat) {index : Nat} {x y : Int64} (v : Int64) (C : Cx g p s m args meth c A own cc nL Ts) (hdg : decode cc pc = .ok (.invokestatic index, 3)) (h1 : Cond.methodLink own index Lib.MathLoose.min_long.x ∈ Ts) (h2 : Cond.static Lib.MathLoose.min_long.x ∈ Ts) (h3 : Cond.initialized "java/lang/Math" ∈ Ts) (h4 : Cond.code Lib.MathLoose.min_long.x Lib.MathLoose.min_long.code 4 (some .long) ∈ Ts) (hf : 1 ≤ R.frames) (hlo : (st.map fun v => v.category).sum + 15 ≤ R.locals) (hc : cells ≤ R.cells) (hs : slots ≤ R.slots) (hv : (if y < x then y else x) = v) (kk : WW p l e R s m args below meth c A Q g nL cells slots ws (pc + 3) lv (.long v :: st)) : WW p l e R s m args below meth c A Q g nL cells slots ws pc lv (.long y :: .long x :: st) := fun H locs ls hP hD hS hl => va_mmin_long C.1 C.2.1 (by rw [C.2.2.1]; exact hl.1.symm) C.2.2.2.1 (C.2.2.2.2.1 _ h1) (C.2.2.2.2.1 _ h2) (C.2.2.2.2.1 _ h3) (C.2.2.2.2.1 _ h4) hf hlo hc hs hdg (hv ▸ kk H locs ls hP hD hS hl)
theorem r_labs (pc : Nat) {index : Nat} {x : Int64} (v : Int64) (C : Cx g p s m args meth c A own cc nL Ts) (hdg : decode cc pc = .ok (.invokestatic index, 3)) (h1 : Cond.methodLink own index Lib.MathLoose.abs_long.x ∈ Ts) (h2 : Cond.static Lib.MathLoose.abs_long.x ∈ Ts) (h3 : Cond.initialized "java/lang/Math" ∈ Ts) (h4 : Cond.code Lib.MathLoose.abs_long.x Lib.MathLoose.abs_long.code 2 (some .long) ∈ Ts) (hf : 1 ≤ R.frames) (hlo : (st.map fun v => v.category).sum + 13 ≤ R.locals) (hc : cells ≤ R.cells) (hs : slots ≤ R.slots) (hv : (if 0 < x then x else -x) = v) (kk : WW p l e R s m args below meth c A Q g nL cells slots ws (pc + 3) lv (.long v :: st)) : WW p l e R s m args below meth c A Q g nL cells slots ws pc lv (.long x :: st) := fun H locs ls hP hD hS hl => va_mabs_long C.1 C.2.1 (by rw [C.2.2.1]; exact hl.1.symm) C.2.2.2.1 (C.2.2.2.2.1 _ h1) (C.2.2.2.2.1 _ h2) (C.2.2.2.2.1 _ h3) (C.2.2.2.2.1 _ h4) hf hlo hc hs hdg (hv ▸ kk H locs ls hP hD hS hl)
end MORE
theorem fb_rng (x : Int32) : -2147483648 ≤ x.toInt ∧ x.toInt < 2147483648 := by
  have h1 := Int32.le_toInt x
  have h2 := Int32.toInt_lt x
  omega
theorem fb_bmod {z : Int} (h1 : -2147483648 ≤ z) (h2 : z < 2147483648) : z.bmod (2 ^ 32) = z := by
  rw [Int.bmod_eq_of_le (by omega) (by omega)]
theorem fb_addI {x y : Int32} (h1 : -2147483648 ≤ x.toInt + y.toInt) (h2 : x.toInt + y.toInt < 2147483648) : (x + y).toInt = x.toInt + y.toInt := by
  rw [Int32.toInt_add, fb_bmod h1 h2]
theorem fb_subI {x y : Int32} (h1 : -2147483648 ≤ x.toInt - y.toInt) (h2 : x.toInt - y.toInt < 2147483648) : (x - y).toInt = x.toInt - y.toInt := by
  rw [Int32.toInt_sub, fb_bmod h1 h2]
theorem fb_mulI {x y : Int32} (h1 : -2147483648 ≤ x.toInt * y.toInt) (h2 : x.toInt * y.toInt < 2147483648) : (x * y).toInt = x.toInt * y.toInt := by
  rw [Int32.toInt_mul, fb_bmod h1 h2]
theorem fb_negI {x : Int32} (h : x.toInt ≠ -2147483648) : (-x).toInt = -x.toInt := by
  have := fb_rng x
  rw [Int32.toInt_neg, fb_bmod (by omega) (by omega)]
theorem fb_ofI {z : Int} (h1 : -2147483648 ≤ z) (h2 : z < 2147483648) : (Int32.ofInt z).toInt = z := by
  rw [Int32.toInt_ofInt, fb_bmod h1 h2]
theorem fb_asI (x : Int32) : Int32.ofInt x.toInt = x := Int32.ofInt_toInt x
theorem fb_rngL (x : Int64) : -9223372036854775808 ≤ x.toInt ∧ x.toInt < 9223372036854775808 := by
  have h1 := Int64.le_toInt x
  have h2 := Int64.toInt_lt x
  omega
theorem fb_bmodL {z : Int} (h1 : -9223372036854775808 ≤ z) (h2 : z < 9223372036854775808) : z.bmod (2 ^ 64) = z := by
  rw [Int.bmod_eq_of_le (by omega) (by omega)]
theorem fb_addL {x y : Int64} (h1 : -9223372036854775808 ≤ x.toInt + y.toInt) (h2 : x.toInt + y.toInt < 9223372036854775808) : (x + y).toInt = x.toInt + y.toInt := by
  rw [Int64.toInt_add, fb_bmodL h1 h2]
theorem fb_subL {x y : Int64} (h1 : -9223372036854775808 ≤ x.toInt - y.toInt) (h2 : x.toInt - y.toInt < 9223372036854775808) : (x - y).toInt = x.toInt - y.toInt := by
  rw [Int64.toInt_sub, fb_bmodL h1 h2]
theorem fb_mulL {x y : Int64} (h1 : -9223372036854775808 ≤ x.toInt * y.toInt) (h2 : x.toInt * y.toInt < 9223372036854775808) : (x * y).toInt = x.toInt * y.toInt := by
  rw [Int64.toInt_mul, fb_bmodL h1 h2]
/-! ===== cuts of what is narrow already ===== -/
theorem fb_byte {x : Int32} (h1 : -128 ≤ x.toInt) (h2 : x.toInt < 128) : x.toInt8.toInt32 = x := by
  apply Int32.toInt_inj.1
  rw [Int8.toInt_toInt32, Int32.toInt_toInt8, Int.bmod_eq_of_le (by omega) (by omega)]
theorem fb_short {x : Int32} (h1 : -32768 ≤ x.toInt) (h2 : x.toInt < 32768) : x.toInt16.toInt32 = x := by
  apply Int32.toInt_inj.1
  rw [Int16.toInt_toInt32, Int32.toInt_toInt16, Int.bmod_eq_of_le (by omega) (by omega)]
theorem fb_byte_rng (x : Int32) : -128 ≤ x.toInt8.toInt32.toInt ∧ x.toInt8.toInt32.toInt < 128 := by
  rw [Int8.toInt_toInt32]
  have h1 := Int8.le_toInt x.toInt8
  have h2 := Int8.toInt_lt x.toInt8
  omega
theorem fb_short_rng (x : Int32) : -32768 ≤ x.toInt16.toInt32.toInt ∧ x.toInt16.toInt32.toInt < 32768 := by
  rw [Int16.toInt_toInt32]
  have h1 := Int16.le_toInt x.toInt16
  have h2 := Int16.toInt_lt x.toInt16
  omega
theorem fb_byte_twice (x : Int32) : x.toInt8.toInt32.toInt8.toInt32 = x.toInt8.toInt32 := fb_byte (fb_byte_rng x).1 (fb_byte_rng x).2
theorem fb_short_twice (x : Int32) : x.toInt16.toInt32.toInt16.toInt32 = x.toInt16.toInt32 := fb_short (fb_short_rng x).1 (fb_short_rng x).2
theorem vin {i : Int32} {n : Nat} (h : ¬ (i < 0 ∨ n ≤ i.toNatClampNeg)) : vp_in i n := h
theorem lgI1 (a b : Int64) : (lg_cmp a b).toInt < 0 ↔ a.toInt < b.toInt := ((Int32.lt_iff_toInt_lt (x := lg_cmp a b) (y := 0)).symm.trans (lg_lt a b)).trans Int64.lt_iff_toInt_lt
theorem lgI2 (a b : Int64) : 0 < (lg_cmp a b).toInt ↔ b.toInt < a.toInt := ((Int32.lt_iff_toInt_lt (x := 0) (y := lg_cmp a b)).symm.trans (lg_gt a b)).trans Int64.lt_iff_toInt_lt
theorem fa_lt (a b : Int32) : a < b ↔ a.toInt < b.toInt := Int32.lt_iff_toInt_lt
theorem fa_le (a b : Int32) : a ≤ b ↔ a.toInt ≤ b.toInt := Int32.le_iff_toInt_le
theorem fa_eq (a b : Int32) : a = b ↔ a.toInt = b.toInt := Int32.toInt_inj.symm
theorem fa_eq64 (a b : Int64) : a = b ↔ a.toInt = b.toInt := Int64.toInt_inj.symm
theorem vinI {i : Int32} {n : Nat} (h0 : 0 ≤ i.toInt) (h1 : i.toInt < n) : vp_in i n := vp_in_iff.mpr ⟨h0, h1⟩
theorem and_255 (x : Int32) : 0 ≤ (x &&& 255).toInt ∧ (x &&& 255).toInt ≤ 255 := by
  obtain ⟨j, hj, e⟩ := pk_andE x (m := 255) 8 (by decide)
  rw [e, nI_toInt (by omega)]
  omega
theorem and_255r (x : Int32) : 0 ≤ (255 &&& x).toInt ∧ (255 &&& x).toInt ≤ 255 := by rw [Int32.and_comm]; exact and_255 x
theorem and_15 (x : Int32) : 0 ≤ (x &&& 15).toInt ∧ (x &&& 15).toInt ≤ 15 := by
  obtain ⟨j, hj, e⟩ := pk_andE x (m := 15) 4 (by decide)
  rw [e, nI_toInt (by omega)]
  omega
theorem and_15r (x : Int32) : 0 ≤ (15 &&& x).toInt ∧ (15 &&& x).toInt ≤ 15 := by rw [Int32.and_comm]; exact and_15 x
theorem and_65535 (x : Int32) : 0 ≤ (x &&& 65535).toInt ∧ (x &&& 65535).toInt ≤ 65535 := by
  obtain ⟨j, hj, e⟩ := pk_andE x (m := 65535) 16 (by decide)
  rw [e, nI_toInt (by omega)]
  omega
theorem and_65535r (x : Int32) : 0 ≤ (65535 &&& x).toInt ∧ (65535 &&& x).toInt ≤ 65535 := by rw [Int32.and_comm]; exact and_65535 x
theorem shr_4 (a : Int32) : (a >>> ((4 : Int32) &&& 31)).toInt = a.toInt / 16 := by
  rw [pk_shr a _ 4 (by decide), Int.shiftRight_eq_div_pow]
  rfl
theorem shr_8 (a : Int32) : (a >>> ((8 : Int32) &&& 31)).toInt = a.toInt / 256 := by
  rw [pk_shr a _ 8 (by decide), Int.shiftRight_eq_div_pow]
  rfl
theorem shr_16 (a : Int32) : (a >>> ((16 : Int32) &&& 31)).toInt = a.toInt / 65536 := by
  rw [pk_shr a _ 16 (by decide), Int.shiftRight_eq_div_pow]
  rfl
theorem shr_24 (a : Int32) : (a >>> ((24 : Int32) &&& 31)).toInt = a.toInt / 16777216 := by
  rw [pk_shr a _ 24 (by decide), Int.shiftRight_eq_div_pow]
  rfl
theorem nn_of {a : Int32} (h : 0 ≤ a.toInt) : ∃ j : Nat, j < 2 ^ 31 ∧ a = nI j := nI_of (fun h9 => by have h8 : a.toInt < 0 := (fa_lt a 0).mp h9; omega)
theorem div_nn {a : Int32} (h : 0 ≤ a.toInt) {n : Nat} (h0 : 0 < n) (h1 : n < 2 ^ 31) : (a / nI n).toInt = a.toInt / n := by
  obtain ⟨j, hj, rfl⟩ := nn_of h
  rw [pk_div hj h0 h1, nI_toInt (Nat.lt_of_le_of_lt (Nat.div_le_self _ _) hj), nI_toInt hj]
  exact Int.natCast_ediv j n
theorem rem_nn {a : Int32} (h : 0 ≤ a.toInt) {n : Nat} (h0 : 0 < n) (h1 : n < 2 ^ 31) : (a - a / nI n * nI n).toInt = a.toInt % n := by
  obtain ⟨j, hj, rfl⟩ := nn_of h
  rw [pk_rem hj h0 h1, nI_toInt (Nat.lt_of_le_of_lt (Nat.mod_le _ _) hj), nI_toInt hj]
  exact Int.natCast_emod j n
theorem l2i_in {x : Int64} (h1 : -2147483648 ≤ x.toInt) (h2 : x.toInt ≤ 2147483647) : x.toInt32.toInt = x.toInt := by
  rw [Int64.toInt_toInt32]
  exact fb_bmod h1 (by omega)
theorem neg_in {x : Int32} (h : -2147483648 < x.toInt) : (-x).toInt = -x.toInt := fb_negI (by omega)
theorem z01 {v : Int32} (h0 : 0 ≤ v.toInt) (h1 : v.toInt ≤ 1) : v = 0 ∨ v = 1 := by
  rcases (show v.toInt = 0 ∨ v.toInt = 1 by omega) with h | h
  · exact Or.inl (Int32.toInt_inj.mp h)
  · exact Or.inr (Int32.toInt_inj.mp h)
theorem nz_n {v : Int32} (h0 : 0 ≤ v.toInt) (h1 : v.toInt ≤ 1) : narrow .boolean (.int v) = .int v := by rcases z01 h0 h1 with rfl | rfl <;> decide
theorem nz_f {v : Int32} (h0 : 0 ≤ v.toInt) (h1 : v.toInt ≤ 1) : fits .boolean (.int v) = true := by rcases z01 h0 h1 with rfl | rfl <;> decide
theorem mx_or (x y b a : Int32) : (x.toInt < y.toInt ∧ (if x < y then b else a).toInt = b.toInt) ∨ (¬ (x.toInt < y.toInt) ∧ (if x < y then b else a).toInt = a.toInt) := by
  by_cases h : x < y
  · exact Or.inl ⟨(fa_lt x y).mp h, by rw [if_pos h]⟩
  · exact Or.inr ⟨fun h9 => h ((fa_lt x y).mpr h9), by rw [if_neg h]⟩
theorem chr_in (x : Int32) : 0 ≤ (x.toUInt32 % 65536).toInt32.toInt ∧ (x.toUInt32 % 65536).toInt32.toInt ≤ 65535 := by
  rw [pk_char x, nI_toInt (by omega)]
  omega
theorem nc_in {v : Int32} (h0 : 0 ≤ v.toInt) (h1 : v.toInt ≤ 65535) : narrow .char (.int v) = .int v := by
  obtain ⟨j, hj, rfl⟩ := nn_of h0
  rw [nI_toInt hj] at h1
  exact (pk_charN (q := j) (by omega)).1
theorem ci_upd {f f2 : Nat → Int32} {k : Nat} {x : Int32} {lo hi : Int} (h : ∀ j : Nat, lo ≤ Int32.toInt (f j) ∧ Int32.toInt (f j) ≤ hi) (hx : lo ≤ x.toInt ∧ x.toInt ≤ hi) (e : upd f k x = f2) : ∀ j : Nat, lo ≤ Int32.toInt (f2 j) ∧ Int32.toInt (f2 j) ≤ hi := by
  intro j
  rw [← e]
  unfold upd
  split
  · exact hx
  · exact h j
