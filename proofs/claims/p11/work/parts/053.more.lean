section MORE2
variable {p : Program} {l : Launch} {e : Env} {R : Room} {s : State} {m : MethodId} {args : Array Value} {below : List Frame} {meth : Method} {c : Code} {A : Nat → Prop} {Q : State → Prop} {g : GD} {nL cells slots : Nat} {ws : va_W} {lv : List (Nat × Value)} {st : List Value} {own : String} {cc : ByteArray} {Ts : List Cond}
theorem r_getsq2 (pc : Nat) {index : Nat} {Cn n d : String} (C : Cx g p s m args meth c A own cc nL Ts) (hdg : decode cc pc = .ok (.getstatic index, 3)) (hZ : va_Zq Cn n d A s s.heap) (hlink : Cond.fieldLink own index Cn n d ∈ Ts) (k1 : WW p l e R s m args below meth c A Q g nL cells slots ws (pc + 3) lv (.null :: st)) (k2 : ∀ q : Nat, WW p l e R s m args below meth c A Q g nL cells slots ws (pc + 3) lv (.ref q :: st)) : WW p l e R s m args below meth c A Q g nL cells slots ws pc lv st := fun H locs ls hP hD hS hl => hZ.elim (fun h => va_gets C.1 C.2.1 h hS C.2.2.2.1 (C.2.2.2.2.1 _ hlink) (fun _ h => h) hdg (k1 H locs ls hP hD hS hl)) (fun ⟨t, h⟩ => va_gets C.1 C.2.1 h hS C.2.2.2.1 (C.2.2.2.2.1 _ hlink) (fun _ h => h) hdg (k2 t H locs ls hP hD hS hl))
end MORE2
section MORE3
variable {p : Program} {l : Launch} {e : Env} {R : Room} {s : State} {m : MethodId} {args : Array Value} {below : List Frame} {meth : Method} {c : Code} {A : Nat → Prop} {Q : State → Prop} {g : GD} {nL cells slots : Nat} {ws : va_W} {lv : List (Nat × Value)} {own : String} {cc : ByteArray} {Ts : List Cond}
/-- a call with more words below on the stack than the kit's rows allow: 16 of them -/
theorem runVX {y : MethodName} {bytes : ByteArray} {maxL mc ms n index : Nat} {ret : Option FieldType} {wsy : List Cond} {rm : Room} {Pc : Array Value → State → Prop} {Qc : Array Value → State → Outcome → State → Prop} {free : Addr → Prop} {C : String} {b : Addr} {As rest : List Value} {fr : JFrame} {H : Heap} {locs : List Loc} (S : CallFix p m c cc nL s args Ts own) (hM : Met l y wsy rm Pc Qc mc ms free) (cw : CallW R s args own C index y bytes maxL ret wsy rm mc ms n) (hlo : 16 + (maxL + 11) + rm.locals ≤ R.locals) (hp : PreV s H C b Pc As)
    (hg : fr.method = m) (hn : As.length = n) (hsize : fr.locals.size = nL) (hstack : fr.stack = As.reverse ++ .ref b :: rest) (hW : 2 * fr.monitorRoom + (rest.map fun v => v.category).sum ≤ 16) (hdg : decode cc fr.pc = .ok (.invokevirtual index, 3)) (hf : cells + mc ≤ R.cells ∧ slots + ms ≤ R.slots) :
    va_Run p l e R s m args below meth c H locs cells slots mc ms fr rest (Qc (Value.ref b :: As).toArray) (free) := by
  have hK : Back l R p e below s args y 3 16 (PreOf R mc ms Pc) (PostOf Qc mc ms free) := by
    obtain ⟨hrc, hrs, hfr, -, hws, hcw, -, hini, -⟩ := cw.1
    exact back_of (bytes := bytes) (maxL := maxL) (ret := ret) hM hp.1 hrc hrs hfr hlo hws hcw (fun a' U hW => word_at hW (Or.inl (by first | rfl | simp [Cond.onTables, Cond.keeps, Cond.steady])) hini)
  obtain ⟨⟨-, -, -, -, -, -, hcode, -, hy, hlen, hl⟩, hin, hse⟩ := cw
  obtain ⟨hx, hb, hml, ho, -⟩ := S
  obtain ⟨-, ⟨cellB, hcB, hoB, hclB⟩, hPc⟩ := hp
  intro T hT X
  obtain ⟨v, vm₁, ⟨U', l2, c2, s2⟩, hW₁, X', ⟨g', mk, t, L, e1, e2, hq, h1, hL, h2, h3⟩, st⟩ := callV X hx (C := C) (bytes := bytes) (maxL := maxL) (ret := ret) ho hl hin hse hcode hy hK (by rw [hT]; exact hcB) hoB hclB hg (hsize.trans hml.symm) (argsL := As) (rest := rest) (fun sig h => hn.trans (hlen sig h)) hstack hW (by rw [hb]; exact hdg)
    (fun vm₁ hW₁ => ⟨hf.1, hf.2, hPc (T.setVm vm₁) hT hW₁⟩)
  dsimp only [Pt.U, Pt.locs, Pt.cells, Pt.slots] at X' e1 e2 h1 h2 h3 st
  subst h1; subst h2; subst h3
  exact ⟨v, (T.setVm vm₁).calling g' mk (Value.ref b :: As).toArray, t, U', L, hT, X', hL, e1, e2, hq, st⟩
theorem r_callVlX {S : Type} {post : Int64 → S → Prop} {w1 : S → va_W} {y : MethodName} {wsy ws' : List Cond} {rm : Room} {mc ms maxL index : Nat} {bytes : ByteArray} {ret : Option FieldType} {Cn : String} {T : u_T} {N ci b : Nat} {fs : List Value} {As : List Value} {st0 : List Value} (pc : Nat) (C : Cx g p s m args meth c A own cc nL Ts) (hdg : decode cc pc = .ok (.invokevirtual index, 3)) (rest : List Value) (wc wr : va_W) (hM : ∀ sz : Nat, Met l y wsy rm (va_Pc (.ref b :: As) (PW g wc sz)) (va_Ql post (BW g (va_A wc sz) w1) (va_A wc sz)) mc ms (va_A wc sz)) (hG : GoodIn Ts (wsV own index Cn y wsy)) (hw : wsy = Cond.code y bytes maxL ret :: ws') (hrm : rm.cells = mc ∧ rm.slots = ms) (n : Nat) (hd : y.cls = Cn ∧ y.cls ≠ "java/lang/invoke/MethodHandle" ∧ y.cls ≠ "java/lang/invoke/VarHandle" ∧ (parseMethodDescriptor y.desc).map (fun d => d.parameters.length) = some n) (hR : rm.frames + 1 ≤ R.frames ∧ 16 + (maxL + 11) + rm.locals ≤ R.locals) (q0 : Nat) (he : ws[q0]? = some (b, .inr (ci, fs))) (hcl : vwCl[ci]? = some (Cn, T, N)) (isC isR : List Nat) (hC : isC.map (fun i => ws[i]?) = wc.map some) (hRr : isR.map (fun i => ws[i]?) = wr.map some) (hnC : va_nd isC = true) (hnR : va_nd isR = true) (hdis : ∀ i ∈ isR, i ∉ isC) (hst : st0 = As.reverse ++ .ref b :: rest) (hn : As.length = n) (hrest : (rest.map fun v => v.category).sum ≤ 16) (hf : cells + mc ≤ R.cells ∧ slots + ms ≤ R.slots)
    (kk : ∀ (r : Int64) (u : S), post r u → WW p l e R s m args below meth c A Q g nL (cells + mc) (slots + ms) (wr ++ w1 u) (pc + 3) lv (.long r :: rest)) : WW p l e R s m args below meth c A Q g nL cells slots ws pc lv st0 := fun H locs ls hP hD hS hl => by
  have hPc := hP.sub isC (fm_of_map hC)
  have hDc := hD.sub isC hnC hC
  have hFc := va_free (wc := wc) hD hS C.2.2.2.2.2.2.1 isC hC
  refine va_calll (runVX (As := As) (rest := rest) ⟨C.1, C.2.1, C.2.2.1, C.2.2.2.1, C.2.2.2.2.1⟩ (hM H.size) (cwV n C.2.2.2.2.1 hG hw hrm.1 hrm.2 hd ⟨hR.1, by omega⟩) hR.2 ⟨PW.blind, va_recv C.2.2.2.2.2.1.1 hP hcl he, fun U hU hW => ⟨rfl, by rw [hU], by rw [hU]; exact hPc, hDc.weaken (fun _ _ _ _ => trivial), C.2.2.2.2.2.1.go hS hW hU hFc⟩⟩ rfl hn hl.1 hst (show 2 * 0 + _ ≤ 16 by omega) hdg hf) hS (fun q _ h => hFc q h) hFc (fun r u t H1 locs1 ht hvm hw hB hz1 hk1 hS1 => ?_)
  obtain ⟨hP1, hD1⟩ := hB
  rw [ht] at hP1
  obtain ⟨hP2, hD2⟩ := va_join hP hD isC isR hC hRr hnR hdis hk1 hFc hP1 hD1
  exact kk r u hw H1 locs1 ls hP2 hD2 hS1 hl
end MORE3
theorem ofWF {l : Launch} {y : MethodName} {ws ws' : List Cond} {rm : Room} {Pc : Array Value → State → Prop} {Qc : Array Value → State → Outcome → State → Prop} {mc ms : Nat} {free : Addr → Prop} {cc : ByteArray} {maxL : Nat} {ret : Option FieldType} (hy : plainFor y = true) (hw : ws = Cond.code y cc maxL ret :: ws')
    (body : ∀ p e s m args below meth c s₁, BodyLoose p l y (headSpec ws rm) cc maxL ret e s m args below meth c s₁ → c.maxLocals = maxL → Pc args s → W p l e (headSpec ws rm).room s m args below meth c s.heap [] 0 0 (MQ below Qc args s mc ms free) (entryFrame m args maxL)) : Met l y ws rm Pc Qc mc ms free := by
  refine MetFree.of_bodySF (code := cc) (maxLocals := maxL) (ret := ret) hy ?_ ?_
  · intro args s m h hn
    obtain ⟨meth, c, h1, h2, h3, h4, h5, h6, -, -⟩ := Cond.code_spec hn (atoms_spec (ws := ws) h _ (by rw [hw]; exact List.mem_cons_self))
    exact ⟨meth, c, h1, h2, h3, h4, h5, h6⟩
  · intro p e s m args below meth c s₁ B hml hP _
    have hh0 : s₁.heap = s.heap := by rw [B.state]; rfl
    obtain ⟨t, a1, o, b1, b2, b3⟩ := body p e s m args below meth c s₁ B hml hP s₁ hh0 (Stand.of_body B)
    exact ⟨t, o, a1, b1, b2, ⟨b3.1, b3.2⟩⟩
theorem met_lF {l : Launch} {g : GD} {y : MethodName} {wsm ws' : List Cond} {rm : Room} {cc : ByteArray} {nL : Nat} {S : Type} {post : Int64 → S → Prop} {w1 : S → va_W} {mc ms : Nat} {WS : va_W} {sz : Nat} {av : List Value} (own : String) (hy : plainFor y = true) (ho : y.cls = own) (hw : wsm = Cond.code y cc nL (some .long) :: ws') (hle : (lg_sl av).length ≤ nL) (lv0 : List (Nat × Value)) (hlv : lv_args 0 av = lv0)
    (body : ∀ {p : Program} {e : Env} {s : State} {m : MethodId} {args : Array Value} {below : List Frame} {meth : Method} {c : Code} {A : Nat → Prop} {Q : State → Prop}, Cx g p s m args meth c A own cc nL wsm → meth.name = y.name → Rtl p l e rm s m args below meth c A Q g cc post w1 mc ms → WW p l e rm s m args below meth c A Q g nL 0 0 WS 0 lv0 []) :
    Met l y wsm rm (va_Pc av (PW g WS sz)) (va_Ql post (BW g (va_A WS sz) w1) (va_A WS sz)) mc ms (va_A WS sz) := by
  refine ofWF (cc := cc) (maxL := nL) (ret := (some .long)) hy hw ?_
  intro p e s m args below meth c s₁ B hml hv
  obtain ⟨rfl, hsz, hP, hD0, hK⟩ := hv
  subst hsz
  have hts := atoms_spec (ws := wsm) B.pre
  have hown : s.vm.findClass own = some m.cls := by rw [← ho]; exact findClass_of_methodNamed B.named
  have hlocks := B.notSynchronized
  have hl := lv_entry av (n := nL) hle
  rw [lg_entry_eq]
  exact body (A := va_A WS s.heap.size) ⟨B.exec, B.bytes, hml, hown, hts, hK, fun q h => Or.inr h, B.notSynchronized⟩ (name_of_methodNamed B.named B.method).1 (fun v u H locs ls pc cells slots hdg hp hP1 hD1 hS1 h1 h2 => W.widen h1 h2 (W.lret B.exec B.bytes B.returns (fun t ht hW => ⟨⟨v, u, rfl, hp, by rw [ht]; exact hP1, hD1⟩, hS1.F ht⟩) hS1.2.2 hdg)) s.heap [] _ hP hD0.self va_S.rf (hlv ▸ hl)
