section VXIA
variable {p : Program} {l : Launch} {e : Env} {R : Room} {s : State} {m : MethodId} {args : Array Value} {below : List Frame} {meth : Method} {c : Code} {T : State} {locs : List Loc} {cells slots : Nat}
theorem vx_callI (X : Stand p l e R s m args below meth c T locs cells slots) (hexec : p.tables.exec = Jvm.exec) {own : String} {index : Nat} {y : MethodName} {bytes : ByteArray} {maxL : Nat}
    (hown : s.vm.findClass own = some m.cls) (hy1 : y.name = "<init>") (hlink : (Cond.methodLink own index y).before args s = true) (hinst : (Cond.instanceMethod y).before args s = true)
    (hcode : (Cond.code y bytes maxL none).before args s = true) (hy : y.cls ≠ "java/lang/invoke/MethodHandle" ∧ y.cls ≠ "java/lang/invoke/VarHandle")
    {W9 : Nat} {Pre : Pt → Array Value → Prop} {Post : Pt → Array Value → Option Value → Pt → Prop} {PostX : Pt → Array Value → Addr → Pt → Prop} (hK : vx_Back l R p e below s args y 3 W9 Pre Post PostX)
    {g : JFrame} (hg : g.method = m) (hsize : g.locals.size = c.maxLocals) {a : Addr} {argsL rest : List Value} (hlen : ∀ sig, parseMethodDescriptor y.desc = some sig → argsL.length = sig.parameters.length)
    (hstack : g.stack = argsL.reverse ++ .ref a :: rest) (hW : 2 * g.monitorRoom + (rest.map fun v => v.category).sum ≤ W9) (hdg : decode c.code g.pc = .ok (.invokespecial index, 3))
    (hpre : ∀ vm₁, s.WarmedH vm₁ → Pre ⟨T.setVm vm₁, locs, cells, slots⟩ (Value.ref a :: argsL).toArray) :
    (∃ (v : Option Value) (vm₁ : Vm) (B : Pt), s.WarmedH vm₁ ∧ Stand p l e R s m args below meth c B.U B.locs B.cells B.slots ∧ Post ⟨T.setVm vm₁, locs, cells, slots⟩ (Value.ref a :: argsL).toArray v B ∧
      ∀ target, Steps p.tables e below (B.U.setTop { g with pc := g.pc + 3, stack := v.toList ++ rest }) target → Steps p.tables e below (T.setTop g) target) ∨
    (∃ (q : Addr) (vm₁ : Vm) (B : Pt), s.WarmedH vm₁ ∧ Stand p l e R s m args below meth c B.U B.locs B.cells B.slots ∧ PostX ⟨T.setVm vm₁, locs, cells, slots⟩ (Value.ref a :: argsL).toArray q B ∧
      Steps p.tables e below (T.setTop g) ((B.U.setTop { g with stack := rest }).pushFrame (.throwing q))) := by
  subst hg
  have hpl : e.platform.magicAccessors = ({} : Platform).magicAccessors := by rw [X.admits.platform]
  obtain ⟨mk, methM, cM, kP, vm₁, hnamed, hmethM, hcodeM, -, hlocalsM, -, hkP, -, hW₁, hstep₁⟩ := Steps.initColdArgs (e := e) X.here hexec X.warmed hpl hown hy1 hy hlink hinst hcode (f := g) rfl hlen hstack hdg
  have X₁ := X.noted hW₁
  rcases hK g.method meth c ⟨T.setVm vm₁, locs, cells, slots⟩ { g with stack := rest } (.invokespecial index) mk (Value.ref a :: argsL).toArray X₁ rfl hsize hdg hW (X₁.named hnamed) (hpre vm₁ X₁.warmed) with ⟨v, B, X', hpost, hsteps⟩ | ⟨q, B, X', hpost, hsteps⟩
  · exact Or.inl ⟨v, vm₁, B, X₁.warmed, X', hpost, fun target h => hstep₁ _ fun acts => by rw [doInvoke_state]; exact hsteps.trans h⟩
  · exact Or.inr ⟨q, vm₁, B, X₁.warmed, X', hpost, hstep₁ _ fun acts => by rw [doInvoke_state]; exact hsteps⟩
end VXIA
section VXIB
variable {p : Program} {l : Launch} {e : Env} {R : Room} {s : State} {m : MethodId} {args : Array Value} {below : List Frame} {meth : Method} {c : Code} {H : Heap} {locs : List Loc} {cells slots : Nat}
variable {y : MethodName} {bytes cc : ByteArray} {maxL nL mc ms n index : Nat} {ret : Option FieldType} {ws : List Cond} {rm : Room} {Pc : Array Value → State → Prop} {Qc : Array Value → State → Outcome → State → Prop} {XC : String → State → State → Prop} {free : Addr → Prop} {Ts : List Cond} {own C : String} {b : Addr} {As rest : List Value} {g : JFrame}
theorem vx_runI (S : CallFix p m c cc nL s args Ts own) (hM : vx_Met l y ws rm Pc Qc XC mc ms free) (cw : CallB R s args own index y bytes maxL none ws rm mc ms n ∧ y.name = "<init>" ∧ (Cond.instanceMethod y).before args s = true) (hp : PreS s H Pc (.ref b :: As))
    (hg : g.method = m) (hn : As.length = n) (hsize : g.locals.size = nL) (hstack : g.stack = As.reverse ++ .ref b :: rest) (hW : 2 * g.monitorRoom + (rest.map fun v => v.category).sum ≤ 8) (hdg : decode cc g.pc = .ok (.invokespecial index, 3)) (hf : cells + mc ≤ R.cells ∧ slots + ms ≤ R.slots) :
    vx_Run p l e R s m args below meth c H locs cells slots mc ms g rest (Qc (Value.ref b :: As).toArray) XC free := by
  have hK : vx_Back l R p e below s args y 3 8 (PreOf R mc ms Pc) (PostOf Qc mc ms free) (vx_Post XC mc ms free) := vx_callBack cw.1 hM hp.1
  obtain ⟨⟨-, -, -, -, -, -, hcode, -, hy, hlen, hl⟩, hy1, hin⟩ := cw
  obtain ⟨hx, hb, hml, ho, -⟩ := S
  have hPc := hp.2
  intro T hT X
  rcases vx_callI X hx (bytes := bytes) (maxL := maxL) ho hy1 hl hin hcode hy hK hg (hsize.trans hml.symm) (a := b) (argsL := As) (rest := rest) (fun sig h => hn.trans (hlen sig h)) hstack hW (by rw [hb]; exact hdg)
    (fun vm₁ hW₁ => ⟨hf.1, hf.2, hPc (T.setVm vm₁) hT hW₁⟩) with ⟨v, vm₁, ⟨U', l2, c2, s2⟩, hW₁, X', ⟨g', mk, t, L, e1, e2, hq, h1, hL, h2, h3⟩, st⟩ | ⟨q, vm₁, ⟨U', l2, c2, s2⟩, hW₁, X', ⟨g', mk, t, L, E, ce, e1, e2, hq, hce, hcv, hcl, h1, hL, h2, h3⟩, st⟩
  · dsimp only [Pt.U, Pt.locs, Pt.cells, Pt.slots] at X' e1 e2 h1 h2 h3 st
    subst h1; subst h2; subst h3
    exact Or.inl ⟨v, (T.setVm vm₁).calling g' mk (Value.ref b :: As).toArray, t, U', L, hT, X', hL, e1, e2, hq, st⟩
  · dsimp only [Pt.U, Pt.locs, Pt.cells, Pt.slots] at X' e1 e2 h1 h2 h3 st hcl
    subst h1; subst h2; subst h3
    exact Or.inr ⟨q, (T.setVm vm₁).calling g' mk (Value.ref b :: As).toArray, t, U', L, E, ce, hT, X', hL, e1, e2, hq, hce, hcv, vx_cls hW₁ hcl, st⟩
end VXIB
/-! ===== END ===== -/
/-! ===== BEGIN a private constructor of a nest mate that throws ===== -/
section VXIC
variable {p : Program} {l : Launch} {e : Env} {R : Room} {s : State} {m : MethodId} {args : Array Value} {below : List Frame} {meth : Method} {c : Code} {T : State} {locs : List Loc} {cells slots : Nat}
theorem vx_callIN (X : Stand p l e R s m args below meth c T locs cells slots) (hexec : p.tables.exec = Jvm.exec) {own : String} {index : Nat} {host : String} {y : MethodName} {bytes : ByteArray} {maxL : Nat}
    (hown : s.vm.findClass own = some m.cls) (hy1 : y.name = "<init>") (hlink : (Cond.methodLinkNest own index y host).before args s = true) (hinst : (Cond.instanceMethod y).before args s = true)
    (hcode : (Cond.code y bytes maxL none).before args s = true) (hy : y.cls ≠ "java/lang/invoke/MethodHandle" ∧ y.cls ≠ "java/lang/invoke/VarHandle")
    {W9 : Nat} {Pre : Pt → Array Value → Prop} {Post : Pt → Array Value → Option Value → Pt → Prop} {PostX : Pt → Array Value → Addr → Pt → Prop} (hK : vx_Back l R p e below s args y 3 W9 Pre Post PostX)
    {g : JFrame} (hg : g.method = m) (hsize : g.locals.size = c.maxLocals) {a : Addr} {argsL rest : List Value} (hlen : ∀ sig, parseMethodDescriptor y.desc = some sig → argsL.length = sig.parameters.length)
    (hstack : g.stack = argsL.reverse ++ .ref a :: rest) (hW : 2 * g.monitorRoom + (rest.map fun v => v.category).sum ≤ W9) (hdg : decode c.code g.pc = .ok (.invokespecial index, 3))
    (hpre : ∀ vm₁, s.WarmedH vm₁ → Pre ⟨T.setVm vm₁, locs, cells, slots⟩ (Value.ref a :: argsL).toArray) :
    (∃ (v : Option Value) (vm₁ : Vm) (B : Pt), s.WarmedH vm₁ ∧ Stand p l e R s m args below meth c B.U B.locs B.cells B.slots ∧ Post ⟨T.setVm vm₁, locs, cells, slots⟩ (Value.ref a :: argsL).toArray v B ∧
      ∀ target, Steps p.tables e below (B.U.setTop { g with pc := g.pc + 3, stack := v.toList ++ rest }) target → Steps p.tables e below (T.setTop g) target) ∨
    (∃ (q : Addr) (vm₁ : Vm) (B : Pt), s.WarmedH vm₁ ∧ Stand p l e R s m args below meth c B.U B.locs B.cells B.slots ∧ PostX ⟨T.setVm vm₁, locs, cells, slots⟩ (Value.ref a :: argsL).toArray q B ∧
      Steps p.tables e below (T.setTop g) ((B.U.setTop { g with stack := rest }).pushFrame (.throwing q))) := by
  subst hg
  have hpl : e.platform.magicAccessors = ({} : Platform).magicAccessors := by rw [X.admits.platform]
  obtain ⟨mk, methM, cM, kP, vm₁, hnamed, hmethM, hcodeM, -, hlocalsM, -, hkP, -, hW₁, hstep₁⟩ := Steps.initColdArgsNest (e := e) X.here hexec X.warmed hpl hown hy1 hy hlink hinst hcode (f := g) rfl hlen hstack hdg
  have X₁ := X.noted hW₁
  rcases hK g.method meth c ⟨T.setVm vm₁, locs, cells, slots⟩ { g with stack := rest } (.invokespecial index) mk (Value.ref a :: argsL).toArray X₁ rfl hsize hdg hW (X₁.named hnamed) (hpre vm₁ X₁.warmed) with ⟨v, B, X', hpost, hsteps⟩ | ⟨q, B, X', hpost, hsteps⟩
  · exact Or.inl ⟨v, vm₁, B, X₁.warmed, X', hpost, fun target h => hstep₁ _ fun acts => by rw [doInvoke_state]; exact hsteps.trans h⟩
  · exact Or.inr ⟨q, vm₁, B, X₁.warmed, X', hpost, hstep₁ _ fun acts => by rw [doInvoke_state]; exact hsteps⟩
end VXIC
section VXID
variable {p : Program} {l : Launch} {e : Env} {R : Room} {s : State} {m : MethodId} {args : Array Value} {below : List Frame} {meth : Method} {c : Code} {H : Heap} {locs : List Loc} {cells slots : Nat}
theorem vx_runIN {y : MethodName} {bytes cc : ByteArray} {maxL nL mc ms n index : Nat} {ws : List Cond} {rm : Room} {Pc : Array Value → State → Prop} {Qc : Array Value → State → Outcome → State → Prop} {XC : String → State → State → Prop} {free : Addr → Prop} {Ts : List Cond} {own host : String} {b : Addr} {As rest : List Value} {g : JFrame}
    (S : CallFix p m c cc nL s args Ts own) (hM : vx_Met l y ws rm Pc Qc XC mc ms free) (cw : va_CN R s args own index y host bytes maxL none ws rm mc ms n ∧ y.name = "<init>" ∧ (Cond.instanceMethod y).before args s = true) (hp : PreS s H Pc (.ref b :: As))
    (hg : g.method = m) (hn : As.length = n) (hsize : g.locals.size = nL) (hstack : g.stack = As.reverse ++ .ref b :: rest) (hW : 2 * g.monitorRoom + (rest.map fun v => v.category).sum ≤ 8) (hdg : decode cc g.pc = .ok (.invokespecial index, 3)) (hf : cells + mc ≤ R.cells ∧ slots + ms ≤ R.slots) :
    vx_Run p l e R s m args below meth c H locs cells slots mc ms g rest (Qc (Value.ref b :: As).toArray) XC free := by
  obtain ⟨⟨⟨hrc, hrs, hfr, hlo, hws, hcw⟩, hcode, hini, hy, hlen, hl⟩, hx1, hx2⟩ := cw
  have hK : vx_Back l R p e below s args y 3 8 (PreOf R mc ms Pc) (PostOf Qc mc ms free) (vx_Post XC mc ms free) := vx_back (bytes := bytes) (maxL := maxL) (ret := none) hM hp.1 hrc hrs hfr hlo hws hcw (fun a' U hW => word_at hW (Or.inl (by first | rfl | simp [Cond.onTables, Cond.keeps, Cond.steady])) hini)
  obtain ⟨hx, hb, hml, ho, -⟩ := S
  have hPc := hp.2
  intro T hT X
  rcases vx_callIN X hx (bytes := bytes) (maxL := maxL) ho hx1 hl hx2 hcode hy hK hg (hsize.trans hml.symm) (a := b) (argsL := As) (rest := rest) (fun sig h => hn.trans (hlen sig h)) hstack hW (by rw [hb]; exact hdg)
    (fun vm₁ hW₁ => ⟨hf.1, hf.2, hPc (T.setVm vm₁) hT hW₁⟩) with ⟨v, vm₁, ⟨U', l2, c2, s2⟩, hW₁, X', ⟨g', mk, t, L, e1, e2, hq, h1, hL, h2, h3⟩, st⟩ | ⟨q, vm₁, ⟨U', l2, c2, s2⟩, hW₁, X', ⟨g', mk, t, L, E, ce, e1, e2, hq, hce, hcv, hcl, h1, hL, h2, h3⟩, st⟩
  · dsimp only [Pt.U, Pt.locs, Pt.cells, Pt.slots] at X' e1 e2 h1 h2 h3 st
    subst h1; subst h2; subst h3
    exact Or.inl ⟨v, (T.setVm vm₁).calling g' mk (Value.ref b :: As).toArray, t, U', L, hT, X', hL, e1, e2, hq, st⟩
  · dsimp only [Pt.U, Pt.locs, Pt.cells, Pt.slots] at X' e1 e2 h1 h2 h3 st hcl
    subst h1; subst h2; subst h3
    exact Or.inr ⟨q, (T.setVm vm₁).calling g' mk (Value.ref b :: As).toArray, t, U', L, E, ce, hT, X', hL, e1, e2, hq, hce, hcv, vx_cls hW₁ hcl, st⟩
end VXID
/-! statics, casts, natives, calls, throws, ends -/
section RC
variable {E : Ev} {p : Program} {l : Launch} {e : Env} {R : Room} {s : State} {m : MethodId} {args : Array Value} {below : List Frame} {meth : Method} {c : Code} {nL : Nat} {Q : State → Prop} {cc : ByteArray} {own nm : String} {ret : Option FieldType} {tb : List ExceptionTableEntry}
variable {h : Hp} {cells slots pc : Nat} {lv lv' : List (Nat × Value)} {st : List Value}
theorem r_getsE (C : CX E p l s m args meth c cc nL own nm ret tb) {idx : Nat} {ref : String} (hlink : Cond.fieldLink own idx ref "DEFAULTCAPACITY_EMPTY_ELEMENTDATA" "[Ljava/lang/Object;" ∈ BG) (href : ref = AL) (hdg : decode cc pc = .ok (.getstatic idx, 3))
    (kk : WS E p l e R s m args below meth c nL Q h cells slots (pc + 3) lv (.ref (eE E) :: st)) : WS E p l e R s m args below meth c nL Q h cells slots pc lv st := fun H locs ls hH hS hl =>
  va_gets C.1 C.2.1 C.2.2.2.2.2.1.2.1 hS C.2.2.2.1 (C.2.2.2.2.1 _ hlink) (fun x hx => by rw [href]; exact hx) hdg (kk H locs ls hH hS hl)
/-- checkcast to the object's own class -/
theorem r_cast (C : CX E p l s m args meth c cc nL own nm ret tb) {ci N t idx : Nat} {Cn : String} {T : u_T} {ty : Nat → FieldType} {r : Option Nat} {fs : Nat → List Value} (K : CLS ci Cn T N ty) (hlink : Cond.classLink own idx Cn ∈ BG) (g : ∀ x, r = some x → hT h x = t) (ht : t ≠ 0) (he : ∀ x, cF E.2.1 t (hL h x) (hI h x) (hR h x) (hJ h x) = .inr (ci, fs x)) (hdg : decode cc pc = .ok (.checkcast idx, 3))
    (kk : WS E p l e R s m args below meth c nL Q h cells slots (pc + 3) lv (va_rf r :: st)) : WS E p l e R s m args below meth c nL Q h cells slots pc lv (va_rf r :: st) := fun H locs ls hH hS hl => by
  have k9 := kk H locs ls hH hS hl
  cases r with
  | none => exact lv_castN C.1 C.2.1 hdg k9
  | some x =>
    have gx := g x rfl
    have hP := va_P1 hH (a := x) (by rw [gx]; exact ht) (by rw [gx]; exact no27 K.1 (he x))
    exact va_castS (nm := Cn) (a := x) C.1 C.2.1 C.2.2.2.1 (C.2.2.2.2.1 _ hlink) (C.2.2.2.2.2.1.1.1 ci _ K.1).2 (va_recv C.2.2.2.2.2.1.1 hP (ci := ci) (q0 := 0) K.1 (by rw [cE_t gx, he]; rfl)) hdg k9
theorem r_mmax (C : CX E p l s m args meth c cc nL own nm ret tb) {idx : Nat} (hlink : Cond.methodLink own idx Lib.Math.max.name ∈ BG) (h2 : Cond.static Lib.Math.max.name ∈ BG) (h3 : Cond.initialized "java/lang/Math" ∈ BG) (h4 : Cond.code Lib.Math.max.name Lib.Math.max.code 2 (some .int) ∈ BG) (hf : 1 ≤ R.frames) (hlo : (st.map fun v => v.category).sum + 13 ≤ R.locals) (hc : cells ≤ R.cells) (hs : slots ≤ R.slots) {x y : Int32} (hdg : decode cc pc = .ok (.invokestatic idx, 3))
    (kk : WS E p l e R s m args below meth c nL Q h cells slots (pc + 3) lv (.int (if x < y then y else x) :: st)) : WS E p l e R s m args below meth c nL Q h cells slots pc lv (.int y :: .int x :: st) := fun H locs ls hH hS hl =>
  va_mmax C.1 C.2.1 (C.2.2.1.trans hl.1.symm) C.2.2.2.1 (C.2.2.2.2.1 _ hlink) (C.2.2.2.2.1 _ h2) (C.2.2.2.2.1 _ h3) (C.2.2.2.2.1 _ h4) hf hlo hc hs hdg (kk H locs ls hH hS hl)
theorem r_mmin (C : CX E p l s m args meth c cc nL own nm ret tb) {idx : Nat} (hlink : Cond.methodLink own idx Lib.Math.min.name ∈ BG) (h2 : Cond.static Lib.Math.min.name ∈ BG) (h3 : Cond.initialized "java/lang/Math" ∈ BG) (h4 : Cond.code Lib.Math.min.name Lib.Math.min.code 2 (some .int) ∈ BG) (hf : 1 ≤ R.frames) (hlo : (st.map fun v => v.category).sum + 13 ≤ R.locals) (hc : cells ≤ R.cells) (hs : slots ≤ R.slots) {x y : Int32} (hdg : decode cc pc = .ok (.invokestatic idx, 3))
    (kk : WS E p l e R s m args below meth c nL Q h cells slots (pc + 3) lv (.int (if y < x then y else x) :: st)) : WS E p l e R s m args below meth c nL Q h cells slots pc lv (.int y :: .int x :: st) := fun H locs ls hH hS hl =>
  va_mmin C.1 C.2.1 (C.2.2.1.trans hl.1.symm) C.2.2.2.1 (C.2.2.2.2.1 _ hlink) (C.2.2.2.2.1 _ h2) (C.2.2.2.2.1 _ h3) (C.2.2.2.2.1 _ h4) hf hlo hc hs hdg (kk H locs ls hH hS hl)
theorem r_objInit (C : CX E p l s m args meth c cc nL own nm ret tb) {idx a : Nat} (h1 : Cond.methodLink own idx objectInit ∈ BG) (h2 : Cond.instanceMethod objectInit ∈ BG) (h3 : Cond.code objectInit ⟨#[0xb1]⟩ 1 none ∈ BG) (hf : 1 ≤ R.frames) (hlo : (st.map fun v => v.category).sum + 12 ≤ R.locals) (hdg : decode cc pc = .ok (.invokespecial idx, 3))
    (kk : WS E p l e R s m args below meth c nL Q h cells slots (pc + 3) lv st) : WS E p l e R s m args below meth c nL Q h cells slots pc lv (.ref a :: st) := fun H locs ls hH hS hl =>
  W.objInit C.1 C.2.1 C.2.2.2.1 (C.2.2.2.2.1 _ h1) (C.2.2.2.2.1 _ h2) (C.2.2.2.2.1 _ h3) rfl (by rw [C.2.2.1]; exact hl.1) rfl hdg hf (by show 2 * 0 + _ + _ ≤ _; omega) (kk H locs ls hH hS hl)
/-- the class object of a row of objects -/
theorem r_getC (C : CX E p l s m args meth c cc nL own nm ret tb) {idx a : Nat} (g : hT h a = 26) (h1 : Cond.methodLink own idx ⟨"java/lang/Object", "getClass", "()Ljava/lang/Class;"⟩ ∈ BG) (h2 : Cond.selects "[Ljava/lang/Object;" ⟨"java/lang/Object", "getClass", "()Ljava/lang/Class;"⟩ ⟨"java/lang/Object", "getClass", "()Ljava/lang/Class;"⟩ ∈ BG) (h3 : Cond.instanceMethod ⟨"java/lang/Object", "getClass", "()Ljava/lang/Class;"⟩ ∈ BG) (h4 : Cond.native ⟨"java/lang/Object", "getClass", "()Ljava/lang/Class;"⟩ ∈ BG) (hf : 1 ≤ R.frames) (hlo : (st.map fun v => v.category).sum + 14 ≤ R.locals) (hdg : decode cc pc = .ok (.invokevirtual idx, 3))
    (kk : WS E p l e R s m args below meth c nL Q h cells slots (pc + 3) lv (.ref (eM E) :: st)) : WS E p l e R s m args below meth c nL Q h cells slots pc lv (.ref a :: st) := fun H locs ls hH hS hl => by
  have hat := (hH a (by rw [g]; decide)).1 (by rw [g]; decide)
  rw [cE_t g, ar26] at hat
  have hcell : H[a]? = some (vp_cell (E.2.1 6) (hL h a, .inr (.inr (.inr (.inr (hR h a)))))) := hat
  exact va_getC C.1 C.2.1 (C.2.2.1.trans hl.1.symm) C.2.2.2.1 (C.2.2.2.2.1 _ h1) (va_Dc.use C.2.2.2.2.2.1.2.2.2.2.2.2.2.2.2.1) (C.2.2.2.2.1 _ h2) (C.2.2.2.2.1 _ h3) (C.2.2.2.2.1 _ h4) C.2.2.2.2.2.1.2.2.2.2.2.2.2.2.2.2.1 ⟨_, hcell, rfl, va_nmO (C.2.2.2.2.2.1.1.2 6 _ rfl).2 rfl⟩ hf hlo hdg (kk H locs ls hH hS hl)
theorem r_ldcM (C : CX E p l s m args meth c cc nL own nm ret tb) {idx : Nat} (hlink : Cond.classLink own idx "[Ljava/lang/Object;" ∈ BG) (hdg : decode cc pc = .ok (.ldc idx, 2))
    (kk : WS E p l e R s m args below meth c nL Q h cells slots (pc + 2) lv (.ref (eM E) :: st)) : WS E p l e R s m args below meth c nL Q h cells slots pc lv st := fun H locs ls hH hS hl =>
  va_ldcM C.1 C.2.1 C.2.2.2.1 (C.2.2.2.2.1 _ hlink) C.2.2.2.2.2.1.2.2.2.2.2.2.2.2.2.2.1 hdg (kk H locs ls hH hS hl)
/-- System.arraycopy between rows of objects -/
theorem r_copy (C : CX E p l s m args meth c cc nL own nm ret tb) {idx a0 a : Nat} {sp dp n : Int32} (h1 : Cond.methodLink own idx arraycopyName ∈ BG) (h2 : Cond.native arraycopyName ∈ BG) (h3 : Cond.static arraycopyName ∈ BG) (h4 : Cond.initialized "java/lang/System" ∈ BG) (g0 : hT h a0 = 26) (g : hT h a = 26) (n1 : ¬ sp < 0) (n2 : ¬ dp < 0) (n3 : ¬ n < 0) (n4 : sp.toNatClampNeg + n.toNatClampNeg ≤ hL h a0) (n5 : dp.toNatClampNeg + n.toNatClampNeg ≤ hL h a) (hel : ∀ i : Nat, i < n.toNatClampNeg → ∀ y : Nat, hR h a0 (sp.toNatClampNeg + i) = some y → hT h y = 2 ∨ hT h y = 3 ∨ hT h y = 5 ∨ hT h y = 6) (hf : 1 ≤ R.frames) (hlo : (st.map fun v => v.category).sum + (nativeFrameWords "java/lang/System" "arraycopy" 5 + 11) ≤ R.locals) (hdg : decode cc pc = .ok (.invokestatic idx, 3))
    (kk : WS E p l e R s m args below meth c nL Q (sA h a (va_cpy (hR h a0) (hR h a) sp.toNatClampNeg dp.toNatClampNeg n.toNatClampNeg)) cells slots (pc + 3) lv st) : WS E p l e R s m args below meth c nL Q h cells slots pc lv (.int n :: .int dp :: .ref a :: .int sp :: .ref a0 :: st) := fun H locs ls hH hS hl => by
  obtain ⟨ws, hP, hD, hcov, -⟩ := ht_ws hH
  obtain ⟨q0, hq0⟩ := hcov a0 (by rw [g0]; decide) (by rw [g0]; decide)
  obtain ⟨q1, hq1⟩ := hcov a (by rw [g]; decide) (by rw [g]; decide)
  rw [cE_t g0, ar26] at hq0
  rw [cE_t g, ar26] at hq1
  have any : ∀ (y t ci : Nat) (Cn : String) (T : u_T) (N : Nat) (ty : Nat → FieldType) (fs : List Value), CLS ci Cn T N ty → (Cn, "java/lang/Object") ∈ CAS → hT h y = t → t ≠ 0 → cF E.2.1 t (hL h y) (hI h y) (hR h y) (hJ h y) = .inr (ci, fs) → va_Any "java/lang/Object" s H y := by
    intro y t ci Cn T N ty fs K hca gy ht he
    have hPy := va_P1 hH (a := y) (by rw [gy]; exact ht) (by rw [gy]; exact no27 K.1 he)
    refine va_rAny C.2.2.2.2.2.1.1 hPy (q0 := 0) (ci := ci) (by rw [cE_t gy, he]; rfl) K.1 (fun comp c0 f1 f2 => ?_)
    obtain ⟨c1, t1, f3, f4, f5⟩ := Cond.castable_spec (va_Nw.use (A := args) rfl (C.2.2.2.2.2.1.2.2.2.2.2.1 _ hca))
    cases f1.symm.trans f4
    cases f2.symm.trans f3
    exact f5
  refine va_copyM (E0 := "java/lang/Object") (E1 := "java/lang/Object") C.1 C.2.1 (C.2.2.1.trans hl.1.symm) C.2.2.2.1 (C.2.2.2.2.1 _ h1) (C.2.2.2.2.1 _ h2) (C.2.2.2.2.1 _ h3) (C.2.2.2.2.1 _ h4) C.2.2.2.2.2.1.1 hP hD hS q0 q1 6 6 hq0 hq1 rfl rfl n1 n2 n3 n4 n5 (fun i hi y hy => ?_) hf hlo hdg (fun H1 locs1 hP1 _ hS1 => ?_)
  · rcases hel i hi y hy with z | z | z | z
    · exact any y 2 1 _ _ _ _ _ K2 (by decide +kernel) z (by decide) ob2
    · exact any y 3 2 _ _ _ _ _ K3 (by decide +kernel) z (by decide) ob3
    · exact any y 5 4 _ _ _ _ _ K5 (by decide +kernel) z (by decide) ob5
    · exact any y 6 5 _ _ _ _ _ K6 (by decide +kernel) z (by decide) ob6
  · exact kk H1 locs1 ls (ht_set hH C.2.2.2.2.2.2.2.2.1 hS hS1 hcov hq1 hP1 (fun _ => rfl) (by rw [cE_sA_t g, ar26]) (fun b hb => cE_sA hb) (by rw [g]; decide)) hS1 hl
/-! the law's script -/
theorem r_sld (C : CX E p l s m args meth c cc nL own nm ret tb) {b L : Nat} {xs : Nat → Int32} {i : Int32} (hX : va_X b L xs s s.heap) (hbl : b < s.heap.size) (hb : b < eB E) (hin : vp_in i L) (hdg : decode cc pc = .ok (.iaload, 1))
    (kk : WS E p l e R s m args below meth c nL Q h cells slots (pc + 1) lv (.int (xs i.toNatClampNeg) :: st)) : WS E p l e R s m args below meth c nL Q h cells slots pc lv (.int i :: .ref b :: st) := fun H locs ls hH hS hl =>
  va_sld C.1 C.2.1 hX hbl (Nat.not_le.mpr hb) hS hin hdg (kk H locs ls hH hS hl)
theorem r_slen (C : CX E p l s m args meth c cc nL own nm ret tb) {b L : Nat} {xs : Nat → Int32} (hX : va_X b L xs s s.heap) (hbl : b < s.heap.size) (hb : b < eB E) (hdg : decode cc pc = .ok (.arraylength, 1))
    (kk : WS E p l e R s m args below meth c nL Q h cells slots (pc + 1) lv (.int (nI L) :: st)) : WS E p l e R s m args below meth c nL Q h cells slots pc lv (.ref b :: st) := fun H locs ls hH hS hl =>
  va_slen C.1 C.2.1 hX hbl (Nat.not_le.mpr hb) hS hdg (kk H locs ls hH hS hl)
theorem a_Sl (C : CX E p l s m args meth c cc nL own nm ret tb) {a : Nat} (g : a = (eS E).1) (hdg : decode cc pc = .ok (.arraylength, 1))
    (kk : WS E p l e R s m args below meth c nL Q h cells slots (pc + 1) lv (.int (nI (eS E).2.1) :: st)) : WS E p l e R s m args below meth c nL Q h cells slots pc lv (.ref a :: st) := by
  subst g
  have z := C.2.2.2.2.2.1.2.2.2.2.2.2.2.2.2.2.2
  exact r_slen C z.1 z.2.1 z.2.2 hdg kk
theorem r_sldE (C : CX E p l s m args meth c cc nL own nm ret tb) {a : Nat} {i : Int32} (g : a = (eS E).1) (hin : vp_in i (eS E).2.1) (hdg : decode cc pc = .ok (.iaload, 1))
    (kk : WS E p l e R s m args below meth c nL Q h cells slots (pc + 1) lv (.int ((eS E).2.2 i.toNatClampNeg) :: st)) : WS E p l e R s m args below meth c nL Q h cells slots pc lv (.int i :: .ref a :: st) := by
  subst g
  have z := C.2.2.2.2.2.1.2.2.2.2.2.2.2.2.2.2.2
  exact r_sld C z.1 z.2.1 z.2.2 hin hdg kk
end RC
/-! contracts -/
def pcP (E : Ev) (h : Hp) (av : List Value) : Array Value → State → Prop := fun a U => a = av.toArray ∧ HT E h U.heap ∧ EV E U U.heap ∧ eB E ≤ U.heap.size
def qcP (E : Ev) (post : Option Value → Hp → Prop) : Array Value → State → Outcome → State → Prop := fun _ st o t => (∃ v h', o = .returned v ∧ post v h' ∧ HT E h' t.heap) ∧ va_F (bsA E) st t
def xcP (E : Ev) (px : String → Hp → Prop) : String → State → State → Prop := fun X st t => (∃ h', px X h' ∧ HT E h' t.heap) ∧ va_F (bsA E) st t
/-- the method y, from the typed heap h, with these arguments: it returns with post or throws with px -/
def MT (E : Ev) (l : Launch) (y : MethodName) (bytes : ByteArray) (maxL : Nat) (ret : Option FieldType) (fr lo mc ms : Nat) (h : Hp) (av : List Value) (post : Option Value → Hp → Prop) (px : String → Hp → Prop) : Prop :=
  vx_Met l y (.code y bytes maxL ret :: BG) { frames := fr, cells := mc, slots := ms, locals := lo } (pcP E h av) (qcP E post) (xcP E px) mc ms (bsA E)
/-- the same for a method with handlers -/
def MTW (E : Ev) (l : Launch) (y : MethodName) (bytes : ByteArray) (maxL : Nat) (ret : Option FieldType) (hh : List (Nat × Nat × Nat × Nat)) (fr lo mc ms : Nat) (h : Hp) (av : List Value) (post : Option Value → Hp → Prop) (px : String → Hp → Prop) : Prop :=
  vx_Met l y (.codeWith y bytes maxL ret hh :: BG) { frames := fr, cells := mc, slots := ms, locals := lo } (pcP E h av) (qcP E post) (xcP E px) mc ms (bsA E)
abbrev rmOf (fr mc ms lo : Nat) : Room := { frames := fr, cells := mc, slots := ms, locals := lo }
theorem MT.of {E : Ev} {l : Launch} {y : MethodName} {bytes : ByteArray} {maxL : Nat} {ret : Option FieldType} {fr lo mc ms : Nat} {h : Hp} {av : List Value} {post : Option Value → Hp → Prop} {px : String → Hp → Prop}
    (hy : plainName y.cls = true) (hl : l.stackTraces = false) (hlen : (lg_sl av).length ≤ maxL)
    (body : ∀ (p : Program) (e : Env) (s : State) (m : MethodId) (args : Array Value) (below : List Frame) (meth : Method) (c : Code), CX E p l s m args meth c bytes maxL y.cls y.name ret [] →
      WS E p l e (rmOf fr mc ms lo) s m args below meth c maxL (vx_MQ below (qcP E post) (xcP E px) args s mc ms (bsA E)) h 0 0 0 (lv_args 0 av) []) : MT E l y bytes maxL ret fr lo mc ms h av post px := by
  refine vx_ofW (cc := bytes) (maxL := maxL) (ret := ret) hy rfl ?_
  intro p e s m args below meth c s₁ B hml hno hv
  obtain ⟨rfl, hH, hE, hB⟩ := hv
  have hts : ∀ w ∈ (Cond.code y bytes maxL ret :: BG), w.before av.toArray s = true := atoms_spec (ws := Cond.code y bytes maxL ret :: BG) B.pre
  have hl9 := lv_entry av (n := maxL) hlen
  rw [lg_entry_eq]
  have htb : c.exceptionTable.toList = [] := by
    cases hq : c.exceptionTable.toList with
    | nil => rfl
    | cons x t => exact (hno x (by rw [hq]; exact List.mem_cons_self)).elim
  exact body p e s m av.toArray below meth c ⟨B.exec, B.bytes, hml, findClass_of_methodNamed B.named, fun w hw => hts w (List.mem_cons_of_mem _ hw), hE, B.notSynchronized, hl, hB, B.returns, (name_of_methodNamed B.named B.method).1, htb⟩ s.heap [] _ hH va_S.rf hl9
theorem MTW.of {E : Ev} {l : Launch} {y : MethodName} {bytes : ByteArray} {maxL : Nat} {ret : Option FieldType} {hh : List (Nat × Nat × Nat × Nat)} {fr lo mc ms : Nat} {h : Hp} {av : List Value} {post : Option Value → Hp → Prop} {px : String → Hp → Prop}
    (hy : plainName y.cls = true) (hl : l.stackTraces = false) (hlen : (lg_sl av).length ≤ maxL)
    (body : ∀ (p : Program) (e : Env) (s : State) (m : MethodId) (args : Array Value) (below : List Frame) (meth : Method) (c : Code), CX E p l s m args meth c bytes maxL y.cls y.name ret (tableOf hh) →
      WS E p l e (rmOf fr mc ms lo) s m args below meth c maxL (vx_MQ below (qcP E post) (xcP E px) args s mc ms (bsA E)) h 0 0 0 (lv_args 0 av) []) : MTW E l y bytes maxL ret hh fr lo mc ms h av post px := by
  refine vx_ofWH (cc := bytes) (maxL := maxL) (ret := ret) (hh := hh) hy rfl ?_
  intro p e s m args below meth c s₁ B hml hv
  obtain ⟨rfl, hH, hE, hB⟩ := hv
  have hts : ∀ w ∈ (Cond.codeWith y bytes maxL ret hh :: BG), w.before av.toArray s = true := atoms_spec (ws := Cond.codeWith y bytes maxL ret hh :: BG) B.pre
  have hl9 := lv_entry av (n := maxL) hlen
  rw [lg_entry_eq]
  exact body p e s m av.toArray below meth c ⟨B.exec, B.bytes, hml, findClass_of_methodNamed B.named, fun w hw => hts w (List.mem_cons_of_mem _ hw), hE, B.notSynchronized, hl, hB, B.returns, (name_of_methodNamed B.named B.method).1, vx_table (x := y) B (hts _ List.mem_cons_self)⟩ s.heap [] _ hH va_S.rf hl9
theorem pcP_blind (E : Ev) (h : Hp) (av : List Value) : FrameBlind (pcP E h av) := fun a U g mk q => ⟨q.1, q.2.1, EV.same q.2.2.1 rfl, q.2.2.2⟩
theorem pcP_at {E : Ev} {h : Hp} {av : List Value} {s : State} {H : Heap} {locs : List Loc} (hH : HT E h H) (hE : EV E s s.heap) (hS : va_S (bsA E) s.heap H locs) (hB : eB E ≤ s.heap.size) : ∀ U : State, U.heap = H → s.WarmedH U.vm → pcP E h av av.toArray U := fun U hU hW => by
  subst hU
  exact ⟨rfl, hH, hE.go hS hW, Nat.le_trans hB hS.1⟩
theorem BG_at {y : MethodName} {w : Cond} {args : Array Value} {s : State} (hw : w ∈ BG) (hts : ∀ w ∈ BG, w.before args s = true) : ∀ z ∈ w :: BG, ∀ (a' : Array Value) (U : State), s.WarmedH U.vm → z.before a' U = true := fun z hz a' U hW => by
  have hz' : z ∈ BG := (List.mem_cons.mp hz).elim (fun q => by rw [q]; exact hw) id
  exact word_at hW (good_of_word (bg_good hz')) (hts z hz')
/-- what the tables say of a callee: an instance method, a static one, a constructor -/
abbrev dM (y : MethodName) (n : Nat) : Prop := y.cls ≠ "java/lang/invoke/MethodHandle" ∧ y.cls ≠ "java/lang/invoke/VarHandle" ∧ (parseMethodDescriptor y.desc).map (fun d => d.parameters.length) = some n
def MV (y : MethodName) (bytes : ByteArray) (maxL : Nat) (ret : Option FieldType) (n : Nat) : Prop := Cond.code y bytes maxL ret ∈ BG ∧ Cond.instanceMethod y ∈ BG ∧ Cond.selects y.cls y y ∈ BG ∧ Cond.initialized y.cls ∈ BG ∧ dM y n
def MS (y : MethodName) (bytes : ByteArray) (maxL : Nat) (ret : Option FieldType) (n : Nat) : Prop := Cond.code y bytes maxL ret ∈ BG ∧ Cond.static y ∈ BG ∧ Cond.initialized y.cls ∈ BG ∧ dM y n
def MI (y : MethodName) (bytes : ByteArray) (maxL : Nat) (n : Nat) : Prop := Cond.code y bytes maxL none ∈ BG ∧ Cond.instanceMethod y ∈ BG ∧ Cond.initialized y.cls ∈ BG ∧ y.name = "<init>" ∧ dM y n
def MSW (y : MethodName) (bytes : ByteArray) (maxL : Nat) (ret : Option FieldType) (hh : List (Nat × Nat × Nat × Nat)) (n : Nat) : Prop := Cond.codeWith y bytes maxL ret hh ∈ BG ∧ Cond.static y ∈ BG ∧ Cond.initialized y.cls ∈ BG ∧ dM y n
section RK
variable {E : Ev} {p : Program} {l : Launch} {e : Env} {R : Room} {s : State} {m : MethodId} {args : Array Value} {below : List Frame} {meth : Method} {c : Code} {nL : Nat} {Q : State → Prop} {cc : ByteArray} {own nm : String} {ret : Option FieldType} {tb : List ExceptionTableEntry}
variable {h : Hp} {cells slots pc : Nat} {lv lv' : List (Nat × Value)} {st st0 : List Value}
variable {y : MethodName} {bytes : ByteArray} {maxL : Nat} {ret' : Option FieldType} {fr lo mc ms idx n : Nat} {av : List Value} {post : Option Value → Hp → Prop} {px : String → Hp → Prop}
/-- behind a call -/
theorem r_back {H : Heap} {locs : List Loc} {ls : Array Slot} {av' : Array Value} (hS : va_S (bsA E) s.heap H locs) (hl : lv_has ls nL lv)
    (hr : vx_Run p l e R s m args below meth c H locs cells slots mc ms (F0 m pc ls st0) st (qcP E post av') (xcP E px) (bsA E))
    (kx : ∀ X h', px X h' → WX E p l e R s m args below meth c nL Q X h' (cells + mc) (slots + ms) pc lv)
    (kk : ∀ v h', post v h' → WS E p l e R s m args below meth c nL Q h' (cells + mc) (slots + ms) (pc + 3) lv (v.toList ++ st)) : W p l e R s m args below meth c H locs cells slots Q (F0 m pc ls st0) := by
  intro T hT X
  rcases hr T hT X with ⟨v, st₀, t, T', L, h0, X', hL, e1, e2, ⟨⟨v', h', hv, hp, hH'⟩, hF⟩, go⟩ | ⟨q, st₀, t, T', L, X9, ce, h0, X', hL, e1, e2, ⟨⟨h', hp, hH'⟩, hF⟩, hce, hcv, hcl, go⟩
  · cases hv
    obtain ⟨g1, g2, g3⟩ := vx_keep h0 e1 hS (fun _ _ z => z) (fun _ z => z) hL hF
    rw [← e1] at hH'
    obtain ⟨t2, a1, b1⟩ := kk v h' hp T'.heap (locs ++ L) ls hH' g3 hl T' rfl X'
    exact ⟨t2, go t2 a1, b1⟩
  · obtain ⟨g1, g2, g3⟩ := vx_keep h0 e1 hS (fun _ _ z => z) (fun _ z => z) hL hF
    rw [← e1] at hH' hce
    obtain ⟨t2, a1, b1⟩ := kx X9 h' hp T'.heap (locs ++ L) ls st q ce hH' g3 hl hce hcv hcl T' rfl X'
    exact ⟨t2, go.trans a1, b1⟩
theorem r_callV (C : CX E p l s m args meth c cc nL own nm ret tb) {ci N t b : Nat} {T : u_T} {ty : Nat → FieldType} {fs As : List Value} (M : MT E l y bytes maxL ret' fr lo mc ms h (.ref b :: As) post px) (V : MV y bytes maxL ret' n) (hlink : Cond.methodLink own idx y ∈ BG) (K : CLS ci y.cls T N ty) (g : hT h b = t) (ht : t ≠ 0) (he : cF E.2.1 t (hL h b) (hI h b) (hR h b) (hJ h b) = .inr (ci, fs)) (hn : As.length = n) (hR : fr + 1 ≤ R.frames ∧ 8 + (maxL + 11) + lo ≤ R.locals) (hc : cells + mc ≤ R.cells ∧ slots + ms ≤ R.slots) (hst : st0 = As.reverse ++ .ref b :: st) (hw : (st.map fun v => v.category).sum ≤ 8) (hdg : decode cc pc = .ok (.invokevirtual idx, 3))
    (kx : ∀ X h', px X h' → WX E p l e R s m args below meth c nL Q X h' (cells + mc) (slots + ms) pc lv)
    (kk : ∀ v h', post v h' → WS E p l e R s m args below meth c nL Q h' (cells + mc) (slots + ms) (pc + 3) lv (v.toList ++ st)) : WS E p l e R s m args below meth c nL Q h cells slots pc lv st0 := fun H locs ls hH hS hl => by
  have hts := C.2.2.2.2.1
  have hP := va_P1 hH (a := b) (by rw [g]; exact ht) (by rw [g]; exact no27 K.1 he)
  refine r_back hS hl (vx_runV (Ts := BG) (own := own) (C := y.cls) (index := idx) (n := n) (As := As) (rest := st) ⟨C.1, C.2.1, C.2.2.1, C.2.2.2.1, hts⟩ M ⟨⟨rfl, rfl, hR.1, hR.2, BG_at (y := y) V.1 hts, List.mem_cons_self, hts _ V.1, hts _ V.2.2.2.1, ⟨V.2.2.2.2.1, V.2.2.2.2.2.1⟩, fun sig hsig => ?_, hts _ hlink⟩, hts _ V.2.1, hts _ V.2.2.1⟩
    ⟨pcP_blind _ _ _, va_recv C.2.2.2.2.2.1.1 hP (ci := ci) (q0 := 0) K.1 (by rw [cE_t g, he]; rfl), pcP_at hH C.2.2.2.2.2.1 hS C.2.2.2.2.2.2.2.2.1⟩ rfl hn hl.1 hst (lv_room hw) hdg hc) kx kk
  have h2 := V.2.2.2.2.2.2
  rw [hsig] at h2
  exact (Option.some.inj h2).symm
theorem r_callS (C : CX E p l s m args meth c cc nL own nm ret tb) {As : List Value} (M : MT E l y bytes maxL ret' fr lo mc ms h As post px) (V : MS y bytes maxL ret' n) (hlink : Cond.methodLink own idx y ∈ BG) (hn : As.length = n) (hR : fr + 1 ≤ R.frames ∧ 8 + (maxL + 11) + lo ≤ R.locals) (hc : cells + mc ≤ R.cells ∧ slots + ms ≤ R.slots) (hst : st0 = As.reverse ++ st) (hw : (st.map fun v => v.category).sum ≤ 8) (hdg : decode cc pc = .ok (.invokestatic idx, 3))
    (kx : ∀ X h', px X h' → WX E p l e R s m args below meth c nL Q X h' (cells + mc) (slots + ms) pc lv)
    (kk : ∀ v h', post v h' → WS E p l e R s m args below meth c nL Q h' (cells + mc) (slots + ms) (pc + 3) lv (v.toList ++ st)) : WS E p l e R s m args below meth c nL Q h cells slots pc lv st0 := fun H locs ls hH hS hl => by
  have hts := C.2.2.2.2.1
  refine r_back hS hl (vx_runS (Ts := BG) (own := own) (index := idx) (n := n) (As := As) (rest := st) ⟨C.1, C.2.1, C.2.2.1, C.2.2.2.1, hts⟩ M ⟨⟨rfl, rfl, hR.1, hR.2, BG_at (y := y) V.1 hts, List.mem_cons_self, hts _ V.1, hts _ V.2.2.1, ⟨V.2.2.2.1, V.2.2.2.2.1⟩, fun sig hsig => ?_, hts _ hlink⟩, hts _ V.2.1⟩
    ⟨pcP_blind _ _ _, pcP_at hH C.2.2.2.2.2.1 hS C.2.2.2.2.2.2.2.2.1⟩ rfl hn hl.1 hst (lv_room hw) hdg hc) kx kk
  have h2 := V.2.2.2.2.2
  rw [hsig] at h2
  exact (Option.some.inj h2).symm
theorem r_callI (C : CX E p l s m args meth c cc nL own nm ret tb) {b : Nat} {As : List Value} (M : MT E l y bytes maxL none fr lo mc ms h (.ref b :: As) post px) (V : MI y bytes maxL n) (hlink : Cond.methodLink own idx y ∈ BG) (hn : As.length = n) (hR : fr + 1 ≤ R.frames ∧ 8 + (maxL + 11) + lo ≤ R.locals) (hc : cells + mc ≤ R.cells ∧ slots + ms ≤ R.slots) (hst : st0 = As.reverse ++ .ref b :: st) (hw : (st.map fun v => v.category).sum ≤ 8) (hdg : decode cc pc = .ok (.invokespecial idx, 3))
    (kx : ∀ X h', px X h' → WX E p l e R s m args below meth c nL Q X h' (cells + mc) (slots + ms) pc lv)
    (kk : ∀ v h', post v h' → WS E p l e R s m args below meth c nL Q h' (cells + mc) (slots + ms) (pc + 3) lv (v.toList ++ st)) : WS E p l e R s m args below meth c nL Q h cells slots pc lv st0 := fun H locs ls hH hS hl => by
  have hts := C.2.2.2.2.1
  refine r_back hS hl (vx_runI (Ts := BG) (own := own) (index := idx) (n := n) (As := As) (rest := st) ⟨C.1, C.2.1, C.2.2.1, C.2.2.2.1, hts⟩ M ⟨⟨rfl, rfl, hR.1, hR.2, BG_at (y := y) V.1 hts, List.mem_cons_self, hts _ V.1, hts _ V.2.2.1, ⟨V.2.2.2.2.1, V.2.2.2.2.2.1⟩, fun sig hsig => ?_, hts _ hlink⟩, V.2.2.2.1, hts _ V.2.1⟩
    ⟨pcP_blind _ _ _, pcP_at hH C.2.2.2.2.2.1 hS C.2.2.2.2.2.2.2.2.1⟩ rfl hn hl.1 hst (lv_room hw) hdg hc) kx kk
  have h2 := V.2.2.2.2.2.2
  rw [hsig] at h2
  exact (Option.some.inj h2).symm
/-- the private constructor of Kind -/
theorem r_callIK (C : CX E p l s m args meth c cc nL own nm ret tb) {b : Nat} {As : List Value} (M : MT E l ⟨"TaktLine$Kind", "<init>", "()V"⟩ bytes maxL none fr lo mc ms h (.ref b :: As) post px) (V : MI ⟨"TaktLine$Kind", "<init>", "()V"⟩ bytes maxL n) (hown : own = "TaktLine") (hn : As.length = n) (hR : fr + 1 ≤ R.frames ∧ 8 + (maxL + 11) + lo ≤ R.locals) (hc : cells + mc ≤ R.cells ∧ slots + ms ≤ R.slots) (hst : st0 = As.reverse ++ .ref b :: st) (hw : (st.map fun v => v.category).sum ≤ 8) (hdg : decode cc pc = .ok (.invokespecial 40, 3))
    (kx : ∀ X h', px X h' → WX E p l e R s m args below meth c nL Q X h' (cells + mc) (slots + ms) pc lv)
    (kk : ∀ v h', post v h' → WS E p l e R s m args below meth c nL Q h' (cells + mc) (slots + ms) (pc + 3) lv (v.toList ++ st)) : WS E p l e R s m args below meth c nL Q h cells slots pc lv st0 := fun H locs ls hH hS hl => by
  have hts := C.2.2.2.2.1
  subst hown
  refine r_back hS hl (vx_runIN (Ts := BG) (own := "TaktLine") (host := "TaktLine") (index := 40) (n := n) (As := As) (rest := st) ⟨C.1, C.2.1, C.2.2.1, C.2.2.2.1, hts⟩ M ⟨⟨⟨rfl, rfl, hR.1, hR.2, BG_at (y := ⟨"TaktLine$Kind", "<init>", "()V"⟩) V.1 hts, List.mem_cons_self⟩, hts _ V.1, hts _ V.2.2.1, ⟨V.2.2.2.2.1, V.2.2.2.2.2.1⟩, fun sig hsig => ?_, va_Nw.use rfl C.2.2.2.2.2.1.2.2.2.2.2.2.2.2.1.1⟩, V.2.2.2.1, hts _ V.2.1⟩
    ⟨pcP_blind _ _ _, pcP_at hH C.2.2.2.2.2.1 hS C.2.2.2.2.2.2.2.2.1⟩ rfl hn hl.1 hst (lv_room hw) hdg hc) kx kk
  have h2 := V.2.2.2.2.2.2
  rw [hsig] at h2
  exact (Option.some.inj h2).symm
/-- a static method with handlers -/
theorem r_callSW (C : CX E p l s m args meth c cc nL own nm ret tb) {hh : List (Nat × Nat × Nat × Nat)} {As : List Value} (M : MTW E l y bytes maxL ret' hh fr lo mc ms h As post px) (V : MSW y bytes maxL ret' hh n) (hlink : Cond.methodLink own idx y ∈ BG) (hn : As.length = n) (hR : fr + 1 ≤ R.frames ∧ 8 + (maxL + 11) + lo ≤ R.locals) (hc : cells + mc ≤ R.cells ∧ slots + ms ≤ R.slots) (hst : st0 = As.reverse ++ st) (hw : (st.map fun v => v.category).sum ≤ 8) (hdg : decode cc pc = .ok (.invokestatic idx, 3))
    (kx : ∀ X h', px X h' → WX E p l e R s m args below meth c nL Q X h' (cells + mc) (slots + ms) pc lv)
    (kk : ∀ v h', post v h' → WS E p l e R s m args below meth c nL Q h' (cells + mc) (slots + ms) (pc + 3) lv (v.toList ++ st)) : WS E p l e R s m args below meth c nL Q h cells slots pc lv st0 := fun H locs ls hH hS hl => by
  have hts := C.2.2.2.2.1
  refine r_back hS hl (vx_runSX (Ts := BG) (own := own) (index := idx) (n := n) (As := As) (rest := st) ⟨C.1, C.2.1, C.2.2.1, C.2.2.2.1, hts⟩ M ⟨⟨rfl, rfl, hR.1, hR.2, BG_at (y := y) V.1 hts, List.mem_cons_self⟩, hts _ V.1, hts _ V.2.2.1, ⟨V.2.2.2.1, V.2.2.2.2.1⟩, fun sig hsig => ?_, hts _ hlink, hts _ V.2.1⟩
    ⟨pcP_blind _ _ _, pcP_at hH C.2.2.2.2.2.1 hS C.2.2.2.2.2.2.2.2.1⟩ rfl hn hl.1 hst (lv_room hw) hdg hc) kx kk
  have h2 := V.2.2.2.2.2
  rw [hsig] at h2
  exact (Option.some.inj h2).symm
end RK
