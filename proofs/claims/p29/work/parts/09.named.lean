/-! the same rules, with names for what is read and for the heap behind -/
theorem in_nI {j n : Nat} (hj : j < 2147483648) (h : j < n) : vp_in (nI j) n := by
  intro z
  rcases z with z | z
  · exact nI_pos (by omega) z
  · rw [nI_clamp (by omega)] at z
    omega
section RN
variable {E : Ev} {p : Program} {l : Launch} {e : Env} {R : Room} {s : State} {m : MethodId} {args : Array Value} {below : List Frame} {meth : Method} {c : Code} {nL : Nat} {Q : State → Prop} {cc : ByteArray} {own nm : String} {ret : Option FieldType} {tb : List ExceptionTableEntry}
variable {h h' : Hp} {cells slots pc : Nat} {lv lv' : List (Nat × Value)} {st : List Value}
theorem r_getI (C : CX E p l s m args meth c cc nL own nm ret tb) {ci N t a idx : Nat} {Cn ref : String} {T : u_T} {ty : Nat → FieldType} {fs : List Value} (K : CLS ci Cn T N ty) (he : cF E.2.1 t (hL h a) (hI h a) (hR h a) (hJ h a) = .inr (ci, fs)) (g : hT h a = t) (ht : t ≠ 0 ∧ t ≠ 27) (k : Nat) (hk : k < N) (hlink : Cond.fieldLink own idx ref (T k).2.1 (T k).2.2.1 ∈ BG) (hsame : ∀ x, s.fieldFound? (T k).1 (T k).2.1 (T k).2.2.1 = some x → s.fieldFound? ref (T k).2.1 (T k).2.2.1 = some x) {x : Int32} (hx : hI h a k = x) (hv : fs[k]? = some (.int (hI h a k))) (hdg : decode cc pc = .ok (.getfield idx, 3))
    (kk : WS E p l e R s m args below meth c nL Q h cells slots (pc + 3) lv (.int x :: st)) : WS E p l e R s m args below meth c nL Q h cells slots pc lv (.ref a :: st) := by
  rw [hx] at hv
  exact r_get C K he g ht.1 k hk hlink hsame hv hdg kk
theorem r_getR (C : CX E p l s m args meth c cc nL own nm ret tb) {ci N t a idx : Nat} {Cn ref : String} {T : u_T} {ty : Nat → FieldType} {fs : List Value} (K : CLS ci Cn T N ty) (he : cF E.2.1 t (hL h a) (hI h a) (hR h a) (hJ h a) = .inr (ci, fs)) (g : hT h a = t) (ht : t ≠ 0 ∧ t ≠ 27) (k : Nat) (hk : k < N) (hlink : Cond.fieldLink own idx ref (T k).2.1 (T k).2.2.1 ∈ BG) (hsame : ∀ x, s.fieldFound? (T k).1 (T k).2.1 (T k).2.2.1 = some x → s.fieldFound? ref (T k).2.1 (T k).2.2.1 = some x) {x : Option Nat} (hx : hR h a k = x) (hv : fs[k]? = some (va_rf (hR h a k))) (hdg : decode cc pc = .ok (.getfield idx, 3))
    (kk : WS E p l e R s m args below meth c nL Q h cells slots (pc + 3) lv (va_rf x :: st)) : WS E p l e R s m args below meth c nL Q h cells slots pc lv (.ref a :: st) := by
  rw [hx] at hv
  exact r_get C K he g ht.1 k hk hlink hsame hv hdg kk
theorem r_getA (C : CX E p l s m args meth c cc nL own nm ret tb) {ci N t a idx : Nat} {Cn ref : String} {T : u_T} {ty : Nat → FieldType} {fs : List Value} (K : CLS ci Cn T N ty) (he : cF E.2.1 t (hL h a) (hI h a) (hR h a) (hJ h a) = .inr (ci, fs)) (g : hT h a = t) (ht : t ≠ 0 ∧ t ≠ 27) (k : Nat) (hk : k < N) (hlink : Cond.fieldLink own idx ref (T k).2.1 (T k).2.2.1 ∈ BG) (hsame : ∀ x, s.fieldFound? (T k).1 (T k).2.1 (T k).2.2.1 = some x → s.fieldFound? ref (T k).2.1 (T k).2.2.1 = some x) {x : Nat} (hx : hR h a k = some x) (hv : fs[k]? = some (va_rf (hR h a k))) (hdg : decode cc pc = .ok (.getfield idx, 3))
    (kk : WS E p l e R s m args below meth c nL Q h cells slots (pc + 3) lv (.ref x :: st)) : WS E p l e R s m args below meth c nL Q h cells slots pc lv (.ref a :: st) := by
  rw [hx] at hv
  exact r_get C K he g ht.1 k hk hlink hsame hv hdg kk
theorem p_I (C : CX E p l s m args meth c cc nL own nm ret tb) {ci N t a idx : Nat} {Cn ref : String} {T : u_T} {ty : Nat → FieldType} {fs : List Value} (K : CLS ci Cn T N ty) (he : cF E.2.1 t (hL h a) (hI h a) (hR h a) (hJ h a) = .inr (ci, fs)) (g : hT h a = t) (ht : t ≠ 0 ∧ t ≠ 27) (k : Nat) (hk : k < N) (hlink : Cond.fieldLink own idx ref (T k).2.1 (T k).2.2.1 ∈ BG) (hsame : ∀ x, s.fieldFound? (T k).1 (T k).2.1 (T k).2.2.1 = some x → s.fieldFound? ref (T k).2.1 (T k).2.2.1 = some x) (hfin : (T k).2.2.2 = false) {v : Int32} (hd : parseFieldDescriptor (T k).2.2.1 = some .int) (hlen : k < fs.length) (hset : cF E.2.1 t (hL h a) (upd (hI h a) k v) (hR h a) (hJ h a) = .inr (ci, fs.set k (.int v))) (hdg : decode cc pc = .ok (.putfield idx, 3)) (eh : h' = sI h a k v)
    (kk : WS E p l e R s m args below meth c nL Q h' cells slots (pc + 3) lv st) : WS E p l e R s m args below meth c nL Q h cells slots pc lv (.int v :: .ref a :: st) := by
  subst eh
  exact r_putI C K he g ht k hk hlink hsame hfin hd rfl rfl hlen hset hdg kk
theorem p_B (C : CX E p l s m args meth c cc nL own nm ret tb) {ci N t a idx : Nat} {Cn ref : String} {T : u_T} {ty : Nat → FieldType} {fs : List Value} (K : CLS ci Cn T N ty) (he : cF E.2.1 t (hL h a) (hI h a) (hR h a) (hJ h a) = .inr (ci, fs)) (g : hT h a = t) (ht : t ≠ 0 ∧ t ≠ 27) (k : Nat) (hk : k < N) (hlink : Cond.fieldLink own idx ref (T k).2.1 (T k).2.2.1 ∈ BG) (hsame : ∀ x, s.fieldFound? (T k).1 (T k).2.1 (T k).2.2.1 = some x → s.fieldFound? ref (T k).2.1 (T k).2.2.1 = some x) (hfin : (T k).2.2.2 = false) {v : Int32} (hb : b01 v) (hd : parseFieldDescriptor (T k).2.2.1 = some .boolean) (hlen : k < fs.length) (hset : cF E.2.1 t (hL h a) (upd (hI h a) k v) (hR h a) (hJ h a) = .inr (ci, fs.set k (.int v))) (hdg : decode cc pc = .ok (.putfield idx, 3)) (eh : h' = sI h a k v)
    (kk : WS E p l e R s m args below meth c nL Q h' cells slots (pc + 3) lv st) : WS E p l e R s m args below meth c nL Q h cells slots pc lv (.int v :: .ref a :: st) := by
  subst eh
  exact r_putI C K he g ht k hk hlink hsame hfin hd (b01_n hb) (b01_f hb) hlen hset hdg kk
theorem p_R (C : CX E p l s m args meth c cc nL own nm ret tb) {ci N t a idx : Nat} {Cn ref : String} {T : u_T} {ty : Nat → FieldType} {fs : List Value} (K : CLS ci Cn T N ty) (he : cF E.2.1 t (hL h a) (hI h a) (hR h a) (hJ h a) = .inr (ci, fs)) (g : hT h a = t) (ht : t ≠ 0 ∧ t ≠ 27) (k : Nat) (hk : k < N) (hlink : Cond.fieldLink own idx ref (T k).2.1 (T k).2.2.1 ∈ BG) (hsame : ∀ x, s.fieldFound? (T k).1 (T k).2.1 (T k).2.2.1 = some x → s.fieldFound? ref (T k).2.1 (T k).2.2.1 = some x) (hfin : (T k).2.2.2 = false) (v : Option Nat) {fty : FieldType} (hd : parseFieldDescriptor (T k).2.2.1 = some fty) (hq : (∃ n, fty = .object n) ∨ ∃ t, fty = .array t) (hlen : k < fs.length) (hset : cF E.2.1 t (hL h a) (hI h a) (va_up (hR h a) k v) (hJ h a) = .inr (ci, fs.set k (va_rf v))) (hdg : decode cc pc = .ok (.putfield idx, 3)) (eh : h' = sR h a k v)
    (kk : WS E p l e R s m args below meth c nL Q h' cells slots (pc + 3) lv st) : WS E p l e R s m args below meth c nL Q h cells slots pc lv (va_rf v :: .ref a :: st) := by
  subst eh
  exact r_putR C K he g ht k hk hlink hsame hfin v hd (by rcases hq with ⟨n, rfl⟩ | ⟨n, rfl⟩ <;> cases v <;> rfl) (by rcases hq with ⟨n, rfl⟩ | ⟨n, rfl⟩ <;> cases v <;> rfl) hlen hset hdg kk
theorem p_FI (C : CX E p l s m args meth c cc nL own nm ret tb) {ci N t a idx : Nat} {Cn ref : String} {T : u_T} {ty : Nat → FieldType} {fs : List Value} (K : CLS ci Cn T N ty) (he : cF E.2.1 t (hL h a) (hI h a) (hR h a) (hJ h a) = .inr (ci, fs)) (g : hT h a = t) (ht : t ≠ 0 ∧ t ≠ 27) (k : Nat) (hk : k < N) (hlink : Cond.fieldLink own idx ref (T k).2.1 (T k).2.2.1 ∈ BG) (hsame : ∀ x, s.fieldFound? (T k).1 (T k).2.1 (T k).2.2.1 = some x → s.fieldFound? ref (T k).2.1 (T k).2.2.1 = some x) (hfin : (T k).2.2.2 = true) (hnm : nm = "<init>") (hdecl : (T k).1 = own) {v : Int32} (hd : parseFieldDescriptor (T k).2.2.1 = some .int) (hlen : k < fs.length) (hset : cF E.2.1 t (hL h a) (upd (hI h a) k v) (hR h a) (hJ h a) = .inr (ci, fs.set k (.int v))) (hdg : decode cc pc = .ok (.putfield idx, 3)) (eh : h' = sI h a k v)
    (kk : WS E p l e R s m args below meth c nL Q h' cells slots (pc + 3) lv st) : WS E p l e R s m args below meth c nL Q h cells slots pc lv (.int v :: .ref a :: st) := by
  subst eh
  exact r_putFI C K he g ht k hk hlink hsame hfin hnm hdecl hd rfl rfl hlen hset hdg kk
theorem p_FR (C : CX E p l s m args meth c cc nL own nm ret tb) {ci N t a idx : Nat} {Cn ref : String} {T : u_T} {ty : Nat → FieldType} {fs : List Value} (K : CLS ci Cn T N ty) (he : cF E.2.1 t (hL h a) (hI h a) (hR h a) (hJ h a) = .inr (ci, fs)) (g : hT h a = t) (ht : t ≠ 0 ∧ t ≠ 27) (k : Nat) (hk : k < N) (hlink : Cond.fieldLink own idx ref (T k).2.1 (T k).2.2.1 ∈ BG) (hsame : ∀ x, s.fieldFound? (T k).1 (T k).2.1 (T k).2.2.1 = some x → s.fieldFound? ref (T k).2.1 (T k).2.2.1 = some x) (hfin : (T k).2.2.2 = true) (hnm : nm = "<init>") (hdecl : (T k).1 = own) (v : Option Nat) {fty : FieldType} (hd : parseFieldDescriptor (T k).2.2.1 = some fty) (hq : (∃ n, fty = .object n) ∨ ∃ t, fty = .array t) (hlen : k < fs.length) (hset : cF E.2.1 t (hL h a) (hI h a) (va_up (hR h a) k v) (hJ h a) = .inr (ci, fs.set k (va_rf v))) (hdg : decode cc pc = .ok (.putfield idx, 3)) (eh : h' = sR h a k v)
    (kk : WS E p l e R s m args below meth c nL Q h' cells slots (pc + 3) lv st) : WS E p l e R s m args below meth c nL Q h cells slots pc lv (va_rf v :: .ref a :: st) := by
  subst eh
  exact r_putFR C K he g ht k hk hlink hsame hfin hnm hdecl v hd (by rcases hq with ⟨n, rfl⟩ | ⟨n, rfl⟩ <;> cases v <;> rfl) (by rcases hq with ⟨n, rfl⟩ | ⟨n, rfl⟩ <;> cases v <;> rfl) hlen hset hdg kk
theorem a_I (C : CX E p l s m args meth c cc nL own nm ret tb) {a : Nat} {i : Int32} (g : hT h a = 20) {j : Nat} (hi : i = nI j) (hj : j < 2147483648) (hn : j < hL h a) {x : Int32} (hx : hI h a j = x) (hdg : decode cc pc = .ok (.iaload, 1))
    (kk : WS E p l e R s m args below meth c nL Q h cells slots (pc + 1) lv (.int x :: st)) : WS E p l e R s m args below meth c nL Q h cells slots pc lv (.int i :: .ref a :: st) := by
  subst hi
  refine r_iald C g (in_nI hj hn) hdg ?_
  rw [nI_clamp (by omega), hx]
  exact kk
theorem a_R (C : CX E p l s m args meth c cc nL own nm ret tb) {t t0 a : Nat} {cA : ClassId} {Cn : String} {i : Int32} (he : cF E.2.1 t (hL h a) (hI h a) (hR h a) (hJ h a) = .inl (cA, hL h a, .inr (.inr (.inr (.inr (hR h a)))))) (g : hT h a = t) (ht : t ≠ 0) (hty : (tyE E.2.1)[t0]? = some (cA, .object Cn)) {j : Nat} (hi : i = nI j) (hj : j < 2147483648) (hn : j < hL h a) {x : Option Nat} (hx : hR h a j = x) (hdg : decode cc pc = .ok (.aaload, 1))
    (kk : WS E p l e R s m args below meth c nL Q h cells slots (pc + 1) lv (va_rf x :: st)) : WS E p l e R s m args below meth c nL Q h cells slots pc lv (.int i :: .ref a :: st) := by
  subst hi
  refine r_aald C he g ht hty (in_nI hj hn) hdg ?_
  rw [nI_clamp (by omega), hx]
  exact kk
theorem a_A (C : CX E p l s m args meth c cc nL own nm ret tb) {t t0 a : Nat} {cA : ClassId} {Cn : String} {i : Int32} (he : cF E.2.1 t (hL h a) (hI h a) (hR h a) (hJ h a) = .inl (cA, hL h a, .inr (.inr (.inr (.inr (hR h a)))))) (g : hT h a = t) (ht : t ≠ 0) (hty : (tyE E.2.1)[t0]? = some (cA, .object Cn)) {j : Nat} (hi : i = nI j) (hj : j < 2147483648) (hn : j < hL h a) {x : Nat} (hx : hR h a j = some x) (hdg : decode cc pc = .ok (.aaload, 1))
    (kk : WS E p l e R s m args below meth c nL Q h cells slots (pc + 1) lv (.ref x :: st)) : WS E p l e R s m args below meth c nL Q h cells slots pc lv (.int i :: .ref a :: st) := by
  subst hi
  refine r_aald C he g ht hty (in_nI hj hn) hdg ?_
  rw [nI_clamp (by omega), hx]
  exact kk
theorem a_len (C : CX E p l s m args meth c cc nL own nm ret tb) {t t0 a n : Nat} {cA : ClassId} {x : vp_A} {ty : FieldType} (he : cF E.2.1 t (hL h a) (hI h a) (hR h a) (hJ h a) = .inl (cA, x)) (g : hT h a = t) (ht : t ≠ 0) (hty : (tyE E.2.1)[t0]? = some (cA, ty)) (hx : x.1 = hL h a) (hn : hL h a = n) (hdg : decode cc pc = .ok (.arraylength, 1))
    (kk : WS E p l e R s m args below meth c nL Q h cells slots (pc + 1) lv (.int (nI n) :: st)) : WS E p l e R s m args below meth c nL Q h cells slots pc lv (.ref a :: st) := by
  subst hn
  exact r_alen C he g ht hty hx hdg kk
/-- the length of a row of objects, or of the empty one -/
theorem a_lenO (C : CX E p l s m args meth c cc nL own nm ret tb) {a n : Nat} (g : hT h a = 26 ∨ hT h a = 27) (hn : hL h a = n) (hdg : decode cc pc = .ok (.arraylength, 1))
    (kk : WS E p l e R s m args below meth c nL Q h cells slots (pc + 1) lv (.int (nI n) :: st)) : WS E p l e R s m args below meth c nL Q h cells slots pc lv (.ref a :: st) := by
  rcases g with g | g
  · exact a_len C ar26 g (by decide) (t0 := 6) rfl rfl hn hdg kk
  · subst hn
    exact r_alen27 C g hdg kk
theorem a_S (C : CX E p l s m args meth c cc nL own nm ret tb) {a : Nat} {i : Int32} (g : a = (eS E).1) {j : Nat} (hi : i = nI j) (hj : j < 2147483648) (hn : j < (eS E).2.1) (hdg : decode cc pc = .ok (.iaload, 1))
    (kk : WS E p l e R s m args below meth c nL Q h cells slots (pc + 1) lv (.int ((eS E).2.2 j) :: st)) : WS E p l e R s m args below meth c nL Q h cells slots pc lv (.int i :: .ref a :: st) := by
  subst hi
  refine r_sldE C g (in_nI hj hn) hdg ?_
  rw [nI_clamp (by omega)]
  exact kk
theorem s_I (C : CX E p l s m args meth c cc nL own nm ret tb) {a : Nat} {i x : Int32} (g : hT h a = 20) {j : Nat} (hi : i = nI j) (hj : j < 2147483648) (hn : j < hL h a) (hdg : decode cc pc = .ok (.iastore, 1)) (eh : h' = sI h a j x)
    (kk : WS E p l e R s m args below meth c nL Q h' cells slots (pc + 1) lv st) : WS E p l e R s m args below meth c nL Q h cells slots pc lv (.int x :: .int i :: .ref a :: st) := by
  subst hi eh
  refine r_iast C g (in_nI hj hn) hdg ?_
  rw [nI_clamp (by omega)]
  exact kk
theorem s_A (C : CX E p l s m args meth c cc nL own nm ret tb) {t t0 a ci N tv v : Nat} {cA : ClassId} {Cn : String} {T : u_T} {ty : Nat → FieldType} {fs : List Value} {i : Int32} (K : CLS ci Cn T N ty) (he : ∀ f, cF E.2.1 t (hL h a) (hI h a) f (hJ h a) = .inl (cA, hL h a, .inr (.inr (.inr (.inr f))))) (g : hT h a = t) (ht : t ≠ 0 ∧ t ≠ 27) (hty : (tyE E.2.1)[t0]? = some (cA, .object Cn)) {j : Nat} (hi : i = nI j) (hj : j < 2147483648) (hn : j < hL h a) (gv : hT h v = tv) (hv : cF E.2.1 tv (hL h v) (hI h v) (hR h v) (hJ h v) = .inr (ci, fs)) (htv : tv ≠ 0 ∧ tv ≠ 27) (hdg : decode cc pc = .ok (.aastore, 1)) (eh : h' = sR h a j (some v))
    (kk : WS E p l e R s m args below meth c nL Q h' cells slots (pc + 1) lv st) : WS E p l e R s m args below meth c nL Q h cells slots pc lv (.ref v :: .int i :: .ref a :: st) := by
  subst hi eh
  refine r_aast C K he g ht hty (in_nI hj hn) gv hv htv hdg ?_
  rw [nI_clamp (by omega)]
  exact kk
/-- an object of ours into a row of objects -/
theorem s_O (C : CX E p l s m args meth c cc nL own nm ret tb) {a v : Nat} {i : Int32} (g : hT h a = 26) {j : Nat} (hi : i = nI j) (hj : j < 2147483648) (hn : j < hL h a) (gv : hT h v = 2 ∨ hT h v = 3 ∨ hT h v = 5 ∨ hT h v = 6) (hdg : decode cc pc = .ok (.aastore, 1)) (eh : h' = sR h a j (some v))
    (kk : WS E p l e R s m args below meth c nL Q h' cells slots (pc + 1) lv st) : WS E p l e R s m args below meth c nL Q h cells slots pc lv (.ref v :: .int i :: .ref a :: st) := by
  subst hi eh
  have kk9 : WS E p l e R s m args below meth c nL Q (sR h a (nI j).toNatClampNeg (some v)) cells slots (pc + 1) lv st := by rw [nI_clamp (by omega)]; exact kk
  rcases gv with z | z | z | z
  · exact r_aastO C K2 (by decide +kernel) g (in_nI hj hn) z ob2 (by decide) hdg kk9
  · exact r_aastO C K3 (by decide +kernel) g (in_nI hj hn) z ob3 (by decide) hdg kk9
  · exact r_aastO C K5 (by decide +kernel) g (in_nI hj hn) z ob5 (by decide) hdg kk9
  · exact r_aastO C K6 (by decide +kernel) g (in_nI hj hn) z ob6 (by decide) hdg kk9
theorem s_N (C : CX E p l s m args meth c cc nL own nm ret tb) {t t0 a : Nat} {cA : ClassId} {Cn : String} {i : Int32} (he : ∀ f, cF E.2.1 t (hL h a) (hI h a) f (hJ h a) = .inl (cA, hL h a, .inr (.inr (.inr (.inr f))))) (g : hT h a = t) (ht : t ≠ 0 ∧ t ≠ 27) (hty : (tyE E.2.1)[t0]? = some (cA, .object Cn)) {j : Nat} (hi : i = nI j) (hj : j < 2147483648) (hn : j < hL h a) (hdg : decode cc pc = .ok (.aastore, 1)) (eh : h' = sR h a j none)
    (kk : WS E p l e R s m args below meth c nL Q h' cells slots (pc + 1) lv st) : WS E p l e R s m args below meth c nL Q h cells slots pc lv (va_rf none :: .int i :: .ref a :: st) := by
  subst hi eh
  refine r_aastN C he g ht hty (in_nI hj hn) hdg ?_
  rw [nI_clamp (by omega)]
  exact kk
end RN
/-! what a callee hands back -/
def poI (post : Int32 → Hp → Prop) : Option Value → Hp → Prop := fun v h => ∃ r, v = some (.int r) ∧ post r h
def poQ (post : Option Nat → Hp → Prop) : Option Value → Hp → Prop := fun v h => ∃ r, v = some (va_rf r) ∧ post r h
def poV (post : Hp → Prop) : Option Value → Hp → Prop := fun v h => v = none ∧ post h
def puI (h0 : Hp) (post : Int32 → Prop) : Option Value → Hp → Prop := fun v h => ∃ r, v = some (.int r) ∧ post r ∧ h = h0
def puQ (h0 : Hp) (post : Option Nat → Prop) : Option Value → Hp → Prop := fun v h => ∃ r, v = some (va_rf r) ∧ post r ∧ h = h0
def puV (h0 : Hp) (post : Prop) : Option Value → Hp → Prop := fun v h => v = none ∧ post ∧ h = h0
def pxP (h0 : Hp) (px : String → Prop) : String → Hp → Prop := fun X h => px X ∧ h = h0
abbrev pxN : String → Hp → Prop := fun _ _ => False
section KK
variable {K : Hp → List Value → Prop} {st : List Value}
theorem kkI {post : Int32 → Hp → Prop} (k : ∀ r h, post r h → K h (.int r :: st)) : ∀ v h, poI post v h → K h (v.toList ++ st) := fun v h ⟨r, ev, hp⟩ => by subst ev; exact k r h hp
theorem kkQ {post : Option Nat → Hp → Prop} (k : ∀ r h, post r h → K h (va_rf r :: st)) : ∀ v h, poQ post v h → K h (v.toList ++ st) := fun v h ⟨r, ev, hp⟩ => by subst ev; exact k r h hp
theorem kkV {post : Hp → Prop} (k : ∀ h, post h → K h st) : ∀ v h, poV post v h → K h (v.toList ++ st) := fun v h ⟨ev, hp⟩ => by subst ev; exact k h hp
theorem kpI {h0 : Hp} {post : Int32 → Prop} (k : ∀ r, post r → K h0 (.int r :: st)) : ∀ v h, puI h0 post v h → K h (v.toList ++ st) := fun v h ⟨r, ev, hp, eh⟩ => by subst ev eh; exact k r hp
theorem kpQ {h0 : Hp} {post : Option Nat → Prop} (k : ∀ r, post r → K h0 (va_rf r :: st)) : ∀ v h, puQ h0 post v h → K h (v.toList ++ st) := fun v h ⟨r, ev, hp, eh⟩ => by subst ev eh; exact k r hp
theorem kpV {h0 : Hp} {post : Prop} (k : post → K h0 st) : ∀ v h, puV h0 post v h → K h (v.toList ++ st) := fun v h ⟨ev, hp, eh⟩ => by subst ev eh; exact k hp
end KK
