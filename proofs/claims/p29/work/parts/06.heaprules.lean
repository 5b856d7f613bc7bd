/-! the rules that read and write the typed heap -/
def CLS (ci : Nat) (Cn : String) (T : u_T) (N : Nat) (ty : Nat → FieldType) : Prop := vwCl[ci]? = some (Cn, T, N) ∧ (∀ w ∈ u_ws Cn T N, w ∈ BG) ∧ (∀ k, k < N → parseFieldDescriptor (T k).2.2.1 = some (ty k)) ∧ (∀ a, a < N → ∀ b, b < N → a ≠ b → (T a).2.1 ≠ (T b).2.1)
theorem K1 : CLS 0 RJx4a65c TJx4a65c 3 tyJx4a65c := ⟨rfl, inJx4a65c, tyJx4a65c_ok, nmJx4a65c⟩
theorem K2 : CLS 1 RX0 TX0 9 tyX0 := ⟨rfl, inX0, tyX0_ok, nmX0⟩
theorem K3 : CLS 2 RX1 TX1 3 tyX1 := ⟨rfl, inX1, tyX1_ok, nmX1⟩
theorem K4 : CLS 3 RX2 TX2 4 tyX2 := ⟨rfl, inX2, tyX2_ok, nmX2⟩
theorem K5 : CLS 4 RX3 TX3 5 tyX3 := ⟨rfl, inX3, tyX3_ok, nmX3⟩
theorem K6 : CLS 5 RX4 TX4 3 tyX4 := ⟨rfl, inX4, tyX4_ok, nmX4⟩
theorem K7 : CLS 6 RX5 TX5 10 tyX5 := ⟨rfl, inX5, tyX5_ok, nmX5⟩
section CF
variable {A : Nat → ClassId} {n : Nat} {I : Nat → Int32} {R : Nat → Option Nat} {J : Nat → Int64}
theorem ob1 : cF A 1 n I R J = .inr (0, [.int (I 0), va_rf (R 1), .int (I 2)]) := rfl
theorem ob2 : cF A 2 n I R J = .inr (1, [.int (I 0), .int (I 1), va_rf (R 2), .int (I 3), .int (I 4), va_rf (R 5), .int (I 6), .int (I 7), .int (I 8)]) := rfl
theorem ob3 : cF A 3 n I R J = .inr (2, [.int (I 0), va_rf (R 1), .int (I 2)]) := rfl
theorem ob4 : cF A 4 n I R J = .inr (3, [.int (I 0), .int (I 1), .int (I 2), .int (I 3)]) := rfl
theorem ob5 : cF A 5 n I R J = .inr (4, [.int (I 0), .int (I 1), .int (I 2), .int (I 3), .int (I 4)]) := rfl
theorem ob6 : cF A 6 n I R J = .inr (5, [.int (I 0), .int (I 1), .int (I 2)]) := rfl
theorem ob7 : cF A 7 n I R J = .inr (6, [va_rf (R 0), va_rf (R 1), va_rf (R 2), va_rf (R 3), va_rf (R 4), va_rf (R 5), va_rf (R 6), .int (I 7), .int (I 8), .int (I 9)]) := rfl
theorem ar20 : cF A 20 n I R J = .inl (A 0, n, .inl I) := rfl
theorem ar23 : cF A 23 n I R J = .inl (A 3, n, .inr (.inr (.inr (.inr R)))) := rfl
theorem ar24 : cF A 24 n I R J = .inl (A 4, n, .inr (.inr (.inr (.inr R)))) := rfl
theorem ar25 : cF A 25 n I R J = .inl (A 5, n, .inr (.inr (.inr (.inr R)))) := rfl
theorem ar26 : cF A 26 n I R J = .inl (A 6, n, .inr (.inr (.inr (.inr R)))) := rfl
end CF
/-- a boolean -/
def b01 (v : Int32) : Prop := v = 0 ∨ v = 1
theorem b01_n {v : Int32} (h : b01 v) : narrow .boolean (.int v) = .int v := by rcases h with rfl | rfl <;> rfl
theorem b01_f {v : Int32} (h : b01 v) : fits .boolean (.int v) = true := by rcases h with rfl | rfl <;> rfl
theorem b01_v {v : Int32} (h : b01 v) : vp_nar .boolean v = v := by rcases h with rfl | rfl <;> rfl
theorem ab_set {ws : va_W} {k : Nat} {a : Nat} {e : va_E} {fs : List Value} (h : ws[k]? = some (a, e)) {e' : va_E} (he : e = e') : ws[k]? = some (a, e') := by rw [← he]; exact h
section RH
variable {E : Ev} {p : Program} {l : Launch} {e : Env} {R : Room} {s : State} {m : MethodId} {args : Array Value} {below : List Frame} {meth : Method} {c : Code} {nL : Nat} {Q : State → Prop} {cc : ByteArray} {own nm : String} {ret : Option FieldType} {tb : List ExceptionTableEntry}
variable {h : Hp} {cells slots pc : Nat} {lv lv' : List (Nat × Value)} {st : List Value}
theorem r_get (C : CX E p l s m args meth c cc nL own nm ret tb) {ci N t a idx : Nat} {Cn ref : String} {T : u_T} {ty : Nat → FieldType} {fs : List Value} (K : CLS ci Cn T N ty) (he : cF E.2.1 t (hL h a) (hI h a) (hR h a) (hJ h a) = .inr (ci, fs)) (g : hT h a = t) (ht : t ≠ 0) (k : Nat) (hk : k < N) (hlink : Cond.fieldLink own idx ref (T k).2.1 (T k).2.2.1 ∈ BG) (hsame : ∀ x, s.fieldFound? (T k).1 (T k).2.1 (T k).2.2.1 = some x → s.fieldFound? ref (T k).2.1 (T k).2.2.1 = some x) {v : Value} (hv : fs[k]? = some v) (hdg : decode cc pc = .ok (.getfield idx, 3))
    (kk : WS E p l e R s m args below meth c nL Q h cells slots (pc + 3) lv (v :: st)) : WS E p l e R s m args below meth c nL Q h cells slots pc lv (.ref a :: st) := fun H locs ls hH hS hl =>
  va_get C.1 C.2.1 C.2.2.2.2.1 K.2.1 C.2.2.2.1 C.2.2.2.2.2.1.1 (va_P1 hH (a := a) (by rw [g]; exact ht) (by rw [g]; exact no27 K.1 he)) 0 (he := by rw [cE_t g, he]; rfl) K.1 k hk (C.2.2.2.2.1 _ hlink) hsame hv hdg (kk H locs ls hH hS hl)
theorem r_putI (C : CX E p l s m args meth c cc nL own nm ret tb) {ci N t a idx : Nat} {Cn ref : String} {T : u_T} {ty : Nat → FieldType} {fs : List Value} (K : CLS ci Cn T N ty) (he : cF E.2.1 t (hL h a) (hI h a) (hR h a) (hJ h a) = .inr (ci, fs)) (g : hT h a = t) (ht : t ≠ 0 ∧ t ≠ 27) (k : Nat) (hk : k < N) (hlink : Cond.fieldLink own idx ref (T k).2.1 (T k).2.2.1 ∈ BG) (hsame : ∀ x, s.fieldFound? (T k).1 (T k).2.1 (T k).2.2.1 = some x → s.fieldFound? ref (T k).2.1 (T k).2.2.1 = some x) (hfin : (T k).2.2.2 = false) {fty : FieldType} {v : Int32} (hd : parseFieldDescriptor (T k).2.2.1 = some fty) (hn : narrow fty (.int v) = .int v) (hf : fits fty (.int v) = true) (hlen : k < fs.length) (hset : cF E.2.1 t (hL h a) (upd (hI h a) k v) (hR h a) (hJ h a) = .inr (ci, fs.set k (.int v))) (hdg : decode cc pc = .ok (.putfield idx, 3))
    (kk : WS E p l e R s m args below meth c nL Q (sI h a k v) cells slots (pc + 3) lv st) : WS E p l e R s m args below meth c nL Q h cells slots pc lv (.int v :: .ref a :: st) := fun H locs ls hH hS hl => by
  obtain ⟨ws, hP, hD, hcov, -⟩ := ht_ws hH
  obtain ⟨q0, hq⟩ := hcov a (by rw [g]; exact ht.1) (by rw [g]; exact ht.2)
  rw [cE_t g, he] at hq
  refine va_put C.1 C.2.1 C.2.2.2.2.1 K.2.1 ty K.2.2.1 K.2.2.2 C.2.2.2.1 C.2.2.2.2.2.1.1 hP hD hS q0 hq K.1 k hk (C.2.2.2.2.1 _ hlink) hsame hfin hd hn hf hlen hdg (fun H1 locs1 hP1 _ hS1 => ?_)
  exact kk H1 locs1 ls (ht_set hH C.2.2.2.2.2.2.2.2.1 hS hS1 hcov hq hP1 (fun _ => rfl) (by rw [cE_sI_t g, hset]) (fun b hb => cE_sI hb) (by rw [g]; exact ht.2)) hS1 hl
theorem r_putR (C : CX E p l s m args meth c cc nL own nm ret tb) {ci N t a idx : Nat} {Cn ref : String} {T : u_T} {ty : Nat → FieldType} {fs : List Value} (K : CLS ci Cn T N ty) (he : cF E.2.1 t (hL h a) (hI h a) (hR h a) (hJ h a) = .inr (ci, fs)) (g : hT h a = t) (ht : t ≠ 0 ∧ t ≠ 27) (k : Nat) (hk : k < N) (hlink : Cond.fieldLink own idx ref (T k).2.1 (T k).2.2.1 ∈ BG) (hsame : ∀ x, s.fieldFound? (T k).1 (T k).2.1 (T k).2.2.1 = some x → s.fieldFound? ref (T k).2.1 (T k).2.2.1 = some x) (hfin : (T k).2.2.2 = false) {fty : FieldType} (v : Option Nat) (hd : parseFieldDescriptor (T k).2.2.1 = some fty) (hn : narrow fty (va_rf v) = va_rf v) (hf : fits fty (va_rf v) = true) (hlen : k < fs.length) (hset : cF E.2.1 t (hL h a) (hI h a) (va_up (hR h a) k v) (hJ h a) = .inr (ci, fs.set k (va_rf v))) (hdg : decode cc pc = .ok (.putfield idx, 3))
    (kk : WS E p l e R s m args below meth c nL Q (sR h a k v) cells slots (pc + 3) lv st) : WS E p l e R s m args below meth c nL Q h cells slots pc lv (va_rf v :: .ref a :: st) := fun H locs ls hH hS hl => by
  obtain ⟨ws, hP, hD, hcov, -⟩ := ht_ws hH
  obtain ⟨q0, hq⟩ := hcov a (by rw [g]; exact ht.1) (by rw [g]; exact ht.2)
  rw [cE_t g, he] at hq
  refine va_put C.1 C.2.1 C.2.2.2.2.1 K.2.1 ty K.2.2.1 K.2.2.2 C.2.2.2.1 C.2.2.2.2.2.1.1 hP hD hS q0 hq K.1 k hk (C.2.2.2.2.1 _ hlink) hsame hfin hd hn hf hlen hdg (fun H1 locs1 hP1 _ hS1 => ?_)
  exact kk H1 locs1 ls (ht_set hH C.2.2.2.2.2.2.2.2.1 hS hS1 hcov hq hP1 (fun _ => rfl) (by rw [cE_sR_t g, hset]) (fun b hb => cE_sR hb) (by rw [g]; exact ht.2)) hS1 hl
/-- a final field, in its class's constructor -/
theorem r_putFI (C : CX E p l s m args meth c cc nL own nm ret tb) {ci N t a idx : Nat} {Cn ref : String} {T : u_T} {ty : Nat → FieldType} {fs : List Value} (K : CLS ci Cn T N ty) (he : cF E.2.1 t (hL h a) (hI h a) (hR h a) (hJ h a) = .inr (ci, fs)) (g : hT h a = t) (ht : t ≠ 0 ∧ t ≠ 27) (k : Nat) (hk : k < N) (hlink : Cond.fieldLink own idx ref (T k).2.1 (T k).2.2.1 ∈ BG) (hsame : ∀ x, s.fieldFound? (T k).1 (T k).2.1 (T k).2.2.1 = some x → s.fieldFound? ref (T k).2.1 (T k).2.2.1 = some x) (hfin : (T k).2.2.2 = true) (hnm : nm = "<init>") (hdecl : (T k).1 = own) {fty : FieldType} {v : Int32} (hd : parseFieldDescriptor (T k).2.2.1 = some fty) (hn : narrow fty (.int v) = .int v) (hf : fits fty (.int v) = true) (hlen : k < fs.length) (hset : cF E.2.1 t (hL h a) (upd (hI h a) k v) (hR h a) (hJ h a) = .inr (ci, fs.set k (.int v))) (hdg : decode cc pc = .ok (.putfield idx, 3))
    (kk : WS E p l e R s m args below meth c nL Q (sI h a k v) cells slots (pc + 3) lv st) : WS E p l e R s m args below meth c nL Q h cells slots pc lv (.int v :: .ref a :: st) := fun H locs ls hH hS hl => by
  obtain ⟨ws, hP, hD, hcov, -⟩ := ht_ws hH
  obtain ⟨q0, hq⟩ := hcov a (by rw [g]; exact ht.1) (by rw [g]; exact ht.2)
  rw [cE_t g, he] at hq
  refine va_putF C.1 C.2.1 C.2.2.2.2.1 K.2.1 ty K.2.2.1 K.2.2.2 C.2.2.2.1 C.2.2.2.2.2.1.1 hP hD hS q0 hq K.1 k hk (C.2.2.2.2.1 _ hlink) hsame hfin (C.2.2.2.2.2.2.2.2.2.2.1.trans hnm) hdecl hd hn hf hlen hdg (fun H1 locs1 hP1 _ hS1 => ?_)
  exact kk H1 locs1 ls (ht_set hH C.2.2.2.2.2.2.2.2.1 hS hS1 hcov hq hP1 (fun _ => rfl) (by rw [cE_sI_t g, hset]) (fun b hb => cE_sI hb) (by rw [g]; exact ht.2)) hS1 hl
theorem r_putFR (C : CX E p l s m args meth c cc nL own nm ret tb) {ci N t a idx : Nat} {Cn ref : String} {T : u_T} {ty : Nat → FieldType} {fs : List Value} (K : CLS ci Cn T N ty) (he : cF E.2.1 t (hL h a) (hI h a) (hR h a) (hJ h a) = .inr (ci, fs)) (g : hT h a = t) (ht : t ≠ 0 ∧ t ≠ 27) (k : Nat) (hk : k < N) (hlink : Cond.fieldLink own idx ref (T k).2.1 (T k).2.2.1 ∈ BG) (hsame : ∀ x, s.fieldFound? (T k).1 (T k).2.1 (T k).2.2.1 = some x → s.fieldFound? ref (T k).2.1 (T k).2.2.1 = some x) (hfin : (T k).2.2.2 = true) (hnm : nm = "<init>") (hdecl : (T k).1 = own) {fty : FieldType} (v : Option Nat) (hd : parseFieldDescriptor (T k).2.2.1 = some fty) (hn : narrow fty (va_rf v) = va_rf v) (hf : fits fty (va_rf v) = true) (hlen : k < fs.length) (hset : cF E.2.1 t (hL h a) (hI h a) (va_up (hR h a) k v) (hJ h a) = .inr (ci, fs.set k (va_rf v))) (hdg : decode cc pc = .ok (.putfield idx, 3))
    (kk : WS E p l e R s m args below meth c nL Q (sR h a k v) cells slots (pc + 3) lv st) : WS E p l e R s m args below meth c nL Q h cells slots pc lv (va_rf v :: .ref a :: st) := fun H locs ls hH hS hl => by
  obtain ⟨ws, hP, hD, hcov, -⟩ := ht_ws hH
  obtain ⟨q0, hq⟩ := hcov a (by rw [g]; exact ht.1) (by rw [g]; exact ht.2)
  rw [cE_t g, he] at hq
  refine va_putF C.1 C.2.1 C.2.2.2.2.1 K.2.1 ty K.2.2.1 K.2.2.2 C.2.2.2.1 C.2.2.2.2.2.1.1 hP hD hS q0 hq K.1 k hk (C.2.2.2.2.1 _ hlink) hsame hfin (C.2.2.2.2.2.2.2.2.2.2.1.trans hnm) hdecl hd hn hf hlen hdg (fun H1 locs1 hP1 _ hS1 => ?_)
  exact kk H1 locs1 ls (ht_set hH C.2.2.2.2.2.2.2.2.1 hS hS1 hcov hq hP1 (fun _ => rfl) (by rw [cE_sR_t g, hset]) (fun b hb => cE_sR hb) (by rw [g]; exact ht.2)) hS1 hl
/-! arrays -/
theorem r_alen (C : CX E p l s m args meth c cc nL own nm ret tb) {t t0 a : Nat} {cA : ClassId} {x : vp_A} {ty : FieldType} (he : cF E.2.1 t (hL h a) (hI h a) (hR h a) (hJ h a) = .inl (cA, x)) (g : hT h a = t) (ht : t ≠ 0) (hty : (tyE E.2.1)[t0]? = some (cA, ty)) (hx : x.1 = hL h a) (hdg : decode cc pc = .ok (.arraylength, 1))
    (kk : WS E p l e R s m args below meth c nL Q h cells slots (pc + 1) lv (.int (nI (hL h a)) :: st)) : WS E p l e R s m args below meth c nL Q h cells slots pc lv (.ref a :: st) := fun H locs ls hH hS hl =>
  va_alen C.1 C.2.1 C.2.2.2.2.2.1.1 (va_P1 hH (a := a) (by rw [g]; exact ht) (by rw [g]; exact no27l he)) 0 t0 (ha := by rw [cE_t g, he]; rfl) hty (show Int32.ofNat x.1 = nI (hL h a) by rw [hx]; rfl) hdg (kk H locs ls hH hS hl)
/-- the read-only cell's length -/
theorem r_alen27 (C : CX E p l s m args meth c cc nL own nm ret tb) {a : Nat} (g : hT h a = 27) (hdg : decode cc pc = .ok (.arraylength, 1))
    (kk : WS E p l e R s m args below meth c nL Q h cells slots (pc + 1) lv (.int (nI (hL h a)) :: st)) : WS E p l e R s m args below meth c nL Q h cells slots pc lv (.ref a :: st) := fun H locs ls hH hS hl => by
  obtain ⟨-, ce, e1, e2, e3, e4⟩ := (hH a (by rw [g]; decide)).2.1 g
  obtain ⟨-, k, hk, comp, hkd⟩ := ((C.2.2.2.2.2.1.1.2 6 _ rfl).1 0 (fun _ => .null))
  exact W.alen (ty := .object "java/lang/Object") (n := nI (hL h a)) C.1 C.2.1 e1 ⟨e3, k, by rw [e2]; exact hk, comp, hkd⟩ (by rw [e4]; rfl) rfl rfl hdg (kk H locs ls hH hS hl)
theorem r_iald (C : CX E p l s m args meth c cc nL own nm ret tb) {a : Nat} {i : Int32} (g : hT h a = 20) (hin : vp_in i (hL h a)) (hdg : decode cc pc = .ok (.iaload, 1))
    (kk : WS E p l e R s m args below meth c nL Q h cells slots (pc + 1) lv (.int (hI h a i.toNatClampNeg) :: st)) : WS E p l e R s m args below meth c nL Q h cells slots pc lv (.int i :: .ref a :: st) := fun H locs ls hH hS hl =>
  va_iald C.1 C.2.1 C.2.2.2.2.2.1.1 (va_P1 hH (a := a) (by rw [g]; decide) (by rw [g]; decide)) 0 0 (ha := by rw [cE_t g, ar20]; rfl) rfl hin hdg (kk H locs ls hH hS hl)
theorem r_aald (C : CX E p l s m args meth c cc nL own nm ret tb) {t t0 a : Nat} {cA : ClassId} {Cn : String} {i : Int32} (he : cF E.2.1 t (hL h a) (hI h a) (hR h a) (hJ h a) = .inl (cA, hL h a, .inr (.inr (.inr (.inr (hR h a)))))) (g : hT h a = t) (ht : t ≠ 0) (hty : (tyE E.2.1)[t0]? = some (cA, .object Cn)) (hin : vp_in i (hL h a)) (hdg : decode cc pc = .ok (.aaload, 1))
    (kk : WS E p l e R s m args below meth c nL Q h cells slots (pc + 1) lv (va_rf (hR h a i.toNatClampNeg) :: st)) : WS E p l e R s m args below meth c nL Q h cells slots pc lv (.int i :: .ref a :: st) := fun H locs ls hH hS hl =>
  va_aldq C.1 C.2.1 C.2.2.2.2.2.1.1 (va_P1 hH (a := a) (by rw [g]; exact ht) (by rw [g]; exact no27l he)) 0 t0 (ha := by rw [cE_t g, he]; rfl) hty hin hdg (kk H locs ls hH hS hl)
theorem r_iast (C : CX E p l s m args meth c cc nL own nm ret tb) {a : Nat} {i x : Int32} (g : hT h a = 20) (hin : vp_in i (hL h a)) (hdg : decode cc pc = .ok (.iastore, 1))
    (kk : WS E p l e R s m args below meth c nL Q (sI h a i.toNatClampNeg x) cells slots (pc + 1) lv st) : WS E p l e R s m args below meth c nL Q h cells slots pc lv (.int x :: .int i :: .ref a :: st) := fun H locs ls hH hS hl => by
  obtain ⟨ws, hP, hD, hcov, -⟩ := ht_ws hH
  obtain ⟨q0, hq⟩ := hcov a (by rw [g]; decide) (by rw [g]; decide)
  rw [cE_t g, ar20] at hq
  refine va_iast C.1 C.2.1 C.2.2.2.2.2.1.1 hP hD hS q0 0 hq rfl hin hdg (fun H1 locs1 hP1 _ hS1 => ?_)
  exact kk H1 locs1 ls (ht_set hH C.2.2.2.2.2.2.2.2.1 hS hS1 hcov hq hP1 (fun _ => rfl) (by rw [cE_sI_t g, ar20]) (fun b hb => cE_sI hb) (by rw [g]; decide)) hS1 hl
/-- an object into a row of its own class -/
theorem r_aast (C : CX E p l s m args meth c cc nL own nm ret tb) {t t0 a ci N tv v : Nat} {cA : ClassId} {Cn : String} {T : u_T} {ty : Nat → FieldType} {fs : List Value} {i : Int32} (K : CLS ci Cn T N ty) (he : ∀ f, cF E.2.1 t (hL h a) (hI h a) f (hJ h a) = .inl (cA, hL h a, .inr (.inr (.inr (.inr f))))) (g : hT h a = t) (ht : t ≠ 0 ∧ t ≠ 27) (hty : (tyE E.2.1)[t0]? = some (cA, .object Cn)) (hin : vp_in i (hL h a)) (gv : hT h v = tv) (hv : cF E.2.1 tv (hL h v) (hI h v) (hR h v) (hJ h v) = .inr (ci, fs)) (htv : tv ≠ 0 ∧ tv ≠ 27) (hdg : decode cc pc = .ok (.aastore, 1))
    (kk : WS E p l e R s m args below meth c nL Q (sR h a i.toNatClampNeg (some v)) cells slots (pc + 1) lv st) : WS E p l e R s m args below meth c nL Q h cells slots pc lv (.ref v :: .int i :: .ref a :: st) := fun H locs ls hH hS hl => by
  obtain ⟨ws, hP, hD, hcov, -⟩ := ht_ws hH
  obtain ⟨q0, hq⟩ := hcov a (by rw [g]; exact ht.1) (by rw [g]; exact ht.2)
  obtain ⟨qk, hqk⟩ := hcov v (by rw [gv]; exact htv.1) (by rw [gv]; exact htv.2)
  rw [cE_t g, he] at hq
  rw [cE_t gv, hv] at hqk
  refine va_astq C.1 C.2.1 C.2.2.2.2.2.1.1 hP hD hS q0 t0 qk ci (r := (Cn, T, N)) hq hty hqk K.1 hin hdg (fun H1 locs1 hP1 _ hS1 => ?_)
  exact kk H1 locs1 ls (ht_set hH C.2.2.2.2.2.2.2.2.1 hS hS1 hcov hq hP1 (fun _ => rfl) (by rw [cE_sR_t g, he]) (fun b hb => cE_sR hb) (by rw [g]; exact ht.2)) hS1 hl
/-- an object into a row of objects -/
theorem r_aastO (C : CX E p l s m args meth c cc nL own nm ret tb) {a ci N tv v : Nat} {Cn : String} {T : u_T} {ty : Nat → FieldType} {fs : List Value} {i : Int32} (K : CLS ci Cn T N ty) (hca : (Cn, "java/lang/Object") ∈ CAS) (g : hT h a = 26) (hin : vp_in i (hL h a)) (gv : hT h v = tv) (hv : cF E.2.1 tv (hL h v) (hI h v) (hR h v) (hJ h v) = .inr (ci, fs)) (htv : tv ≠ 0 ∧ tv ≠ 27) (hdg : decode cc pc = .ok (.aastore, 1))
    (kk : WS E p l e R s m args below meth c nL Q (sR h a i.toNatClampNeg (some v)) cells slots (pc + 1) lv st) : WS E p l e R s m args below meth c nL Q h cells slots pc lv (.ref v :: .int i :: .ref a :: st) := fun H locs ls hH hS hl => by
  obtain ⟨ws, hP, hD, hcov, -⟩ := ht_ws hH
  obtain ⟨q0, hq⟩ := hcov a (by rw [g]; decide) (by rw [g]; decide)
  obtain ⟨qk, hqk⟩ := hcov v (by rw [gv]; exact htv.1) (by rw [gv]; exact htv.2)
  rw [cE_t g, ar26] at hq
  rw [cE_t gv, hv] at hqk
  refine va_astqO C.1 C.2.1 C.2.2.2.2.2.1.1 hP hD hS q0 6 qk ci (r := (Cn, T, N)) hq rfl (C.2.2.2.2.2.1.2.2.2.2.2.1 _ hca) hqk K.1 hin hdg (fun H1 locs1 hP1 _ hS1 => ?_)
  exact kk H1 locs1 ls (ht_set hH C.2.2.2.2.2.2.2.2.1 hS hS1 hcov hq hP1 (fun _ => rfl) (by rw [cE_sR_t g, ar26]) (fun b hb => cE_sR hb) (by rw [g]; decide)) hS1 hl
theorem r_aastN (C : CX E p l s m args meth c cc nL own nm ret tb) {t t0 a : Nat} {cA : ClassId} {Cn : String} {i : Int32} (he : ∀ f, cF E.2.1 t (hL h a) (hI h a) f (hJ h a) = .inl (cA, hL h a, .inr (.inr (.inr (.inr f))))) (g : hT h a = t) (ht : t ≠ 0 ∧ t ≠ 27) (hty : (tyE E.2.1)[t0]? = some (cA, .object Cn)) (hin : vp_in i (hL h a)) (hdg : decode cc pc = .ok (.aastore, 1))
    (kk : WS E p l e R s m args below meth c nL Q (sR h a i.toNatClampNeg none) cells slots (pc + 1) lv st) : WS E p l e R s m args below meth c nL Q h cells slots pc lv (va_rf none :: .int i :: .ref a :: st) := fun H locs ls hH hS hl => by
  obtain ⟨ws, hP, hD, hcov, -⟩ := ht_ws hH
  obtain ⟨q0, hq⟩ := hcov a (by rw [g]; exact ht.1) (by rw [g]; exact ht.2)
  rw [cE_t g, he] at hq
  refine va_astqN C.1 C.2.1 C.2.2.2.2.2.1.1 hP hD hS q0 t0 hq hty hin hdg (fun H1 locs1 hP1 _ hS1 => ?_)
  exact kk H1 locs1 ls (ht_set hH C.2.2.2.2.2.2.2.2.1 hS hS1 hcov hq hP1 (fun _ => rfl) (by rw [cE_sR_t g, he]) (fun b hb => cE_sR hb) (by rw [g]; exact ht.2)) hS1 hl
/-! new cells -/
theorem r_new (C : CX E p l s m args meth c cc nL own nm ret tb) {ci N t idx : Nat} {Cn : String} {T : u_T} {ty : Nat → FieldType} {fs : List Value} (K : CLS ci Cn T N ty) (hcl : Cond.classLink own idx Cn ∈ BG) (hinst : Cond.instantiable Cn N ∈ BG) (hini : Cond.initialized Cn ∈ BG) (hfs : ∀ j, j < N → defaultValue (ty j) = vp_V fs j) (he : cF E.2.1 t 0 (fun _ => 0) (fun _ => none) (fun _ => 0) = .inr (ci, fs)) (ht : t ≠ 27) (hc : cells + 1 ≤ R.cells) (hs : slots + N ≤ R.slots) (hdg : decode cc pc = .ok (.new idx, 3))
    (kk : ∀ q, hT h q = 0 → WS E p l e R s m args below meth c nL Q (sN h q t 0) (cells + 1) (slots + N) (pc + 3) lv (.ref q :: st)) : WS E p l e R s m args below meth c nL Q h cells slots pc lv st := fun H locs ls hH hS hl => by
  obtain ⟨ws, hP, hD, hcov, -⟩ := ht_ws hH
  refine va_new C.1 C.2.1 C.2.2.2.2.1 K.2.1 ty K.2.2.1 C.2.2.2.1 (C.2.2.2.2.1 _ hcl) (C.2.2.2.2.1 _ hinst) (C.2.2.2.2.1 _ hini) C.2.2.2.2.2.1.1 hP hD hS (fun q hq => Nat.le_trans C.2.2.2.2.2.2.2.2.1 hq) K.1 hfs hc hs hdg (fun q H1 hP1 hD1 hS1 => ?_)
  obtain ⟨h0, hH1⟩ := ht_push hH C.2.2.2.2.2.2.2.2.1 hS hS1 hcov hP1 hD1 ht he
  exact kk q h0 H1 locs ls hH1 hS1 hl
theorem nt_int {n : Nat} {cA : ClassId} : vp_cell cA (n, .inl (fun _ => 0)) = arrV cA n (fun _ => defaultValue .int) := rfl
theorem r_newi (C : CX E p l s m args meth c cc nL own nm ret tb) {n : Int32} {N : Nat} (hw : Cond.arrayClass .int ∈ BG) (hn : ¬ n < 0) (hN : n.toNatClampNeg = N) (hb : N * componentBytes .int ≤ 536870912) (hc : cells + 1 ≤ R.cells) (hs : slots + N ≤ R.slots) (hdg : decode cc pc = .ok (.newarray .int, 2))
    (kk : ∀ q, hT h q = 0 → WS E p l e R s m args below meth c nL Q (sN h q 20 N) (cells + 1) (slots + N) (pc + 2) lv (.ref q :: st)) : WS E p l e R s m args below meth c nL Q h cells slots pc lv (.int n :: st) := fun H locs ls hH hS hl => by
  obtain ⟨ws, hP, hD, hcov, -⟩ := ht_ws hH
  have hK0 : va_K E.1 vwCl [(E.2.1 0, .int)] s := C.2.2.2.2.2.1.1.sub [0] rfl
  refine va_newa (atype := .int) (ty := .int) C.1 C.2.1 (C.2.2.2.2.1 _ hw) rfl hK0 hP hD hS (fun q hq => Nat.le_trans C.2.2.2.2.2.2.2.2.1 hq) (a0 := (N, .inl (fun _ => 0))) (fun cA => nt_int) hn hN hb hc hs hdg (fun q cA H1 hK1 hP1 hD1 hS1 => ?_)
  have e1 : s.vm.findClass _ = some (E.2.1 0) := (hK1.2 0 _ rfl).2
  have e2 : s.vm.findClass _ = some cA := (hK1.2 1 _ rfl).2
  have e3 : E.2.1 0 = cA := Option.some.inj (e1.symm.trans e2)
  obtain ⟨h0, hH1⟩ := ht_push hH C.2.2.2.2.2.2.2.2.1 hS hS1 hcov hP1 hD1 (t := 20) (n := N) (by decide) (by rw [ar20, e3])
  exact kk q h0 H1 locs ls hH1 hS1 hl
theorem r_anew (C : CX E p l s m args meth c cc nL own nm ret tb) {n : Int32} {N t t0 idx : Nat} {Cn : String} (hcl : Cond.classLink own idx Cn ∈ BG) (hao : Cn ∈ AOS) (hty : (tyE E.2.1)[t0]? = some (E.2.1 t0, .object Cn)) (he : cF E.2.1 t N (fun _ => 0) (fun _ => none) (fun _ => 0) = .inl (E.2.1 t0, N, .inr (.inr (.inr (.inr (fun _ => none)))))) (ht : t ≠ 27) (hn : ¬ n < 0) (hN : n.toNatClampNeg = N) (hb : N * 4 ≤ 536870912) (hc : cells + 1 ≤ R.cells) (hs : slots + N ≤ R.slots) (hdg : decode cc pc = .ok (.anewarray idx, 3))
    (kk : ∀ q, hT h q = 0 → WS E p l e R s m args below meth c nL Q (sN h q t N) (cells + 1) (slots + N) (pc + 3) lv (.ref q :: st)) : WS E p l e R s m args below meth c nL Q h cells slots pc lv (.int n :: st) := fun H locs ls hH hS hl => by
  obtain ⟨ws, hP, hD, hcov, -⟩ := ht_ws hH
  refine va_newq C.1 C.2.1 C.2.2.2.1 (C.2.2.2.2.1 _ hcl) (C.2.2.2.2.2.1.2.2.2.2.2.2.2.1 _ hao) C.2.2.2.2.2.1.1 hP hD hS (fun q hq => Nat.le_trans C.2.2.2.2.2.2.2.2.1 hq) hn hN hb hc hs hdg (fun q cA H1 hK1 hP1 hD1 hS1 => ?_)
  obtain ⟨-, -, -, -, -, e1⟩ := (C.2.2.2.2.2.1.1.2 t0 _ hty).2
  obtain ⟨-, -, -, -, -, e2⟩ := (hK1.2 7 _ rfl).2
  have e3 : E.2.1 t0 = cA := Option.some.inj (e1.symm.trans e2)
  obtain ⟨h0, hH1⟩ := ht_push hH C.2.2.2.2.2.2.2.2.1 hS hS1 hcov hP1 hD1 (t := t) (n := N) ht (by rw [he, e3])
  exact kk q h0 H1 locs ls hH1 hS1 hl
end RH
