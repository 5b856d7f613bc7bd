/-! the methods by program: wp_<method> (what its bytecode asks, over the typed heap) and m_<method> (its contract) -/
theorem leb {n m : Nat} (h : Nat.ble n m = true) : n ≤ m := Nat.le_of_ble_eq_true h
theorem tag_sN {h : Hp} {q a t t' n : Nat} (z : hT h q = 0) (g : hT h a = t) (ht : t ≠ 0) : hT (sN h q t' n) a = t := by
  rw [hT_sN, if_neg]
  · exact g
  · intro e
    rw [e, z] at g
    exact ht g.symm
theorem tag_new {h : Hp} {q t n : Nat} : hT (sN h q t n) q = t := by rw [hT_sN, if_pos rfl]
def poA (post : Nat → Hp → Prop) : Option Value → Hp → Prop := fun v h => ∃ r, v = some (.ref r) ∧ post r h
def puA (h0 : Hp) (post : Nat → Prop) : Option Value → Hp → Prop := fun v h => ∃ r, v = some (.ref r) ∧ post r ∧ h = h0
theorem kkA {K : Hp → List Value → Prop} {st : List Value} {post : Nat → Hp → Prop} (k : ∀ r h, post r h → K h (.ref r :: st)) : ∀ v h, poA post v h → K h (v.toList ++ st) := fun v h ⟨r, ev, hp⟩ => by subst ev; exact k r h hp
theorem kpA {K : Hp → List Value → Prop} {st : List Value} {h0 : Hp} {post : Nat → Prop} (k : ∀ r, post r → K h0 (.ref r :: st)) : ∀ v h, puA h0 post v h → K h (v.toList ++ st) := fun v h ⟨r, ev, hp, eh⟩ => by subst ev eh; exact k r hp
theorem r_subk {E : Ev} {p : Program} {l : Launch} {e : Env} {R : Room} {s : State} {m : MethodId} {args : Array Value} {below : List Frame} {meth : Method} {c : Code} {nL : Nat} {Q : State → Prop} {h : Hp} {cells slots pc : Nat} {lv lv' : List (Nat × Value)} {st : List Value} (kk : WS E p l e R s m args below meth c nL Q h cells slots pc lv' st) (hs : lvS lv lv') : WS E p l e R s m args below meth c nL Q h cells slots pc lv st := r_sub hs kk
def tE (a b h t : Nat) : ExceptionTableEntry := { startPc := a, endPc := b, handlerPc := h, catchType := t }

def wp_X0_init (h : Hp) (this : Nat) (p0 : Int32) (p1 : Int32) (post : Hp → Prop) : Prop :=
(∀ q1 : Nat, hT h q1 = 0 →
 (∀ h2, h2 = sN h q1 24 10 →
 (hT h2 this = 2 ∧
 (∀ h5, h5 = sR h2 this 2 (some q1) →
 (∀ h7, h7 = sI h5 this 3 (0 : Int32) →
 (∀ h9, h9 = sI h7 this 4 (-1 : Int32) →
 (∀ h11, h11 = sR h9 this 5 none →
 (∀ h13, h13 = sI h11 this 6 (0 : Int32) →
 (∀ h15, h15 = sI h13 this 7 (0 : Int32) →
 (∀ h17, h17 = sI h15 this 8 (0 : Int32) →
 (∀ h19, h19 = sI h17 this 0 p0 →
 (∀ h21, h21 = sI h19 this 1 p1 →
 post h21))))))))))))
set_option maxHeartbeats 4000000 in
set_option maxRecDepth 100000 in
theorem m_X0_init {E : Ev} {l : Launch} (hl : l.stackTraces = false) {h : Hp} {this : Nat} {p0 : Int32} {p1 : Int32} {post : Hp → Prop} (hw : wp_X0_init h this p0 p1 post) : MT E l yX0_init cX0_init 3 none 1 40 1 10 h [.ref this, .int p0, .int p1] (poV post) (pxN) := by
  refine MT.of (by decide) hl (Nat.le_of_ble_eq_true rfl) (fun p e s m args below meth c C => ?_)
  unfold wp_X0_init at hw
  have C : CX E p l s m args meth c cX0_init 3 "TaktLine$Car" "<init>" none [] := C
  show WS E p l e (rmOf 1 1 10 40) s m args below meth c 3 (vx_MQ below (qcP E (poV post)) (xcP E (pxN)) args s 1 10 (bsA E)) h 0 0 0 [(0, .ref this), (1, .int p0), (2, .int p1)] []
  refine r_aload_n C dX0_init_0 rfl rfl ?_
  refine r_objInit C w_631 w_64 w_65 (leb rfl) (leb rfl) dX0_init_1 ?_
  refine r_aload_n C dX0_init_4 rfl rfl ?_
  refine r_bipush (v := (10 : Int32)) C dX0_init_5 (by decide) ?_
  refine r_anew (N := 10) (t := 24) (t0 := 4) C w_632 (by decide +kernel) rfl ar24 (by decide) (by decide) (by decide) (by decide) (by decide) (by decide) dX0_init_7 (fun q1 z1 => ?_)
  replace hw := hw q1 z1
  obtain ⟨h2, eh2⟩ : ∃ z, z = sN h q1 24 10 := ⟨_, rfl⟩
  replace hw := hw h2 eh2
  rw [← eh2]
  have g3 : hT h2 q1 = 24 := by rw [eh2]; exact tag_new
  obtain ⟨g4, hw⟩ := hw
  obtain ⟨h5, eh5⟩ : ∃ z, z = sR h2 this 2 (some q1) := ⟨_, rfl⟩
  replace hw := hw h5 eh5
  refine p_FR C K2 ob2 g4 (by decide) 2 (by decide) w_638 (fun _ z => z) rfl rfl rfl (some q1) (fty := .array (.object "TaktLine$Lot")) (by decide +kernel) (Or.inr ⟨_, rfl⟩) (Nat.le_of_ble_eq_true rfl) rfl dX0_init_10 eh5 ?_
  refine r_aload_n C dX0_init_13 rfl rfl ?_
  refine r_iconst (v := (0 : Int32)) C dX0_init_14 (by decide) ?_
  have g6 : hT h5 this = 2 := by rw [eh5]; exact g4
  obtain ⟨h7, eh7⟩ : ∃ z, z = sI h5 this 3 (0 : Int32) := ⟨_, rfl⟩
  replace hw := hw h7 eh7
  refine p_I C K2 ob2 g6 (by decide) 3 (by decide) w_640 (fun _ z => z) rfl (by decide +kernel) (Nat.le_of_ble_eq_true rfl) rfl dX0_init_15 eh7 ?_
  refine r_aload_n C dX0_init_18 rfl rfl ?_
  refine r_iconst (v := (-1 : Int32)) C dX0_init_19 (by decide) ?_
  have g8 : hT h7 this = 2 := by rw [eh7]; exact g6
  obtain ⟨h9, eh9⟩ : ∃ z, z = sI h7 this 4 (-1 : Int32) := ⟨_, rfl⟩
  replace hw := hw h9 eh9
  refine p_I C K2 ob2 g8 (by decide) 4 (by decide) w_642 (fun _ z => z) rfl (by decide +kernel) (Nat.le_of_ble_eq_true rfl) rfl dX0_init_20 eh9 ?_
  refine r_aload_n C dX0_init_23 rfl rfl ?_
  refine r_null C dX0_init_24 ?_
  have g10 : hT h9 this = 2 := by rw [eh9]; exact g8
  obtain ⟨h11, eh11⟩ : ∃ z, z = sR h9 this 5 none := ⟨_, rfl⟩
  replace hw := hw h11 eh11
  refine p_R C K2 ob2 g10 (by decide) 5 (by decide) w_644 (fun _ z => z) rfl none (fty := .object "TaktLine$Image") (by decide +kernel) (Or.inl ⟨_, rfl⟩) (Nat.le_of_ble_eq_true rfl) rfl dX0_init_25 eh11 ?_
  refine r_aload_n C dX0_init_28 rfl rfl ?_
  refine r_iconst (v := (0 : Int32)) C dX0_init_29 (by decide) ?_
  have g12 : hT h11 this = 2 := by rw [eh11]; exact g10
  obtain ⟨h13, eh13⟩ : ∃ z, z = sI h11 this 6 (0 : Int32) := ⟨_, rfl⟩
  replace hw := hw h13 eh13
  refine p_B C K2 ob2 g12 (by decide) 6 (by decide) w_646 (fun _ z => z) rfl (Or.inl rfl) (by decide +kernel) (Nat.le_of_ble_eq_true rfl) rfl dX0_init_30 eh13 ?_
  refine r_aload_n C dX0_init_33 rfl rfl ?_
  refine r_iconst (v := (0 : Int32)) C dX0_init_34 (by decide) ?_
  have g14 : hT h13 this = 2 := by rw [eh13]; exact g12
  obtain ⟨h15, eh15⟩ : ∃ z, z = sI h13 this 7 (0 : Int32) := ⟨_, rfl⟩
  replace hw := hw h15 eh15
  refine p_B C K2 ob2 g14 (by decide) 7 (by decide) w_648 (fun _ z => z) rfl (Or.inl rfl) (by decide +kernel) (Nat.le_of_ble_eq_true rfl) rfl dX0_init_35 eh15 ?_
  refine r_aload_n C dX0_init_38 rfl rfl ?_
  refine r_iconst (v := (0 : Int32)) C dX0_init_39 (by decide) ?_
  have g16 : hT h15 this = 2 := by rw [eh15]; exact g14
  obtain ⟨h17, eh17⟩ : ∃ z, z = sI h15 this 8 (0 : Int32) := ⟨_, rfl⟩
  replace hw := hw h17 eh17
  refine p_B C K2 ob2 g16 (by decide) 8 (by decide) w_650 (fun _ z => z) rfl (Or.inl rfl) (by decide +kernel) (Nat.le_of_ble_eq_true rfl) rfl dX0_init_40 eh17 ?_
  refine r_aload_n C dX0_init_43 rfl rfl ?_
  refine r_iload_n C dX0_init_44 rfl rfl ?_
  have g18 : hT h17 this = 2 := by rw [eh17]; exact g16
  obtain ⟨h19, eh19⟩ : ∃ z, z = sI h17 this 0 p0 := ⟨_, rfl⟩
  replace hw := hw h19 eh19
  refine p_FI C K2 ob2 g18 (by decide) 0 (by decide) w_634 (fun _ z => z) rfl rfl rfl (by decide +kernel) (Nat.le_of_ble_eq_true rfl) rfl dX0_init_45 eh19 ?_
  refine r_aload_n C dX0_init_48 rfl rfl ?_
  refine r_iload_n C dX0_init_49 rfl rfl ?_
  have g20 : hT h19 this = 2 := by rw [eh19]; exact g18
  obtain ⟨h21, eh21⟩ : ∃ z, z = sI h19 this 1 p1 := ⟨_, rfl⟩
  replace hw := hw h21 eh21
  refine p_FI C K2 ob2 g20 (by decide) 1 (by decide) w_636 (fun _ z => z) rfl rfl rfl (by decide +kernel) (Nat.le_of_ble_eq_true rfl) rfl dX0_init_50 eh21 ?_
  exact r_vret C dX0_init_53 (by decide) (by decide) ⟨rfl, hw⟩
theorem v_X0_init : MI yX0_init cX0_init 3 2 := ⟨w_630, w_629, w_55, rfl, ⟨by decide +kernel, by decide +kernel, by decide +kernel⟩⟩

def wp_X0_hasGoodUnit (h : Hp) (this : Nat) (p0 : Int32) (post : Int32 → Prop) : Prop :=
(hT h this = 2 ∧
 (∃ a2 : Nat, hR h this 2 = some a2 ∧
 (hT h a2 = 24 ∧
 (∃ j4 : Nat, p0 = nI j4 ∧ j4 < 2147483648 ∧ j4 < hL h a2 ∧
 (∃ r5 : Option Nat, hR h a2 j4 = r5 ∧
 (∀ J23 : Int32 → Prop, (∀ (t23_0 : Int32), (b01 t23_0 ∧
 post t23_0) → J23 t23_0) →
 (∀ J22 : Prop, ((J23 (0 : Int32)) → J22) →
 ((r5 = none →
 J22) ∧ (∀ x7, r5 = some x7 →
 (hT h x7 = 5 ∧
 (∃ x9 : Int32, hI h x7 4 = x9 ∧
 ((x9 = 0 →
 J23 (1 : Int32)) ∧ (¬ (x9 = 0) →
 J22)))))))))))))
set_option maxHeartbeats 4000000 in
set_option maxRecDepth 100000 in
theorem m_X0_hasGoodUnit {E : Ev} {l : Launch} (hl : l.stackTraces = false) {h : Hp} {this : Nat} {p0 : Int32} {post : Int32 → Prop} (hw : wp_X0_hasGoodUnit h this p0 post) : MT E l yX0_hasGoodUnit cX0_hasGoodUnit 3 (some .boolean) 0 0 0 0 h [.ref this, .int p0] (puI h post) (pxN) := by
  refine MT.of (by decide) hl (Nat.le_of_ble_eq_true rfl) (fun p e s m args below meth c C => ?_)
  unfold wp_X0_hasGoodUnit at hw
  have C : CX E p l s m args meth c cX0_hasGoodUnit 3 "TaktLine$Car" "hasGoodUnit" (some .boolean) [] := C
  show WS E p l e (rmOf 0 0 0 0) s m args below meth c 3 (vx_MQ below (qcP E (puI h post)) (xcP E (pxN)) args s 0 0 (bsA E)) h 0 0 0 [(0, .ref this), (1, .int p0)] []
  refine r_aload_n C dX0_hasGoodUnit_0 rfl rfl ?_
  obtain ⟨g1, hw⟩ := hw
  obtain ⟨a2, e2, hw⟩ := hw
  refine r_getA C K2 ob2 g1 (by decide) 2 (by decide) w_638 (fun _ z => z) e2 rfl dX0_hasGoodUnit_1 ?_
  refine r_iload_n C dX0_hasGoodUnit_4 rfl rfl ?_
  obtain ⟨g3, hw⟩ := hw
  obtain ⟨j4, f4, l4, k4, hw⟩ := hw
  obtain ⟨r5, e5, hw⟩ := hw
  refine a_R C ar24 g3 (by decide) (t0 := 4) rfl f4 l4 k4 e5 dX0_hasGoodUnit_5 ?_
  refine r_astoreq_n C dX0_hasGoodUnit_6 rfl (by decide) [(2, va_rf r5)] ⟨rfl, trivial⟩ ?_
  refine r_aloadq_n C dX0_hasGoodUnit_7 rfl rfl ?_
  replace hw := hw (fun (t23_0 : Int32) => WS E p l e (rmOf 0 0 0 0) s m args below meth c 3 (vx_MQ below (qcP E (puI h post)) (xcP E (pxN)) args s 0 0 (bsA E)) h 0 0 23 [] [.int t23_0]) (by
    intro t23_0 hv
    replace hw := hv
    clear hv
    obtain ⟨y6, hw⟩ := hw
    exact r_zret C y6 dX0_hasGoodUnit_23 (by decide) (by decide) ⟨_, rfl, hw, rfl⟩
    )
  replace hw := hw (WS E p l e (rmOf 0 0 0 0) s m args below meth c 3 (vx_MQ below (qcP E (puI h post)) (xcP E (pxN)) args s 0 0 (bsA E)) h 0 0 22 [] []) (by
    intro hv
    replace hw := hv
    clear hv
    refine r_iconst (v := (0 : Int32)) C dX0_hasGoodUnit_22 (by decide) ?_
    exact (r_subk hw trivial)
    )
  refine r_ifnull C 22 dX0_hasGoodUnit_8 (by decide) (fun z7 => ?_) (fun x7 z7 => ?_)
  · replace hw := hw.1 z7
    subst z7
    exact (r_subk hw trivial)
  · replace hw := hw.2 x7 z7
    subst z7
    refine r_aload_n C dX0_hasGoodUnit_11 rfl rfl ?_
    obtain ⟨g8, hw⟩ := hw
    obtain ⟨x9, e9, hw⟩ := hw
    refine r_getI C K5 ob5 g8 (by decide) 4 (by decide) w_588 (fun _ z => z) e9 rfl dX0_hasGoodUnit_12 ?_
    refine r_if_ne C 22 dX0_hasGoodUnit_15 (by decide) (fun z10 => ?_) (fun z10 => ?_)
    · replace hw := hw.2 z10
      exact (r_subk hw trivial)
    · replace hw := hw.1 z10
      refine r_iconst (v := (1 : Int32)) C dX0_hasGoodUnit_18 (by decide) ?_
      refine r_goto C 23 dX0_hasGoodUnit_19 (by decide) ?_
      exact (r_subk hw trivial)
theorem v_X0_hasGoodUnit : MV yX0_hasGoodUnit cX0_hasGoodUnit 3 (some .boolean) 1 := ⟨w_244, w_242, w_243, w_55, ⟨by decide +kernel, by decide +kernel, by decide +kernel⟩⟩

def wp_X0_hasRecalledUnit (h : Hp) (this : Nat) (post : Int32 → Prop) : Prop :=
(∀ J2 : Int32 → Prop, (∀ (v2_1 : Int32), (((10 : Int32) ≤ v2_1 →
 post (0 : Int32)) ∧ (¬ ((10 : Int32) ≤ v2_1) →
 (hT h this = 2 ∧
 (∃ a3 : Nat, hR h this 2 = some a3 ∧
 (hT h a3 = 24 ∧
 (∃ j5 : Nat, v2_1 = nI j5 ∧ j5 < 2147483648 ∧ j5 < hL h a3 ∧
 (∃ r6 : Option Nat, hR h a3 j5 = r6 ∧
 (∀ J28 : Prop, ((J2 (v2_1 + (1 : Int32))) → J28) →
 ((r6 = none →
 J28) ∧ (∀ x7, r6 = some x7 →
 (hT h x7 = 5 ∧
 (∃ x9 : Int32, hI h x7 4 = x9 ∧
 ((x9 = 0 →
 J28) ∧ (¬ (x9 = 0) →
 post (1 : Int32))))))))))))))) → J2 v2_1) →
 J2 (0 : Int32))
set_option maxHeartbeats 4000000 in
set_option maxRecDepth 100000 in
theorem m_X0_hasRecalledUnit {E : Ev} {l : Launch} (hl : l.stackTraces = false) {h : Hp} {this : Nat} {post : Int32 → Prop} (hw : wp_X0_hasRecalledUnit h this post) : MT E l yX0_hasRecalledUnit cX0_hasRecalledUnit 3 (some .boolean) 0 0 0 0 h [.ref this] (puI h post) (pxN) := by
  refine MT.of (by decide) hl (Nat.le_of_ble_eq_true rfl) (fun p e s m args below meth c C => ?_)
  unfold wp_X0_hasRecalledUnit at hw
  have C : CX E p l s m args meth c cX0_hasRecalledUnit 3 "TaktLine$Car" "hasRecalledUnit" (some .boolean) [] := C
  show WS E p l e (rmOf 0 0 0 0) s m args below meth c 3 (vx_MQ below (qcP E (puI h post)) (xcP E (pxN)) args s 0 0 (bsA E)) h 0 0 0 [(0, .ref this)] []
  refine r_iconst (v := (0 : Int32)) C dX0_hasRecalledUnit_0 (by decide) ?_
  refine r_istore_n C dX0_hasRecalledUnit_1 rfl (by decide) [(0, .ref this), (1, .int (0 : Int32))] ⟨rfl, rfl, trivial⟩ ?_
  replace hw := hw (fun (v2_1 : Int32) => WS E p l e (rmOf 0 0 0 0) s m args below meth c 3 (vx_MQ below (qcP E (puI h post)) (xcP E (pxN)) args s 0 0 (bsA E)) h 0 0 2 [(0, .ref this), (1, .int v2_1)] []) (by
    intro v2_1 hv
    replace hw := hv
    clear hv
    refine r_iload_n C dX0_hasRecalledUnit_2 rfl rfl ?_
    refine r_bipush (v := (10 : Int32)) C dX0_hasRecalledUnit_3 (by decide) ?_
    refine r_icmp_ge C 34 dX0_hasRecalledUnit_5 (by decide) (fun z1 => ?_) (fun z1 => ?_)
    · replace hw := hw.1 z1
      refine r_iconst (v := (0 : Int32)) C dX0_hasRecalledUnit_34 (by decide) ?_
      exact r_zret C (Or.inl rfl) dX0_hasRecalledUnit_35 (by decide) (by decide) ⟨_, rfl, hw, rfl⟩
    · replace hw := hw.2 z1
      refine r_aload_n C dX0_hasRecalledUnit_8 rfl rfl ?_
      obtain ⟨g2, hw⟩ := hw
      obtain ⟨a3, e3, hw⟩ := hw
      refine r_getA C K2 ob2 g2 (by decide) 2 (by decide) w_638 (fun _ z => z) e3 rfl dX0_hasRecalledUnit_9 ?_
      refine r_iload_n C dX0_hasRecalledUnit_12 rfl rfl ?_
      obtain ⟨g4, hw⟩ := hw
      obtain ⟨j5, f5, l5, k5, hw⟩ := hw
      obtain ⟨r6, e6, hw⟩ := hw
      refine a_R C ar24 g4 (by decide) (t0 := 4) rfl f5 l5 k5 e6 dX0_hasRecalledUnit_13 ?_
      refine r_astoreq_n C dX0_hasRecalledUnit_14 rfl (by decide) [(0, .ref this), (1, .int v2_1), (2, va_rf r6)] ⟨rfl, rfl, rfl, trivial⟩ ?_
      refine r_aloadq_n C dX0_hasRecalledUnit_15 rfl rfl ?_
      replace hw := hw (WS E p l e (rmOf 0 0 0 0) s m args below meth c 3 (vx_MQ below (qcP E (puI h post)) (xcP E (pxN)) args s 0 0 (bsA E)) h 0 0 28 [(0, .ref this), (1, .int v2_1)] []) (by
        intro hv
        replace hw := hv
        clear hv
        refine r_iinc C (v2_1 + (1 : Int32)) dX0_hasRecalledUnit_28 rfl rfl (by decide) [(0, .ref this), (1, .int (v2_1 + (1 : Int32)))] ⟨rfl, rfl, trivial⟩ ?_
        refine r_goto C 2 dX0_hasRecalledUnit_31 (by decide) ?_
        exact (r_subk hw ⟨rfl, rfl, trivial⟩)
        )
      refine r_ifnull C 28 dX0_hasRecalledUnit_16 (by decide) (fun z7 => ?_) (fun x7 z7 => ?_)
      · replace hw := hw.1 z7
        subst z7
        exact (r_subk hw ⟨rfl, rfl, trivial⟩)
      · replace hw := hw.2 x7 z7
        subst z7
        refine r_aload_n C dX0_hasRecalledUnit_19 rfl rfl ?_
        obtain ⟨g8, hw⟩ := hw
        obtain ⟨x9, e9, hw⟩ := hw
        refine r_getI C K5 ob5 g8 (by decide) 4 (by decide) w_588 (fun _ z => z) e9 rfl dX0_hasRecalledUnit_20 ?_
        refine r_if_eq C 28 dX0_hasRecalledUnit_23 (by decide) (fun z10 => ?_) (fun z10 => ?_)
        · replace hw := hw.1 z10
          exact (r_subk hw ⟨rfl, rfl, trivial⟩)
        · replace hw := hw.2 z10
          refine r_iconst (v := (1 : Int32)) C dX0_hasRecalledUnit_26 (by decide) ?_
          exact r_zret C (Or.inr rfl) dX0_hasRecalledUnit_27 (by decide) (by decide) ⟨_, rfl, hw, rfl⟩
    )
  exact (r_subk hw ⟨rfl, rfl, trivial⟩)
theorem v_X0_hasRecalledUnit : MV yX0_hasRecalledUnit cX0_hasRecalledUnit 3 (some .boolean) 0 := ⟨w_723, w_721, w_722, w_55, ⟨by decide +kernel, by decide +kernel, by decide +kernel⟩⟩

def wp_X1_init (h : Hp) (this : Nat) (p0 : Int32) (post : Hp → Prop) : Prop :=
(∀ q1 : Nat, hT h q1 = 0 →
 (∀ h2, h2 = sN h q1 20 10 →
 (hT h2 this = 3 ∧
 (∀ h5, h5 = sR h2 this 1 (some q1) →
 (∀ h7, h7 = sI h5 this 2 (0 : Int32) →
 (∀ h9, h9 = sI h7 this 0 p0 →
 post h9))))))
set_option maxHeartbeats 4000000 in
set_option maxRecDepth 100000 in
theorem m_X1_init {E : Ev} {l : Launch} (hl : l.stackTraces = false) {h : Hp} {this : Nat} {p0 : Int32} {post : Hp → Prop} (hw : wp_X1_init h this p0 post) : MT E l yX1_init cX1_init 2 none 1 40 1 10 h [.ref this, .int p0] (poV post) (pxN) := by
  refine MT.of (by decide) hl (Nat.le_of_ble_eq_true rfl) (fun p e s m args below meth c C => ?_)
  unfold wp_X1_init at hw
  have C : CX E p l s m args meth c cX1_init 2 "TaktLine$Image" "<init>" none [] := C
  show WS E p l e (rmOf 1 1 10 40) s m args below meth c 2 (vx_MQ below (qcP E (poV post)) (xcP E (pxN)) args s 1 10 (bsA E)) h 0 0 0 [(0, .ref this), (1, .int p0)] []
  refine r_aload_n C dX1_init_0 rfl rfl ?_
  refine r_objInit C w_496 w_64 w_65 (leb rfl) (leb rfl) dX1_init_1 ?_
  refine r_aload_n C dX1_init_4 rfl rfl ?_
  refine r_bipush (v := (10 : Int32)) C dX1_init_5 (by decide) ?_
  refine r_newi (N := 10) C w_510 (by decide) (by decide) (by decide) (by decide) (by decide) dX1_init_7 (fun q1 z1 => ?_)
  replace hw := hw q1 z1
  obtain ⟨h2, eh2⟩ : ∃ z, z = sN h q1 20 10 := ⟨_, rfl⟩
  replace hw := hw h2 eh2
  rw [← eh2]
  have g3 : hT h2 q1 = 20 := by rw [eh2]; exact tag_new
  obtain ⟨g4, hw⟩ := hw
  obtain ⟨h5, eh5⟩ : ∃ z, z = sR h2 this 1 (some q1) := ⟨_, rfl⟩
  replace hw := hw h5 eh5
  refine p_FR C K3 ob3 g4 (by decide) 1 (by decide) w_499 (fun _ z => z) rfl rfl rfl (some q1) (fty := .array .int) (by decide +kernel) (Or.inr ⟨_, rfl⟩) (Nat.le_of_ble_eq_true rfl) rfl dX1_init_9 eh5 ?_
  refine r_aload_n C dX1_init_12 rfl rfl ?_
  refine r_iconst (v := (0 : Int32)) C dX1_init_13 (by decide) ?_
  have g6 : hT h5 this = 3 := by rw [eh5]; exact g4
  obtain ⟨h7, eh7⟩ : ∃ z, z = sI h5 this 2 (0 : Int32) := ⟨_, rfl⟩
  replace hw := hw h7 eh7
  refine p_I C K3 ob3 g6 (by decide) 2 (by decide) w_501 (fun _ z => z) rfl (by decide +kernel) (Nat.le_of_ble_eq_true rfl) rfl dX1_init_14 eh7 ?_
  refine r_aload_n C dX1_init_17 rfl rfl ?_
  refine r_iload_n C dX1_init_18 rfl rfl ?_
  have g8 : hT h7 this = 3 := by rw [eh7]; exact g6
  obtain ⟨h9, eh9⟩ : ∃ z, z = sI h7 this 0 p0 := ⟨_, rfl⟩
  replace hw := hw h9 eh9
  refine p_FI C K3 ob3 g8 (by decide) 0 (by decide) w_497 (fun _ z => z) rfl rfl rfl (by decide +kernel) (Nat.le_of_ble_eq_true rfl) rfl dX1_init_19 eh9 ?_
  exact r_vret C dX1_init_22 (by decide) (by decide) ⟨rfl, hw⟩
theorem v_X1_init : MI yX1_init cX1_init 2 1 := ⟨w_495, w_494, w_56, rfl, ⟨by decide +kernel, by decide +kernel, by decide +kernel⟩⟩

def wp_X1_isSignedFor (h : Hp) (this : Nat) (p0 : Int32) (post : Int32 → Prop) : Prop :=
(hT h this = 3 ∧
 (∃ x2 : Int32, hI h this 2 = x2 ∧
 (∀ J16 : Int32 → Prop, (∀ (t16_0 : Int32), (b01 t16_0 ∧
 post t16_0) → J16 t16_0) →
 (((x2 &&& ((1 : Int32) <<< (p0 &&& 31))) = 0 →
 J16 (0 : Int32)) ∧ (¬ ((x2 &&& ((1 : Int32) <<< (p0 &&& 31))) = 0) →
 J16 (1 : Int32))))))
set_option maxHeartbeats 4000000 in
set_option maxRecDepth 100000 in
theorem m_X1_isSignedFor {E : Ev} {l : Launch} (hl : l.stackTraces = false) {h : Hp} {this : Nat} {p0 : Int32} {post : Int32 → Prop} (hw : wp_X1_isSignedFor h this p0 post) : MT E l yX1_isSignedFor cX1_isSignedFor 2 (some .boolean) 0 0 0 0 h [.ref this, .int p0] (puI h post) (pxN) := by
  refine MT.of (by decide) hl (Nat.le_of_ble_eq_true rfl) (fun p e s m args below meth c C => ?_)
  unfold wp_X1_isSignedFor at hw
  have C : CX E p l s m args meth c cX1_isSignedFor 2 "TaktLine$Image" "isSignedFor" (some .boolean) [] := C
  show WS E p l e (rmOf 0 0 0 0) s m args below meth c 2 (vx_MQ below (qcP E (puI h post)) (xcP E (pxN)) args s 0 0 (bsA E)) h 0 0 0 [(0, .ref this), (1, .int p0)] []
  refine r_aload_n C dX1_isSignedFor_0 rfl rfl ?_
  obtain ⟨g1, hw⟩ := hw
  obtain ⟨x2, e2, hw⟩ := hw
  refine r_getI C K3 ob3 g1 (by decide) 2 (by decide) w_501 (fun _ z => z) e2 rfl dX1_isSignedFor_1 ?_
  refine r_iconst (v := (1 : Int32)) C dX1_isSignedFor_4 (by decide) ?_
  refine r_iload_n C dX1_isSignedFor_5 rfl rfl ?_
  refine r_ishl C dX1_isSignedFor_6 ?_
  refine r_iand C dX1_isSignedFor_7 ?_
  replace hw := hw (fun (t16_0 : Int32) => WS E p l e (rmOf 0 0 0 0) s m args below meth c 2 (vx_MQ below (qcP E (puI h post)) (xcP E (pxN)) args s 0 0 (bsA E)) h 0 0 16 [] [.int t16_0]) (by
    intro t16_0 hv
    replace hw := hv
    clear hv
    obtain ⟨y3, hw⟩ := hw
    exact r_zret C y3 dX1_isSignedFor_16 (by decide) (by decide) ⟨_, rfl, hw, rfl⟩
    )
  refine r_if_eq C 15 dX1_isSignedFor_8 (by decide) (fun z4 => ?_) (fun z4 => ?_)
  · replace hw := hw.1 z4
    refine r_iconst (v := (0 : Int32)) C dX1_isSignedFor_15 (by decide) ?_
    exact (r_subk hw trivial)
  · replace hw := hw.2 z4
    refine r_iconst (v := (1 : Int32)) C dX1_isSignedFor_11 (by decide) ?_
    refine r_goto C 16 dX1_isSignedFor_12 (by decide) ?_
    exact (r_subk hw trivial)
theorem v_X1_isSignedFor : MV yX1_isSignedFor cX1_isSignedFor 2 (some .boolean) 1 := ⟨w_332, w_330, w_331, w_56, ⟨by decide +kernel, by decide +kernel, by decide +kernel⟩⟩

def wp_X2_init (h : Hp) (this : Nat) (post : Hp → Prop) : Prop :=
(hT h this = 4 ∧
 (∀ h2, h2 = sI h this 0 (0 : Int32) →
 (∀ h4, h4 = sI h2 this 1 (255 : Int32) →
 (∀ h6, h6 = sI h4 this 2 (0 : Int32) →
 (∀ h8, h8 = sI h6 this 3 (0 : Int32) →
 post h8)))))
set_option maxHeartbeats 4000000 in
set_option maxRecDepth 100000 in
theorem m_X2_init {E : Ev} {l : Launch} (hl : l.stackTraces = false) {h : Hp} {this : Nat} {post : Hp → Prop} (hw : wp_X2_init h this post) : MT E l yX2_init cX2_init 1 none 1 40 0 0 h [.ref this] (poV post) (pxN) := by
  refine MT.of (by decide) hl (Nat.le_of_ble_eq_true rfl) (fun p e s m args below meth c C => ?_)
  unfold wp_X2_init at hw
  have C : CX E p l s m args meth c cX2_init 1 "TaktLine$Kind" "<init>" none [] := C
  show WS E p l e (rmOf 1 0 0 40) s m args below meth c 1 (vx_MQ below (qcP E (poV post)) (xcP E (pxN)) args s 0 0 (bsA E)) h 0 0 0 [(0, .ref this)] []
  refine r_aload_n C dX2_init_0 rfl rfl ?_
  refine r_objInit C w_100 w_64 w_65 (leb rfl) (leb rfl) dX2_init_1 ?_
  refine r_aload_n C dX2_init_4 rfl rfl ?_
  refine r_iconst (v := (0 : Int32)) C dX2_init_5 (by decide) ?_
  obtain ⟨g1, hw⟩ := hw
  obtain ⟨h2, eh2⟩ : ∃ z, z = sI h this 0 (0 : Int32) := ⟨_, rfl⟩
  replace hw := hw h2 eh2
  refine p_I C K4 ob4 g1 (by decide) 0 (by decide) w_101 (fun _ z => z) rfl (by decide +kernel) (Nat.le_of_ble_eq_true rfl) rfl dX2_init_6 eh2 ?_
  refine r_aload_n C dX2_init_9 rfl rfl ?_
  refine r_sipush (v := (255 : Int32)) C dX2_init_10 (by decide) ?_
  have g3 : hT h2 this = 4 := by rw [eh2]; exact g1
  obtain ⟨h4, eh4⟩ : ∃ z, z = sI h2 this 1 (255 : Int32) := ⟨_, rfl⟩
  replace hw := hw h4 eh4
  refine p_I C K4 ob4 g3 (by decide) 1 (by decide) w_103 (fun _ z => z) rfl (by decide +kernel) (Nat.le_of_ble_eq_true rfl) rfl dX2_init_13 eh4 ?_
  refine r_aload_n C dX2_init_16 rfl rfl ?_
  refine r_iconst (v := (0 : Int32)) C dX2_init_17 (by decide) ?_
  have g5 : hT h4 this = 4 := by rw [eh4]; exact g3
  obtain ⟨h6, eh6⟩ : ∃ z, z = sI h4 this 2 (0 : Int32) := ⟨_, rfl⟩
  replace hw := hw h6 eh6
  refine p_I C K4 ob4 g5 (by decide) 2 (by decide) w_105 (fun _ z => z) rfl (by decide +kernel) (Nat.le_of_ble_eq_true rfl) rfl dX2_init_18 eh6 ?_
  refine r_aload_n C dX2_init_21 rfl rfl ?_
  refine r_iconst (v := (0 : Int32)) C dX2_init_22 (by decide) ?_
  have g7 : hT h6 this = 4 := by rw [eh6]; exact g5
  obtain ⟨h8, eh8⟩ : ∃ z, z = sI h6 this 3 (0 : Int32) := ⟨_, rfl⟩
  replace hw := hw h8 eh8
  refine p_B C K4 ob4 g7 (by decide) 3 (by decide) w_107 (fun _ z => z) rfl (Or.inl rfl) (by decide +kernel) (Nat.le_of_ble_eq_true rfl) rfl dX2_init_23 eh8 ?_
  exact r_vret C dX2_init_26 (by decide) (by decide) ⟨rfl, hw⟩
theorem v_X2_init : MI yX2_init cX2_init 1 0 := ⟨w_99, w_98, w_41, rfl, ⟨by decide +kernel, by decide +kernel, by decide +kernel⟩⟩

def wp_X2_isNeededWith (h : Hp) (this : Nat) (p0 : Int32) (post : Int32 → Prop) : Prop :=
(hT h this = 4 ∧
 (∃ x2 : Int32, hI h this 1 = x2 ∧
 (∃ x3 : Int32, hI h this 1 = x3 ∧
 (∀ J27 : Int32 → Prop, (∀ (t27_0 : Int32), (b01 t27_0 ∧
 post t27_0) → J27 t27_0) →
 (∀ J26 : Prop, ((J27 (0 : Int32)) → J26) →
 (((p0 &&& x2) = x3 →
 (∃ x6 : Int32, hI h this 2 = x6 ∧
 (((p0 &&& x6) = 0 →
 J27 (1 : Int32)) ∧ (¬ ((p0 &&& x6) = 0) →
 J26)))) ∧ (¬ ((p0 &&& x2) = x3) →
 J26)))))))
set_option maxHeartbeats 4000000 in
set_option maxRecDepth 100000 in
theorem m_X2_isNeededWith {E : Ev} {l : Launch} (hl : l.stackTraces = false) {h : Hp} {this : Nat} {p0 : Int32} {post : Int32 → Prop} (hw : wp_X2_isNeededWith h this p0 post) : MT E l yX2_isNeededWith cX2_isNeededWith 2 (some .boolean) 0 0 0 0 h [.ref this, .int p0] (puI h post) (pxN) := by
  refine MT.of (by decide) hl (Nat.le_of_ble_eq_true rfl) (fun p e s m args below meth c C => ?_)
  unfold wp_X2_isNeededWith at hw
  have C : CX E p l s m args meth c cX2_isNeededWith 2 "TaktLine$Kind" "isNeededWith" (some .boolean) [] := C
  show WS E p l e (rmOf 0 0 0 0) s m args below meth c 2 (vx_MQ below (qcP E (puI h post)) (xcP E (pxN)) args s 0 0 (bsA E)) h 0 0 0 [(0, .ref this), (1, .int p0)] []
  refine r_iload_n C dX2_isNeededWith_0 rfl rfl ?_
  refine r_aload_n C dX2_isNeededWith_1 rfl rfl ?_
  obtain ⟨g1, hw⟩ := hw
  obtain ⟨x2, e2, hw⟩ := hw
  refine r_getI C K4 ob4 g1 (by decide) 1 (by decide) w_103 (fun _ z => z) e2 rfl dX2_isNeededWith_2 ?_
  refine r_iand C dX2_isNeededWith_5 ?_
  refine r_aload_n C dX2_isNeededWith_6 rfl rfl ?_
  obtain ⟨x3, e3, hw⟩ := hw
  refine r_getI C K4 ob4 g1 (by decide) 1 (by decide) w_103 (fun _ z => z) e3 rfl dX2_isNeededWith_7 ?_
  replace hw := hw (fun (t27_0 : Int32) => WS E p l e (rmOf 0 0 0 0) s m args below meth c 2 (vx_MQ below (qcP E (puI h post)) (xcP E (pxN)) args s 0 0 (bsA E)) h 0 0 27 [] [.int t27_0]) (by
    intro t27_0 hv
    replace hw := hv
    clear hv
    obtain ⟨y4, hw⟩ := hw
    exact r_zret C y4 dX2_isNeededWith_27 (by decide) (by decide) ⟨_, rfl, hw, rfl⟩
    )
  replace hw := hw (WS E p l e (rmOf 0 0 0 0) s m args below meth c 2 (vx_MQ below (qcP E (puI h post)) (xcP E (pxN)) args s 0 0 (bsA E)) h 0 0 26 [] []) (by
    intro hv
    replace hw := hv
    clear hv
    refine r_iconst (v := (0 : Int32)) C dX2_isNeededWith_26 (by decide) ?_
    exact (r_subk hw trivial)
    )
  refine r_icmp_ne C 26 dX2_isNeededWith_10 (by decide) (fun z5 => ?_) (fun z5 => ?_)
  · replace hw := hw.2 z5
    exact (r_subk hw trivial)
  · replace hw := hw.1 z5
    refine r_iload_n C dX2_isNeededWith_13 rfl rfl ?_
    refine r_aload_n C dX2_isNeededWith_14 rfl rfl ?_
    obtain ⟨x6, e6, hw⟩ := hw
    refine r_getI C K4 ob4 g1 (by decide) 2 (by decide) w_105 (fun _ z => z) e6 rfl dX2_isNeededWith_15 ?_
    refine r_iand C dX2_isNeededWith_18 ?_
    refine r_if_ne C 26 dX2_isNeededWith_19 (by decide) (fun z7 => ?_) (fun z7 => ?_)
    · replace hw := hw.2 z7
      exact (r_subk hw trivial)
    · replace hw := hw.1 z7
      refine r_iconst (v := (1 : Int32)) C dX2_isNeededWith_22 (by decide) ?_
      refine r_goto C 27 dX2_isNeededWith_23 (by decide) ?_
      exact (r_subk hw trivial)
theorem v_X2_isNeededWith : MV yX2_isNeededWith cX2_isNeededWith 2 (some .boolean) 1 := ⟨w_240, w_238, w_239, w_41, ⟨by decide +kernel, by decide +kernel, by decide +kernel⟩⟩

def wp_X3_init (h : Hp) (this : Nat) (p0 : Int32) (p1 : Int32) (p2 : Int32) (p3 : Int32) (post : Hp → Prop) : Prop :=
(hT h this = 5 ∧
 (∀ h2, h2 = sI h this 4 (0 : Int32) →
 (∀ h4, h4 = sI h2 this 0 p0 →
 (∀ h6, h6 = sI h4 this 1 p1 →
 (∀ h8, h8 = sI h6 this 2 p2 →
 (∀ h10, h10 = sI h8 this 3 p3 →
 post h10))))))
set_option maxHeartbeats 4000000 in
set_option maxRecDepth 100000 in
theorem m_X3_init {E : Ev} {l : Launch} (hl : l.stackTraces = false) {h : Hp} {this : Nat} {p0 : Int32} {p1 : Int32} {p2 : Int32} {p3 : Int32} {post : Hp → Prop} (hw : wp_X3_init h this p0 p1 p2 p3 post) : MT E l yX3_init cX3_init 5 none 1 40 0 0 h [.ref this, .int p0, .int p1, .int p2, .int p3] (poV post) (pxN) := by
  refine MT.of (by decide) hl (Nat.le_of_ble_eq_true rfl) (fun p e s m args below meth c C => ?_)
  unfold wp_X3_init at hw
  have C : CX E p l s m args meth c cX3_init 5 "TaktLine$Lot" "<init>" none [] := C
  show WS E p l e (rmOf 1 0 0 40) s m args below meth c 5 (vx_MQ below (qcP E (poV post)) (xcP E (pxN)) args s 0 0 (bsA E)) h 0 0 0 [(0, .ref this), (1, .int p0), (2, .int p1), (3, .int p2), (4, .int p3)] []
  refine r_aload_n C dX3_init_0 rfl rfl ?_
  refine r_objInit C w_578 w_64 w_65 (leb rfl) (leb rfl) dX3_init_1 ?_
  refine r_aload_n C dX3_init_4 rfl rfl ?_
  refine r_iconst (v := (0 : Int32)) C dX3_init_5 (by decide) ?_
  obtain ⟨g1, hw⟩ := hw
  obtain ⟨h2, eh2⟩ : ∃ z, z = sI h this 4 (0 : Int32) := ⟨_, rfl⟩
  replace hw := hw h2 eh2
  refine p_B C K5 ob5 g1 (by decide) 4 (by decide) w_587 (fun _ z => z) rfl (Or.inl rfl) (by decide +kernel) (Nat.le_of_ble_eq_true rfl) rfl dX3_init_6 eh2 ?_
  refine r_aload_n C dX3_init_9 rfl rfl ?_
  refine r_iload_n C dX3_init_10 rfl rfl ?_
  have g3 : hT h2 this = 5 := by rw [eh2]; exact g1
  obtain ⟨h4, eh4⟩ : ∃ z, z = sI h2 this 0 p0 := ⟨_, rfl⟩
  replace hw := hw h4 eh4
  refine p_FI C K5 ob5 g3 (by decide) 0 (by decide) w_579 (fun _ z => z) rfl rfl rfl (by decide +kernel) (Nat.le_of_ble_eq_true rfl) rfl dX3_init_11 eh4 ?_
  refine r_aload_n C dX3_init_14 rfl rfl ?_
  refine r_iload_n C dX3_init_15 rfl rfl ?_
  have g5 : hT h4 this = 5 := by rw [eh4]; exact g3
  obtain ⟨h6, eh6⟩ : ∃ z, z = sI h4 this 1 p1 := ⟨_, rfl⟩
  replace hw := hw h6 eh6
  refine p_FI C K5 ob5 g5 (by decide) 1 (by decide) w_581 (fun _ z => z) rfl rfl rfl (by decide +kernel) (Nat.le_of_ble_eq_true rfl) rfl dX3_init_16 eh6 ?_
  refine r_aload_n C dX3_init_19 rfl rfl ?_
  refine r_iload_n C dX3_init_20 rfl rfl ?_
  have g7 : hT h6 this = 5 := by rw [eh6]; exact g5
  obtain ⟨h8, eh8⟩ : ∃ z, z = sI h6 this 2 p2 := ⟨_, rfl⟩
  replace hw := hw h8 eh8
  refine p_FI C K5 ob5 g7 (by decide) 2 (by decide) w_583 (fun _ z => z) rfl rfl rfl (by decide +kernel) (Nat.le_of_ble_eq_true rfl) rfl dX3_init_21 eh8 ?_
  refine r_aload_n C dX3_init_24 rfl rfl ?_
  refine r_iload C dX3_init_25 rfl ?_
  have g9 : hT h8 this = 5 := by rw [eh8]; exact g7
  obtain ⟨h10, eh10⟩ : ∃ z, z = sI h8 this 3 p3 := ⟨_, rfl⟩
  replace hw := hw h10 eh10
  refine p_I C K5 ob5 g9 (by decide) 3 (by decide) w_585 (fun _ z => z) rfl (by decide +kernel) (Nat.le_of_ble_eq_true rfl) rfl dX3_init_27 eh10 ?_
  exact r_vret C dX3_init_30 (by decide) (by decide) ⟨rfl, hw⟩
theorem v_X3_init : MI yX3_init cX3_init 5 4 := ⟨w_577, w_576, w_48, rfl, ⟨by decide +kernel, by decide +kernel, by decide +kernel⟩⟩

def wp_X4_init (h : Hp) (this : Nat) (p0 : Int32) (p1 : Int32) (p2 : Int32) (post : Hp → Prop) : Prop :=
(hT h this = 6 ∧
 (∀ h2, h2 = sI h this 0 p0 →
 (∀ h4, h4 = sI h2 this 1 p1 →
 (∀ h6, h6 = sI h4 this 2 p2 →
 post h6))))
set_option maxHeartbeats 4000000 in
set_option maxRecDepth 100000 in
theorem m_X4_init {E : Ev} {l : Launch} (hl : l.stackTraces = false) {h : Hp} {this : Nat} {p0 : Int32} {p1 : Int32} {p2 : Int32} {post : Hp → Prop} (hw : wp_X4_init h this p0 p1 p2 post) : MT E l yX4_init cX4_init 4 none 1 40 0 0 h [.ref this, .int p0, .int p1, .int p2] (poV post) (pxN) := by
  refine MT.of (by decide) hl (Nat.le_of_ble_eq_true rfl) (fun p e s m args below meth c C => ?_)
  unfold wp_X4_init at hw
  have C : CX E p l s m args meth c cX4_init 4 "TaktLine$Pick" "<init>" none [] := C
  show WS E p l e (rmOf 1 0 0 40) s m args below meth c 4 (vx_MQ below (qcP E (poV post)) (xcP E (pxN)) args s 0 0 (bsA E)) h 0 0 0 [(0, .ref this), (1, .int p0), (2, .int p1), (3, .int p2)] []
  refine r_aload_n C dX4_init_0 rfl rfl ?_
  refine r_objInit C w_416 w_64 w_65 (leb rfl) (leb rfl) dX4_init_1 ?_
  refine r_aload_n C dX4_init_4 rfl rfl ?_
  refine r_iload_n C dX4_init_5 rfl rfl ?_
  obtain ⟨g1, hw⟩ := hw
  obtain ⟨h2, eh2⟩ : ∃ z, z = sI h this 0 p0 := ⟨_, rfl⟩
  replace hw := hw h2 eh2
  refine p_FI C K6 ob6 g1 (by decide) 0 (by decide) w_417 (fun _ z => z) rfl rfl rfl (by decide +kernel) (Nat.le_of_ble_eq_true rfl) rfl dX4_init_6 eh2 ?_
  refine r_aload_n C dX4_init_9 rfl rfl ?_
  refine r_iload_n C dX4_init_10 rfl rfl ?_
  have g3 : hT h2 this = 6 := by rw [eh2]; exact g1
  obtain ⟨h4, eh4⟩ : ∃ z, z = sI h2 this 1 p1 := ⟨_, rfl⟩
  replace hw := hw h4 eh4
  refine p_FI C K6 ob6 g3 (by decide) 1 (by decide) w_419 (fun _ z => z) rfl rfl rfl (by decide +kernel) (Nat.le_of_ble_eq_true rfl) rfl dX4_init_11 eh4 ?_
  refine r_aload_n C dX4_init_14 rfl rfl ?_
  refine r_iload_n C dX4_init_15 rfl rfl ?_
  have g5 : hT h4 this = 6 := by rw [eh4]; exact g3
  obtain ⟨h6, eh6⟩ : ∃ z, z = sI h4 this 2 p2 := ⟨_, rfl⟩
  replace hw := hw h6 eh6
  refine p_FI C K6 ob6 g5 (by decide) 2 (by decide) w_421 (fun _ z => z) rfl rfl rfl (by decide +kernel) (Nat.le_of_ble_eq_true rfl) rfl dX4_init_16 eh6 ?_
  exact r_vret C dX4_init_19 (by decide) (by decide) ⟨rfl, hw⟩
theorem v_X4_init : MI yX4_init cX4_init 4 3 := ⟨w_415, w_414, w_57, rfl, ⟨by decide +kernel, by decide +kernel, by decide +kernel⟩⟩

